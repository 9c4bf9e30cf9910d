abbrev cX3_moveInCode : ByteArray := prog_5_method_27_code
def yX3_moveInCode : MethodName := ⟨RX3, "moveInCode", "()V"⟩
abbrev cX3_moveLine : ByteArray := prog_5_method_28_code
def yX3_moveLine : MethodName := ⟨RX3, "moveLine", "(LGearbox$Steps;II)V"⟩
theorem dX3_moveInCode_0 : decode cX3_moveInCode 0 = .ok (.aload_n 0, 1) := by decide +kernel
theorem dX3_moveInCode_1 : decode cX3_moveInCode 1 = .ok (.getfield 84, 3) := by decide +kernel
theorem dX3_moveInCode_4 : decode cX3_moveInCode 4 = .ok (.iconst 1, 1) := by decide +kernel
theorem dX3_moveInCode_5 : decode cX3_moveInCode 5 = .ok (.isub, 1) := by decide +kernel
theorem dX3_moveInCode_6 : decode cX3_moveInCode 6 = .ok (.istore_n 1, 1) := by decide +kernel
theorem dX3_moveInCode_7 : decode cX3_moveInCode 7 = .ok (.aload_n 0, 1) := by decide +kernel
theorem dX3_moveInCode_8 : decode cX3_moveInCode 8 = .ok (.getfield 50, 3) := by decide +kernel
theorem dX3_moveInCode_11 : decode cX3_moveInCode 11 = .ok (.getfield 263, 3) := by decide +kernel
theorem dX3_moveInCode_14 : decode cX3_moveInCode 14 = .ok (.aload_n 0, 1) := by decide +kernel
theorem dX3_moveInCode_15 : decode cX3_moveInCode 15 = .ok (.getfield 18, 3) := by decide +kernel
theorem dX3_moveInCode_18 : decode cX3_moveInCode 18 = .ok (.iload_n 1, 1) := by decide +kernel
theorem dX3_moveInCode_19 : decode cX3_moveInCode 19 = .ok (.iaload, 1) := by decide +kernel
theorem dX3_moveInCode_20 : decode cX3_moveInCode 20 = .ok (.aaload, 1) := by decide +kernel
theorem dX3_moveInCode_21 : decode cX3_moveInCode 21 = .ok (.astore_n 2, 1) := by decide +kernel
theorem dX3_moveInCode_22 : decode cX3_moveInCode 22 = .ok (.aload_n 0, 1) := by decide +kernel
theorem dX3_moveInCode_23 : decode cX3_moveInCode 23 = .ok (.getfield 21, 3) := by decide +kernel
theorem dX3_moveInCode_26 : decode cX3_moveInCode 26 = .ok (.iload_n 1, 1) := by decide +kernel
theorem dX3_moveInCode_27 : decode cX3_moveInCode 27 = .ok (.iaload, 1) := by decide +kernel
theorem dX3_moveInCode_28 : decode cX3_moveInCode 28 = .ok (.istore_n 3, 1) := by decide +kernel
theorem dX3_moveInCode_29 : decode cX3_moveInCode 29 = .ok (.aload_n 0, 1) := by decide +kernel
theorem dX3_moveInCode_30 : decode cX3_moveInCode 30 = .ok (.iconst 1, 1) := by decide +kernel
theorem dX3_moveInCode_31 : decode cX3_moveInCode 31 = .ok (.invokevirtual 161, 3) := by decide +kernel
theorem dX3_moveInCode_34 : decode cX3_moveInCode 34 = .ok (.ifCond .ne 4, 3) := by decide +kernel
theorem dX3_moveInCode_37 : decode cX3_moveInCode 37 = .ok (.return_, 1) := by decide +kernel
theorem dX3_moveInCode_38 : decode cX3_moveInCode 38 = .ok (.aload_n 0, 1) := by decide +kernel
theorem dX3_moveInCode_39 : decode cX3_moveInCode 39 = .ok (.getfield 21, 3) := by decide +kernel
theorem dX3_moveInCode_42 : decode cX3_moveInCode 42 = .ok (.iload_n 1, 1) := by decide +kernel
theorem dX3_moveInCode_43 : decode cX3_moveInCode 43 = .ok (.iload_n 3, 1) := by decide +kernel
theorem dX3_moveInCode_44 : decode cX3_moveInCode 44 = .ok (.iconst 1, 1) := by decide +kernel
theorem dX3_moveInCode_45 : decode cX3_moveInCode 45 = .ok (.iadd, 1) := by decide +kernel
theorem dX3_moveInCode_46 : decode cX3_moveInCode 46 = .ok (.iastore, 1) := by decide +kernel
theorem dX3_moveInCode_47 : decode cX3_moveInCode 47 = .ok (.iload_n 1, 1) := by decide +kernel
theorem dX3_moveInCode_48 : decode cX3_moveInCode 48 = .ok (.sipush 320, 3) := by decide +kernel
theorem dX3_moveInCode_51 : decode cX3_moveInCode 51 = .ok (.imul, 1) := by decide +kernel
theorem dX3_moveInCode_52 : decode cX3_moveInCode 52 = .ok (.istore 4, 2) := by decide +kernel
theorem dX3_moveInCode_54 : decode cX3_moveInCode 54 = .ok (.aload_n 2, 1) := by decide +kernel
theorem dX3_moveInCode_55 : decode cX3_moveInCode 55 = .ok (.getfield 257, 3) := by decide +kernel
theorem dX3_moveInCode_58 : decode cX3_moveInCode 58 = .ok (.iload_n 3, 1) := by decide +kernel
theorem dX3_moveInCode_59 : decode cX3_moveInCode 59 = .ok (.iaload, 1) := by decide +kernel
theorem dX3_moveInCode_60 : decode cX3_moveInCode 60 = .ok (.istore 5, 2) := by decide +kernel
theorem dX3_moveInCode_62 : decode cX3_moveInCode 62 = .ok (.aload_n 2, 1) := by decide +kernel
theorem dX3_moveInCode_63 : decode cX3_moveInCode 63 = .ok (.getfield 254, 3) := by decide +kernel
theorem dX3_moveInCode_66 : decode cX3_moveInCode 66 = .ok (.iload_n 3, 1) := by decide +kernel
theorem dX3_moveInCode_67 : decode cX3_moveInCode 67 = .ok (.iaload, 1) := by decide +kernel
theorem dX3_moveInCode_68 : decode cX3_moveInCode 68 = .ok (.tableswitch 278 22 28 #[44, 55, 111, 189, 216, 247, 83], 44) := by decide +kernel
theorem dX3_moveInCode_112 : decode cX3_moveInCode 112 = .ok (.aload_n 0, 1) := by decide +kernel
theorem dX3_moveInCode_113 : decode cX3_moveInCode 113 = .ok (.getfield 21, 3) := by decide +kernel
theorem dX3_moveInCode_116 : decode cX3_moveInCode 116 = .ok (.iload_n 1, 1) := by decide +kernel
theorem dX3_moveInCode_117 : decode cX3_moveInCode 117 = .ok (.iload 5, 2) := by decide +kernel
theorem dX3_moveInCode_119 : decode cX3_moveInCode 119 = .ok (.iastore, 1) := by decide +kernel
theorem dX3_moveInCode_120 : decode cX3_moveInCode 120 = .ok (.goto 233, 3) := by decide +kernel
theorem dX3_moveInCode_123 : decode cX3_moveInCode 123 = .ok (.aload_n 0, 1) := by decide +kernel
theorem dX3_moveInCode_124 : decode cX3_moveInCode 124 = .ok (.getfield 33, 3) := by decide +kernel
theorem dX3_moveInCode_127 : decode cX3_moveInCode 127 = .ok (.iload 4, 2) := by decide +kernel
theorem dX3_moveInCode_129 : decode cX3_moveInCode 129 = .ok (.iload 5, 2) := by decide +kernel
theorem dX3_moveInCode_131 : decode cX3_moveInCode 131 = .ok (.iadd, 1) := by decide +kernel
theorem dX3_moveInCode_132 : decode cX3_moveInCode 132 = .ok (.iaload, 1) := by decide +kernel
theorem dX3_moveInCode_133 : decode cX3_moveInCode 133 = .ok (.ifCond .eq 220, 3) := by decide +kernel
theorem dX3_moveInCode_136 : decode cX3_moveInCode 136 = .ok (.aload_n 0, 1) := by decide +kernel
theorem dX3_moveInCode_137 : decode cX3_moveInCode 137 = .ok (.getfield 21, 3) := by decide +kernel
theorem dX3_moveInCode_140 : decode cX3_moveInCode 140 = .ok (.iload_n 1, 1) := by decide +kernel
theorem dX3_moveInCode_141 : decode cX3_moveInCode 141 = .ok (.aload_n 2, 1) := by decide +kernel
theorem dX3_moveInCode_142 : decode cX3_moveInCode 142 = .ok (.getfield 260, 3) := by decide +kernel
theorem dX3_moveInCode_145 : decode cX3_moveInCode 145 = .ok (.iload_n 3, 1) := by decide +kernel
theorem dX3_moveInCode_146 : decode cX3_moveInCode 146 = .ok (.iaload, 1) := by decide +kernel
theorem dX3_moveInCode_147 : decode cX3_moveInCode 147 = .ok (.iastore, 1) := by decide +kernel
theorem dX3_moveInCode_148 : decode cX3_moveInCode 148 = .ok (.goto 205, 3) := by decide +kernel
theorem dX3_moveInCode_151 : decode cX3_moveInCode 151 = .ok (.aload_n 0, 1) := by decide +kernel
theorem dX3_moveInCode_152 : decode cX3_moveInCode 152 = .ok (.getfield 33, 3) := by decide +kernel
theorem dX3_moveInCode_155 : decode cX3_moveInCode 155 = .ok (.iload 4, 2) := by decide +kernel
theorem dX3_moveInCode_157 : decode cX3_moveInCode 157 = .ok (.iload 5, 2) := by decide +kernel
theorem dX3_moveInCode_159 : decode cX3_moveInCode 159 = .ok (.iadd, 1) := by decide +kernel
theorem dX3_moveInCode_160 : decode cX3_moveInCode 160 = .ok (.iaload, 1) := by decide +kernel
theorem dX3_moveInCode_161 : decode cX3_moveInCode 161 = .ok (.ifCond .ne 192, 3) := by decide +kernel
theorem dX3_moveInCode_164 : decode cX3_moveInCode 164 = .ok (.aload_n 0, 1) := by decide +kernel
theorem dX3_moveInCode_165 : decode cX3_moveInCode 165 = .ok (.getfield 21, 3) := by decide +kernel
theorem dX3_moveInCode_168 : decode cX3_moveInCode 168 = .ok (.iload_n 1, 1) := by decide +kernel
theorem dX3_moveInCode_169 : decode cX3_moveInCode 169 = .ok (.aload_n 2, 1) := by decide +kernel
theorem dX3_moveInCode_170 : decode cX3_moveInCode 170 = .ok (.getfield 260, 3) := by decide +kernel
theorem dX3_moveInCode_173 : decode cX3_moveInCode 173 = .ok (.iload_n 3, 1) := by decide +kernel
theorem dX3_moveInCode_174 : decode cX3_moveInCode 174 = .ok (.iaload, 1) := by decide +kernel
theorem dX3_moveInCode_175 : decode cX3_moveInCode 175 = .ok (.iastore, 1) := by decide +kernel
theorem dX3_moveInCode_176 : decode cX3_moveInCode 176 = .ok (.goto 177, 3) := by decide +kernel
theorem dX3_moveInCode_179 : decode cX3_moveInCode 179 = .ok (.aload_n 0, 1) := by decide +kernel
theorem dX3_moveInCode_180 : decode cX3_moveInCode 180 = .ok (.getfield 33, 3) := by decide +kernel
theorem dX3_moveInCode_183 : decode cX3_moveInCode 183 = .ok (.iload 4, 2) := by decide +kernel
theorem dX3_moveInCode_185 : decode cX3_moveInCode 185 = .ok (.iload 5, 2) := by decide +kernel
theorem dX3_moveInCode_187 : decode cX3_moveInCode 187 = .ok (.iadd, 1) := by decide +kernel
theorem dX3_moveInCode_188 : decode cX3_moveInCode 188 = .ok (.iaload, 1) := by decide +kernel
theorem dX3_moveInCode_189 : decode cX3_moveInCode 189 = .ok (.istore 6, 2) := by decide +kernel
theorem dX3_moveInCode_191 : decode cX3_moveInCode 191 = .ok (.aload_n 0, 1) := by decide +kernel
theorem dX3_moveInCode_192 : decode cX3_moveInCode 192 = .ok (.iload 6, 2) := by decide +kernel
theorem dX3_moveInCode_194 : decode cX3_moveInCode 194 = .ok (.invokevirtual 197, 3) := by decide +kernel
theorem dX3_moveInCode_197 : decode cX3_moveInCode 197 = .ok (.ifCond .eq 156, 3) := by decide +kernel
theorem dX3_moveInCode_200 : decode cX3_moveInCode 200 = .ok (.aload_n 0, 1) := by decide +kernel
theorem dX3_moveInCode_201 : decode cX3_moveInCode 201 = .ok (.getfield 84, 3) := by decide +kernel
theorem dX3_moveInCode_204 : decode cX3_moveInCode 204 = .ok (.iconst 1, 1) := by decide +kernel
theorem dX3_moveInCode_205 : decode cX3_moveInCode 205 = .ok (.isub, 1) := by decide +kernel
theorem dX3_moveInCode_206 : decode cX3_moveInCode 206 = .ok (.istore 7, 2) := by decide +kernel
theorem dX3_moveInCode_208 : decode cX3_moveInCode 208 = .ok (.aload_n 0, 1) := by decide +kernel
theorem dX3_moveInCode_209 : decode cX3_moveInCode 209 = .ok (.getfield 50, 3) := by decide +kernel
theorem dX3_moveInCode_212 : decode cX3_moveInCode 212 = .ok (.getfield 263, 3) := by decide +kernel
theorem dX3_moveInCode_215 : decode cX3_moveInCode 215 = .ok (.aload_n 0, 1) := by decide +kernel
theorem dX3_moveInCode_216 : decode cX3_moveInCode 216 = .ok (.getfield 18, 3) := by decide +kernel
theorem dX3_moveInCode_219 : decode cX3_moveInCode 219 = .ok (.iload 7, 2) := by decide +kernel
theorem dX3_moveInCode_221 : decode cX3_moveInCode 221 = .ok (.iaload, 1) := by decide +kernel
theorem dX3_moveInCode_222 : decode cX3_moveInCode 222 = .ok (.aaload, 1) := by decide +kernel
theorem dX3_moveInCode_223 : decode cX3_moveInCode 223 = .ok (.getfield 251, 3) := by decide +kernel
theorem dX3_moveInCode_226 : decode cX3_moveInCode 226 = .ok (.aload_n 0, 1) := by decide +kernel
theorem dX3_moveInCode_227 : decode cX3_moveInCode 227 = .ok (.getfield 21, 3) := by decide +kernel
theorem dX3_moveInCode_230 : decode cX3_moveInCode 230 = .ok (.iload 7, 2) := by decide +kernel
theorem dX3_moveInCode_232 : decode cX3_moveInCode 232 = .ok (.iaload, 1) := by decide +kernel
theorem dX3_moveInCode_233 : decode cX3_moveInCode 233 = .ok (.iconst 1, 1) := by decide +kernel
theorem dX3_moveInCode_234 : decode cX3_moveInCode 234 = .ok (.isub, 1) := by decide +kernel
theorem dX3_moveInCode_235 : decode cX3_moveInCode 235 = .ok (.iaload, 1) := by decide +kernel
theorem dX3_moveInCode_236 : decode cX3_moveInCode 236 = .ok (.istore 8, 2) := by decide +kernel
theorem dX3_moveInCode_238 : decode cX3_moveInCode 238 = .ok (.aload_n 0, 1) := by decide +kernel
theorem dX3_moveInCode_239 : decode cX3_moveInCode 239 = .ok (.getfield 33, 3) := by decide +kernel
theorem dX3_moveInCode_242 : decode cX3_moveInCode 242 = .ok (.iload 7, 2) := by decide +kernel
theorem dX3_moveInCode_244 : decode cX3_moveInCode 244 = .ok (.sipush 320, 3) := by decide +kernel
theorem dX3_moveInCode_247 : decode cX3_moveInCode 247 = .ok (.imul, 1) := by decide +kernel
theorem dX3_moveInCode_248 : decode cX3_moveInCode 248 = .ok (.iload 8, 2) := by decide +kernel
theorem dX3_moveInCode_250 : decode cX3_moveInCode 250 = .ok (.iadd, 1) := by decide +kernel
theorem dX3_moveInCode_251 : decode cX3_moveInCode 251 = .ok (.iload 6, 2) := by decide +kernel
theorem dX3_moveInCode_253 : decode cX3_moveInCode 253 = .ok (.iastore, 1) := by decide +kernel
theorem dX3_moveInCode_254 : decode cX3_moveInCode 254 = .ok (.goto 99, 3) := by decide +kernel
theorem dX3_moveInCode_257 : decode cX3_moveInCode 257 = .ok (.aload_n 0, 1) := by decide +kernel
theorem dX3_moveInCode_258 : decode cX3_moveInCode 258 = .ok (.getfield 33, 3) := by decide +kernel
theorem dX3_moveInCode_261 : decode cX3_moveInCode 261 = .ok (.iload 4, 2) := by decide +kernel
theorem dX3_moveInCode_263 : decode cX3_moveInCode 263 = .ok (.aload_n 2, 1) := by decide +kernel
theorem dX3_moveInCode_264 : decode cX3_moveInCode 264 = .ok (.getfield 251, 3) := by decide +kernel
theorem dX3_moveInCode_267 : decode cX3_moveInCode 267 = .ok (.iload_n 3, 1) := by decide +kernel
theorem dX3_moveInCode_268 : decode cX3_moveInCode 268 = .ok (.iaload, 1) := by decide +kernel
theorem dX3_moveInCode_269 : decode cX3_moveInCode 269 = .ok (.iadd, 1) := by decide +kernel
theorem dX3_moveInCode_270 : decode cX3_moveInCode 270 = .ok (.aload_n 0, 1) := by decide +kernel
theorem dX3_moveInCode_271 : decode cX3_moveInCode 271 = .ok (.getfield 33, 3) := by decide +kernel
theorem dX3_moveInCode_274 : decode cX3_moveInCode 274 = .ok (.iload 4, 2) := by decide +kernel
theorem dX3_moveInCode_276 : decode cX3_moveInCode 276 = .ok (.iload 5, 2) := by decide +kernel
theorem dX3_moveInCode_278 : decode cX3_moveInCode 278 = .ok (.iadd, 1) := by decide +kernel
theorem dX3_moveInCode_279 : decode cX3_moveInCode 279 = .ok (.iaload, 1) := by decide +kernel
theorem dX3_moveInCode_280 : decode cX3_moveInCode 280 = .ok (.iastore, 1) := by decide +kernel
theorem dX3_moveInCode_281 : decode cX3_moveInCode 281 = .ok (.goto 72, 3) := by decide +kernel
theorem dX3_moveInCode_284 : decode cX3_moveInCode 284 = .ok (.aload_n 0, 1) := by decide +kernel
theorem dX3_moveInCode_285 : decode cX3_moveInCode 285 = .ok (.getfield 33, 3) := by decide +kernel
theorem dX3_moveInCode_288 : decode cX3_moveInCode 288 = .ok (.iload 4, 2) := by decide +kernel
theorem dX3_moveInCode_290 : decode cX3_moveInCode 290 = .ok (.aload_n 2, 1) := by decide +kernel
theorem dX3_moveInCode_291 : decode cX3_moveInCode 291 = .ok (.getfield 251, 3) := by decide +kernel
theorem dX3_moveInCode_294 : decode cX3_moveInCode 294 = .ok (.iload_n 3, 1) := by decide +kernel
theorem dX3_moveInCode_295 : decode cX3_moveInCode 295 = .ok (.iaload, 1) := by decide +kernel
theorem dX3_moveInCode_296 : decode cX3_moveInCode 296 = .ok (.iadd, 1) := by decide +kernel
theorem dX3_moveInCode_297 : decode cX3_moveInCode 297 = .ok (.aload_n 0, 1) := by decide +kernel
theorem dX3_moveInCode_298 : decode cX3_moveInCode 298 = .ok (.getfield 36, 3) := by decide +kernel
theorem dX3_moveInCode_301 : decode cX3_moveInCode 301 = .ok (.iload_n 1, 1) := by decide +kernel
theorem dX3_moveInCode_302 : decode cX3_moveInCode 302 = .ok (.aload_n 0, 1) := by decide +kernel
theorem dX3_moveInCode_303 : decode cX3_moveInCode 303 = .ok (.getfield 116, 3) := by decide +kernel
theorem dX3_moveInCode_306 : decode cX3_moveInCode 306 = .ok (.imul, 1) := by decide +kernel
theorem dX3_moveInCode_307 : decode cX3_moveInCode 307 = .ok (.iload 5, 2) := by decide +kernel
theorem dX3_moveInCode_309 : decode cX3_moveInCode 309 = .ok (.iadd, 1) := by decide +kernel
theorem dX3_moveInCode_310 : decode cX3_moveInCode 310 = .ok (.iaload, 1) := by decide +kernel
theorem dX3_moveInCode_311 : decode cX3_moveInCode 311 = .ok (.iastore, 1) := by decide +kernel
theorem dX3_moveInCode_312 : decode cX3_moveInCode 312 = .ok (.goto 41, 3) := by decide +kernel
theorem dX3_moveInCode_315 : decode cX3_moveInCode 315 = .ok (.aload_n 0, 1) := by decide +kernel
theorem dX3_moveInCode_316 : decode cX3_moveInCode 316 = .ok (.getfield 36, 3) := by decide +kernel
theorem dX3_moveInCode_319 : decode cX3_moveInCode 319 = .ok (.iload_n 1, 1) := by decide +kernel
theorem dX3_moveInCode_320 : decode cX3_moveInCode 320 = .ok (.aload_n 0, 1) := by decide +kernel
theorem dX3_moveInCode_321 : decode cX3_moveInCode 321 = .ok (.getfield 116, 3) := by decide +kernel
theorem dX3_moveInCode_324 : decode cX3_moveInCode 324 = .ok (.imul, 1) := by decide +kernel
theorem dX3_moveInCode_325 : decode cX3_moveInCode 325 = .ok (.aload_n 2, 1) := by decide +kernel
theorem dX3_moveInCode_326 : decode cX3_moveInCode 326 = .ok (.getfield 260, 3) := by decide +kernel
theorem dX3_moveInCode_329 : decode cX3_moveInCode 329 = .ok (.iload_n 3, 1) := by decide +kernel
theorem dX3_moveInCode_330 : decode cX3_moveInCode 330 = .ok (.iaload, 1) := by decide +kernel
theorem dX3_moveInCode_331 : decode cX3_moveInCode 331 = .ok (.iadd, 1) := by decide +kernel
theorem dX3_moveInCode_332 : decode cX3_moveInCode 332 = .ok (.aload_n 0, 1) := by decide +kernel
theorem dX3_moveInCode_333 : decode cX3_moveInCode 333 = .ok (.getfield 33, 3) := by decide +kernel
theorem dX3_moveInCode_336 : decode cX3_moveInCode 336 = .ok (.iload 4, 2) := by decide +kernel
theorem dX3_moveInCode_338 : decode cX3_moveInCode 338 = .ok (.iload 5, 2) := by decide +kernel
theorem dX3_moveInCode_340 : decode cX3_moveInCode 340 = .ok (.iadd, 1) := by decide +kernel
theorem dX3_moveInCode_341 : decode cX3_moveInCode 341 = .ok (.iaload, 1) := by decide +kernel
theorem dX3_moveInCode_342 : decode cX3_moveInCode 342 = .ok (.iastore, 1) := by decide +kernel
theorem dX3_moveInCode_343 : decode cX3_moveInCode 343 = .ok (.goto 10, 3) := by decide +kernel
theorem dX3_moveInCode_346 : decode cX3_moveInCode 346 = .ok (.aload_n 0, 1) := by decide +kernel
theorem dX3_moveInCode_347 : decode cX3_moveInCode 347 = .ok (.aload_n 2, 1) := by decide +kernel
theorem dX3_moveInCode_348 : decode cX3_moveInCode 348 = .ok (.iload_n 1, 1) := by decide +kernel
theorem dX3_moveInCode_349 : decode cX3_moveInCode 349 = .ok (.iload_n 3, 1) := by decide +kernel
theorem dX3_moveInCode_350 : decode cX3_moveInCode 350 = .ok (.invokevirtual 267, 3) := by decide +kernel
theorem dX3_moveInCode_353 : decode cX3_moveInCode 353 = .ok (.return_, 1) := by decide +kernel
theorem dX3_moveLine_0 : decode cX3_moveLine 0 = .ok (.aload_n 1, 1) := by decide +kernel
theorem dX3_moveLine_1 : decode cX3_moveLine 1 = .ok (.getfield 254, 3) := by decide +kernel
theorem dX3_moveLine_4 : decode cX3_moveLine 4 = .ok (.iload_n 3, 1) := by decide +kernel
theorem dX3_moveLine_5 : decode cX3_moveLine 5 = .ok (.iaload, 1) := by decide +kernel
theorem dX3_moveLine_6 : decode cX3_moveLine 6 = .ok (.bipush 20, 2) := by decide +kernel
theorem dX3_moveLine_8 : decode cX3_moveLine 8 = .ok (.if_icmp .ne 17, 3) := by decide +kernel
theorem dX3_moveLine_11 : decode cX3_moveLine 11 = .ok (.aload_n 0, 1) := by decide +kernel
theorem dX3_moveLine_12 : decode cX3_moveLine 12 = .ok (.iconst 2, 1) := by decide +kernel
theorem dX3_moveLine_13 : decode cX3_moveLine 13 = .ok (.aload_n 1, 1) := by decide +kernel
theorem dX3_moveLine_14 : decode cX3_moveLine 14 = .ok (.getfield 257, 3) := by decide +kernel
theorem dX3_moveLine_17 : decode cX3_moveLine 17 = .ok (.iload_n 3, 1) := by decide +kernel
theorem dX3_moveLine_18 : decode cX3_moveLine 18 = .ok (.iaload, 1) := by decide +kernel
theorem dX3_moveLine_19 : decode cX3_moveLine 19 = .ok (.invokevirtual 102, 3) := by decide +kernel
theorem dX3_moveLine_22 : decode cX3_moveLine 22 = .ok (.goto 10, 3) := by decide +kernel
theorem dX3_moveLine_25 : decode cX3_moveLine 25 = .ok (.aload_n 0, 1) := by decide +kernel
theorem dX3_moveLine_26 : decode cX3_moveLine 26 = .ok (.aload_n 1, 1) := by decide +kernel
theorem dX3_moveLine_27 : decode cX3_moveLine 27 = .ok (.iload_n 2, 1) := by decide +kernel
theorem dX3_moveLine_28 : decode cX3_moveLine 28 = .ok (.iload_n 3, 1) := by decide +kernel
theorem dX3_moveLine_29 : decode cX3_moveLine 29 = .ok (.invokevirtual 217, 3) := by decide +kernel
theorem dX3_moveLine_32 : decode cX3_moveLine 32 = .ok (.return_, 1) := by decide +kernel
theorem qw988 : Cond.fieldLink RX3 263 "Gearbox$Allocator" "code" "[LGearbox$Steps;" ∈ gw := mq_3 (i := 88) rfl rfl
theorem qw989 : Cond.code yX3_moveLine cX3_moveLine 4 (Option.none : Option Jvm.ClassFile.FieldType) ∈ gw := mq_10 (i := 25) rfl rfl
theorem qw990 : Cond.methodLink RX3 267 yX3_moveLine ∈ gw := mq_10 (i := 22) rfl rfl
theorem qw991 : Cond.instanceMethod yX3_moveLine ∈ gw := mq_10 (i := 24) rfl rfl
theorem qw992 : Cond.selects RX3 yX3_moveLine yX3_moveLine ∈ gw := mk_s (i := 111) rfl rfl
def fX3_moveLine_J32 (p0w_32 : ST) : Option ST := some p0w_32
def fX3_moveLine (p0n : Nat → Nat) (p0w : ST) (p1n : Nat → Nat) (p1w : ST) (p2 : Int32) (p3 : Int32) (p0_4w : ST) : Option ST := (if ixb p3 (p1n 2) = true then (if (p1w 2 (nn p3)) = 20 then (if ixb p3 (p1n 4) = true then ((fX3_enter p0n p0w 2 (p1w 4 (nn p3)) p0_4w).bind fun (o_4 : ST) => (fX3_moveLine_J32 o_4)) else none) else ((fX3_moveStep p0n p0w p1n p1w p2 p3 p0_4w).bind fun (o_5 : ST) => (fX3_moveLine_J32 o_5))) else none)
set_option maxHeartbeats 16000000 in
set_option maxRecDepth 100000 in
theorem kX3_moveLine {zs : ZS} (l : Launch) (dC : Nat → ClassId) (dI : Nat → Nat → Nat) (p0a : Nat → Nat) (p0k : Nat → ClassId) (p0n : Nat → Nat) (p0w : ST) (p1a : Nat → Nat) (p1k : Nat → ClassId) (p1n : Nat → Nat) (p1w : ST) (p2 : Int32) (p3 : Int32) (p0_4a : Nat → Nat) (p0_4k : Nat → ClassId) (p0_4w : ST) (p0_4l : SL) (sz : Nat) (o : ST) (hrun : fX3_moveLine p0n p0w p1n p1w p2 p3 p0_4w = some o) : Met l yX3_moveLine (wz yX3_moveLine cX3_moveLine 4 (Option.none : Option Jvm.ClassFile.FieldType)) ({ frames := 4, cells := 0, slots := 0, locals := 97 } : Room) (va_Pc [.ref (p0a 0), .ref (p1a 0), .int p2, .int p3] (PRE zs dC dI (List.flatten ([(oX3 (p0a 0) p0a p0k p0n p0w), (oX9 (p1a 0) p1a p1k p1n p1w), (oX6 (p0a 5) p0_4a p0_4k p0_4w p0_4l)] : List va_W)) (List.flatten ([(tX3 p0k), (tX9 p1k), (tX6 p0_4k)] : List (List (ClassId × FieldType)))) sz)) (va_Qv (fun (_ : Unit) => True) (fun _ t => POST dC dI (List.flatten ([(oX3 (p0a 0) p0a p0k p0n o), (oX9 (p1a 0) p1a p1k p1n p1w), (oX6 (p0a 5) p0_4a p0_4k p0_4w p0_4l)] : List va_W)) (List.flatten ([(tX3 p0k), (tX9 p1k), (tX6 p0_4k)] : List (List (ClassId × FieldType)))) (va_A (List.flatten ([(oX3 (p0a 0) p0a p0k p0n p0w), (oX9 (p1a 0) p1a p1k p1n p1w), (oX6 (p0a 5) p0_4a p0_4k p0_4w p0_4l)] : List va_W)) sz) t) (va_A (List.flatten ([(oX3 (p0a 0) p0a p0k p0n p0w), (oX9 (p1a 0) p1a p1k p1n p1w), (oX6 (p0a 5) p0_4a p0_4k p0_4w p0_4l)] : List va_W)) sz)) 0 0 (va_A (List.flatten ([(oX3 (p0a 0) p0a p0k p0n p0w), (oX9 (p1a 0) p1a p1k p1n p1w), (oX6 (p0a 5) p0_4a p0_4k p0_4w p0_4l)] : List va_W)) sz) := by
  refine Met.ofW (cc := cX3_moveLine) (maxL := 4) (ret := (Option.none : Option Jvm.ClassFile.FieldType)) (by decide) rfl ?_
  intro p e s m args below meth c s₁ B hml hv
  obtain ⟨rfl, hsz, hP, hK, hD0, hE⟩ := hv
  have hx := B.exec
  have hb := B.bytes
  have hr := B.returns
  have hts0 := atoms_spec (ws := wz yX3_moveLine cX3_moveLine 4 (Option.none : Option Jvm.ClassFile.FieldType)) B.pre
  have hts : ∀ w ∈ gw, w.before _ s = true := fun w h => hts0 w (List.mem_cons_of_mem _ h)
  have hown : s.vm.findClass RX3 = some m.cls := findClass_of_methodNamed B.named
  have hlocks := B.notSynchronized
  subst hsz
  have hD := hD0.self (sz := s.heap.size)
  refine gQ9 ?_
  intro Q hQ
  generalize hAe : va_A (List.flatten ([(oX3 (p0a 0) p0a p0k p0n p0w), (oX9 (p1a 0) p1a p1k p1n p1w), (oX6 (p0a 5) p0_4a p0_4k p0_4w p0_4l)] : List va_W)) s.heap.size = A at hD hE hQ
  have hA : ∀ q : Nat, s.heap.size ≤ q → A q := fun q h => by rw [← hAe]; exact Or.inr h
  have hS : va_S A s.heap s.heap [] := va_S.rf
  have hP : va_P (dC, dI) cls (List.flatten ([(oX3 (p0a 0) p0a p0k p0n p0w), (oX9 (p1a 0) p1a p1k p1n p1w), (oX6 (p0a 5) p0_4a p0_4k p0_4w p0_4l)] : List va_W)) s.heap := hP
  have hl := lv_entry ([.ref (p0a 0), .ref (p1a 0), .int p2, .int p3]) (n := 4) (Nat.le_of_ble_eq_true rfl)
  rw [lg_entry_eq]
  generalize (lg_sl ([.ref (p0a 0), .ref (p1a 0), .int p2, .int p3]) ++ List.replicate (4 - (lg_sl ([.ref (p0a 0), .ref (p1a 0), .int p2, .int p3])).length) Slot.unset).toArray = ls at hl ⊢
  have hl : lv_has ls 4 [(0, .ref (p0a 0)), (1, .ref (p1a 0)), (2, .int p2), (3, .int p3)] := hl
  obtain ⟨H, hHe⟩ : ∃ H, H = s.heap := ⟨_, rfl⟩
  obtain ⟨locs, hle⟩ : ∃ locs : List Loc, locs = [] := ⟨_, rfl⟩
  rw [← hHe] at hP
  have hS : va_S A s.heap H locs := by rw [hHe, hle]; exact hS
  show W p l e ({ frames := 4, cells := 0, slots := 0, locals := 97 } : Room) s m ([.ref (p0a 0), .ref (p1a 0), .int p2, .int p3] : List Value).toArray below meth c s.heap [] 0 0 Q (F0 m 0 ls [])
  rw [← hle]
  refine wH9 hHe ?_
  unfold fX3_moveLine at hrun
  refine lv_aload_n hx hb dX3_moveLine_0 rfl (lv_at hl 1 rfl) ?_
  refine va_get (D := (dC, dI)) (ci := 3) (v := .ref (p1a 2)) (C := RX9) (T := TX9) (N := 6) hx hb hts i_X9 hown hK hP 11 rfl rfl 1 (by decide) (hts _ qw953) (fun _ h9 => h9) rfl dX3_moveLine_1 ?_
  refine lv_iload_n hx hb dX3_moveLine_4 rfl (lv_at hl 3 rfl) ?_
  obtain ⟨hq1, hrun⟩ := chk9 hrun
  refine va_iald hx hb hK hP 12 10 rfl rfl (ixb_in hq1) dX3_moveLine_5 ?_
  refine lv_bipush (v := 20) hx hb dX3_moveLine_6 (by decide) ?_
  have J32 : ∀ (p0w_32 : ST) (H : Heap) (locs : List Loc) (ls : Array Slot), (fX3_moveLine_J32 p0w_32) = some o → va_P (dC, dI) cls (List.flatten ([(oX3 (p0a 0) p0a p0k p0n p0w_32), (oX9 (p1a 0) p1a p1k p1n p1w), (oX6 (p0a 5) p0_4a p0_4k p0_4w p0_4l)] : List va_W)) H → va_D A (List.flatten ([(oX3 (p0a 0) p0a p0k p0n p0w_32), (oX9 (p1a 0) p1a p1k p1n p1w), (oX6 (p0a 5) p0_4a p0_4k p0_4w p0_4l)] : List va_W)) → va_K (dC, dI) cls (List.flatten ([(tX3 p0k), (tX9 p1k), (tX6 p0_4k)] : List (List (ClassId × FieldType)))) s → va_S A s.heap H locs → lv_has ls 4 [] → W p l e ({ frames := 4, cells := 0, slots := 0, locals := 97 } : Room) s m ([.ref (p0a 0), .ref (p1a 0), .int p2, .int p3] : List Value).toArray below meth c H locs 0 0 Q (F0 m 32 ls []) := by
    intro p0w_32 H locs ls hrun hP hD hK hS hl 
    unfold fX3_moveLine_J32 at hrun
    have ho9 : p0w_32 = o := Option.some.inj hrun
    have hP9 : va_P (dC, dI) cls (List.flatten ([(oX3 (p0a 0) p0a p0k p0n o), (oX9 (p1a 0) p1a p1k p1n p1w), (oX6 (p0a 5) p0_4a p0_4k p0_4w p0_4l)] : List va_W)) H := by first | exact hP | (rw [← ho9]; exact hP)
    have hD9 : va_D A (List.flatten ([(oX3 (p0a 0) p0a p0k p0n o), (oX9 (p1a 0) p1a p1k p1n p1w), (oX6 (p0a 5) p0_4a p0_4k p0_4w p0_4l)] : List va_W)) := by first | exact hD | (rw [← ho9]; exact hD)
    subst hQ
    exact W.vret hx hb hr (fun t ht hW => ⟨⟨(), rfl, trivial, ⟨by rw [ht]; exact hP9, va_K.moved hW.alike hK, hD9⟩⟩, hS.F ht⟩) hS.2.2 dX3_moveLine_32
  rcases br9 hrun with ⟨hc2, hrun⟩ | ⟨hc2, hrun⟩
  · refine lv_icmp_ne (tgt := 25) hx hb dX3_moveLine_8 (by decide) (fun c => absurd hc2 c) (fun _ => ?_)
    refine lv_aload_n hx hb dX3_moveLine_11 rfl (lv_at hl 0 rfl) ?_
    refine lv_iconst (v := 2) hx hb dX3_moveLine_12 (by decide) ?_
    refine lv_aload_n hx hb dX3_moveLine_13 rfl (lv_at hl 1 rfl) ?_
    refine va_get (D := (dC, dI)) (ci := 3) (v := .ref (p1a 4)) (C := RX9) (T := TX9) (N := 6) hx hb hts i_X9 hown hK hP 11 rfl rfl 3 (by decide) (hts _ qw954) (fun _ h9 => h9) rfl dX3_moveLine_14 ?_
    refine lv_iload_n hx hb dX3_moveLine_17 rfl (lv_at hl 3 rfl) ?_
    obtain ⟨hq3, hrun⟩ := chk9 hrun
    refine va_iald hx hb hK hP 14 12 rfl rfl (ixb_in hq3) dX3_moveLine_18 ?_
    obtain ⟨o_4, hc_4, hrun⟩ := bnd9 hrun
    have hPx : va_P (dC, dI) cls ((List.flatten ([(oX3 (p0a 0) p0a p0k p0n p0w), (oX6 (p0a 5) p0_4a p0_4k p0_4w p0_4l)] : List va_W)) ++ (List.flatten ([(oX9 (p1a 0) p1a p1k p1n p1w)] : List va_W))) H := vP_fa (vP_perm hP (bP (((List.Perm.refl _)).trans ((((((List.Perm.refl _)).cons _).trans (List.Perm.swap _ _ _))).cons _))))
    have hDx : va_D A ((List.flatten ([(oX3 (p0a 0) p0a p0k p0n p0w), (oX6 (p0a 5) p0_4a p0_4k p0_4w p0_4l)] : List va_W)) ++ (List.flatten ([(oX9 (p1a 0) p1a p1k p1n p1w)] : List va_W))) := vD_fa (vD_perm hD (bP (((List.Perm.refl _)).trans ((((((List.Perm.refl _)).cons _).trans (List.Perm.swap _ _ _))).cons _))))
    have hKx : va_K (dC, dI) cls ((List.flatten ([(tX3 p0k), (tX6 p0_4k)] : List (List (ClassId × FieldType)))) ++ (List.flatten ([(tX9 p1k)] : List (List (ClassId × FieldType))))) s := vK_fa (vK_perm hK (bP (((List.Perm.refl _)).trans ((((((List.Perm.refl _)).cons _).trans (List.Perm.swap _ _ _))).cons _))))
    have hPc := vP_l hPx
    have hDc := vD_l hDx
    have hKc := vK_l hKx
    have hFc := vfree hDx hS hA
    refine va_callv (va_runV (As := [.int 2, .int (p1w 4 (nn p3))]) (rest := []) ⟨hx, hb, hml, hown, hts⟩ (kX3_enter l dC dI (p0a := p0a) (p0k := p0k) (p0n := p0n) (p0w := p0w) (p1 := 2) (p2 := (p1w 4 (nn p3))) (p0_4a := p0_4a) (p0_4k := p0_4k) (p0_4w := p0_4w) (p0_4l := p0_4l) (sz := _) (o := o_4) (hrun := hc_4)) (cwV 2 hts (gi_V qw960 qw961 qw962 qw903 (gi_z qw959)) rfl rfl rfl (by decide +kernel) ⟨Nat.le_of_ble_eq_true rfl, Nat.le_of_ble_eq_true rfl⟩) ⟨PRE.blind, va_recv hKc hPc (ci := 10) (q0 := 0) rfl rfl, PRE.of hE hS hFc hPc hKc hDc⟩ rfl rfl hl.1 rfl (lv_room (Nat.le_of_ble_eq_true rfl)) dX3_moveLine_19 ⟨(Nat.le_of_ble_eq_true rfl), (Nat.le_of_ble_eq_true rfl)⟩) hS (fun q _ h => hFc q h) hFc (fun u t H locs ht hvm hw hB hz1 hk1 hS => ?_)
    obtain ⟨b1, b2, b3⟩ := hB
    rw [ht] at b1
    obtain ⟨hP, hD, hK⟩ := JOINC (wc := (List.flatten ([(oX3 (p0a 0) p0a p0k p0n p0w), (oX6 (p0a 5) p0_4a p0_4k p0_4w p0_4l)] : List va_W))) (wr := (List.flatten ([(oX9 (p1a 0) p1a p1k p1n p1w)] : List va_W))) (w1 := (List.flatten ([(oX3 (p0a 0) p0a p0k p0n o_4), (oX6 (p0a 5) p0_4a p0_4k p0_4w p0_4l)] : List va_W))) (t1 := (List.flatten ([(tX3 p0k), (tX6 p0_4k)] : List (List (ClassId × FieldType))))) hPx hDx hKx hk1 hFc b1 (va_K.moved hvm.symm b2) b3
    have hP : va_P (dC, dI) cls (List.flatten ([(oX3 (p0a 0) p0a p0k p0n o_4), (oX9 (p1a 0) p1a p1k p1n p1w), (oX6 (p0a 5) p0_4a p0_4k p0_4w p0_4l)] : List va_W)) H := vP_perm (vP_fb hP) (bP (((List.Perm.refl _)).trans ((((((List.Perm.refl _)).cons _).trans (List.Perm.swap _ _ _))).cons _)))
    have hD : va_D A (List.flatten ([(oX3 (p0a 0) p0a p0k p0n o_4), (oX9 (p1a 0) p1a p1k p1n p1w), (oX6 (p0a 5) p0_4a p0_4k p0_4w p0_4l)] : List va_W)) := vD_perm (vD_fb hD) (bP (((List.Perm.refl _)).trans ((((((List.Perm.refl _)).cons _).trans (List.Perm.swap _ _ _))).cons _)))
    have hK : va_K (dC, dI) cls (List.flatten ([(tX3 p0k), (tX9 p1k), (tX6 p0_4k)] : List (List (ClassId × FieldType)))) s := vK_perm (vK_fb hK) (bP (((List.Perm.refl _)).trans ((((((List.Perm.refl _)).cons _).trans (List.Perm.swap _ _ _))).cons _)))
    refine lv_goto (tgt := 32) hx hb dX3_moveLine_22 (by decide) ?_
    exact J32 o_4 _ _ _ hrun hP hD hK hS (lv_sub hl [] rfl)
  · refine lv_icmp_ne (tgt := 25) hx hb dX3_moveLine_8 (by decide) (fun _ => ?_) (fun c => absurd c hc2)
    refine lv_aload_n hx hb dX3_moveLine_25 rfl (lv_at hl 0 rfl) ?_
    refine lv_aload_n hx hb dX3_moveLine_26 rfl (lv_at hl 1 rfl) ?_
    refine lv_iload_n hx hb dX3_moveLine_27 rfl (lv_at hl 2 rfl) ?_
    refine lv_iload_n hx hb dX3_moveLine_28 rfl (lv_at hl 3 rfl) ?_
    obtain ⟨o_5, hc_5, hrun⟩ := bnd9 hrun
    have hPx : va_P (dC, dI) cls ((List.flatten ([(oX3 (p0a 0) p0a p0k p0n p0w), (oX9 (p1a 0) p1a p1k p1n p1w), (oX6 (p0a 5) p0_4a p0_4k p0_4w p0_4l)] : List va_W)) ++ (List.flatten ([] : List va_W))) H := vP_fa (vP_perm hP (bP (List.Perm.refl _)))
    have hDx : va_D A ((List.flatten ([(oX3 (p0a 0) p0a p0k p0n p0w), (oX9 (p1a 0) p1a p1k p1n p1w), (oX6 (p0a 5) p0_4a p0_4k p0_4w p0_4l)] : List va_W)) ++ (List.flatten ([] : List va_W))) := vD_fa (vD_perm hD (bP (List.Perm.refl _)))
    have hKx : va_K (dC, dI) cls ((List.flatten ([(tX3 p0k), (tX9 p1k), (tX6 p0_4k)] : List (List (ClassId × FieldType)))) ++ (List.flatten ([] : List (List (ClassId × FieldType))))) s := vK_fa (vK_perm hK (bP (List.Perm.refl _)))
    have hPc := vP_l hPx
    have hDc := vD_l hDx
    have hKc := vK_l hKx
    have hFc := vfree hDx hS hA
    refine va_callv (va_runV (As := [.ref (p1a 0), .int p2, .int p3]) (rest := []) ⟨hx, hb, hml, hown, hts⟩ (kX3_moveStep l dC dI (p0a := p0a) (p0k := p0k) (p0n := p0n) (p0w := p0w) (p1a := p1a) (p1k := p1k) (p1n := p1n) (p1w := p1w) (p2 := p2) (p3 := p3) (p0_4a := p0_4a) (p0_4k := p0_4k) (p0_4w := p0_4w) (p0_4l := p0_4l) (sz := _) (o := o_5) (hrun := hc_5)) (cwV 3 hts (gi_V qw981 qw982 qw983 qw903 (gi_z qw980)) rfl rfl rfl (by decide +kernel) ⟨Nat.le_of_ble_eq_true rfl, Nat.le_of_ble_eq_true rfl⟩) ⟨PRE.blind, va_recv hKc hPc (ci := 10) (q0 := 0) rfl rfl, PRE.of hE hS hFc hPc hKc hDc⟩ rfl rfl hl.1 rfl (lv_room (Nat.le_of_ble_eq_true rfl)) dX3_moveLine_29 ⟨(Nat.le_of_ble_eq_true rfl), (Nat.le_of_ble_eq_true rfl)⟩) hS (fun q _ h => hFc q h) hFc (fun u t H locs ht hvm hw hB hz1 hk1 hS => ?_)
    obtain ⟨b1, b2, b3⟩ := hB
    rw [ht] at b1
    obtain ⟨hP, hD, hK⟩ := JOINC (wc := (List.flatten ([(oX3 (p0a 0) p0a p0k p0n p0w), (oX9 (p1a 0) p1a p1k p1n p1w), (oX6 (p0a 5) p0_4a p0_4k p0_4w p0_4l)] : List va_W))) (wr := (List.flatten ([] : List va_W))) (w1 := (List.flatten ([(oX3 (p0a 0) p0a p0k p0n o_5), (oX9 (p1a 0) p1a p1k p1n p1w), (oX6 (p0a 5) p0_4a p0_4k p0_4w p0_4l)] : List va_W))) (t1 := (List.flatten ([(tX3 p0k), (tX9 p1k), (tX6 p0_4k)] : List (List (ClassId × FieldType))))) hPx hDx hKx hk1 hFc b1 (va_K.moved hvm.symm b2) b3
    have hP : va_P (dC, dI) cls (List.flatten ([(oX3 (p0a 0) p0a p0k p0n o_5), (oX9 (p1a 0) p1a p1k p1n p1w), (oX6 (p0a 5) p0_4a p0_4k p0_4w p0_4l)] : List va_W)) H := vP_perm (vP_fb hP) (bP (List.Perm.refl _))
    have hD : va_D A (List.flatten ([(oX3 (p0a 0) p0a p0k p0n o_5), (oX9 (p1a 0) p1a p1k p1n p1w), (oX6 (p0a 5) p0_4a p0_4k p0_4w p0_4l)] : List va_W)) := vD_perm (vD_fb hD) (bP (List.Perm.refl _))
    have hK : va_K (dC, dI) cls (List.flatten ([(tX3 p0k), (tX9 p1k), (tX6 p0_4k)] : List (List (ClassId × FieldType)))) s := vK_perm (vK_fb hK) (bP (List.Perm.refl _))
    exact J32 o_5 _ _ _ hrun hP hD hK hS (lv_sub hl [] rfl)
def fX3_moveInCode_J353 (p0w_353 : ST) : Option ST := some p0w_353
def fX3_moveInCode (p0n : Nat → Nat) (p0w : ST) (p0_6_1n : Nat → Nat → Nat) (p0_6_1w : Nat → ST) (p0_4w : ST) : Option ST := (if ixb ((p0w 0 9) - 1) 8 = true then (if ixb (p0w 11 (nn ((p0w 0 9) - 1))) 6 = true then (lt9 (nn (p0w 11 (nn ((p0w 0 9) - 1)))) fun (i3 : Nat) => (if ixb ((p0w 0 9) - 1) 8 = true then ((fX3_tick p0w 1).bind fun (o_5 : Int32 × ST) => (if (o_5.1) = 0 then some (o_5.2) else (if ixb ((p0w 0 9) - 1) 8 = true then (lt9 (upw (o_5.2) 12 (nn ((p0w 0 9) - 1)) ((p0w 12 (nn ((p0w 0 9) - 1))) + 1)) fun (w9 : ST) => (if ixb (p0w 12 (nn ((p0w 0 9) - 1))) ((p0_6_1n i3) 4) = true then (if ixb (p0w 12 (nn ((p0w 0 9) - 1))) ((p0_6_1n i3) 2) = true then (if (((p0_6_1w i3) 2) (nn (p0w 12 (nn ((p0w 0 9) - 1))))) = 22 then (if ixb ((p0w 0 9) - 1) 8 = true then (lt9 (upw w9 12 (nn ((p0w 0 9) - 1)) (((p0_6_1w i3) 4) (nn (p0w 12 (nn ((p0w 0 9) - 1)))))) fun (w14 : ST) => (fX3_moveInCode_J353 w14)) else none) else (if (((p0_6_1w i3) 2) (nn (p0w 12 (nn ((p0w 0 9) - 1))))) = 23 then (if ixb ((((p0w 0 9) - 1) * 320) + (((p0_6_1w i3) 4) (nn (p0w 12 (nn ((p0w 0 9) - 1)))))) 2560 = true then (if (w9 16 (nn ((((p0w 0 9) - 1) * 320) + (((p0_6_1w i3) 4) (nn (p0w 12 (nn ((p0w 0 9) - 1)))))))) = 0 then (fX3_moveInCode_J353 w9) else (if ixb (p0w 12 (nn ((p0w 0 9) - 1))) ((p0_6_1n i3) 5) = true then (if ixb ((p0w 0 9) - 1) 8 = true then (lt9 (upw w9 12 (nn ((p0w 0 9) - 1)) (((p0_6_1w i3) 5) (nn (p0w 12 (nn ((p0w 0 9) - 1)))))) fun (w20 : ST) => (fX3_moveInCode_J353 w20)) else none) else none)) else none) else (if (((p0_6_1w i3) 2) (nn (p0w 12 (nn ((p0w 0 9) - 1))))) = 24 then (if ixb ((((p0w 0 9) - 1) * 320) + (((p0_6_1w i3) 4) (nn (p0w 12 (nn ((p0w 0 9) - 1)))))) 2560 = true then ((fX3_close w9 (w9 16 (nn ((((p0w 0 9) - 1) * 320) + (((p0_6_1w i3) 4) (nn (p0w 12 (nn ((p0w 0 9) - 1))))))))).bind fun (o_23 : Int32 × ST) => (if (o_23.1) = 0 then (fX3_moveInCode_J353 (o_23.2)) else (if ixb (((o_23.2) 0 9) - 1) 8 = true then (if ixb (((o_23.2) 11) (nn (((o_23.2) 0 9) - 1))) 6 = true then (lt9 (nn (((o_23.2) 11) (nn (((o_23.2) 0 9) - 1)))) fun (i28 : Nat) => (if ixb (((o_23.2) 0 9) - 1) 8 = true then (if ixb ((((o_23.2) 12) (nn (((o_23.2) 0 9) - 1))) - 1) ((p0_6_1n i28) 3) = true then (if ixb (((((o_23.2) 0 9) - 1) * 320) + (((p0_6_1w i28) 3) (nn ((((o_23.2) 12) (nn (((o_23.2) 0 9) - 1))) - 1)))) 2560 = true then (lt9 (upw (o_23.2) 16 (nn (((((o_23.2) 0 9) - 1) * 320) + (((p0_6_1w i28) 3) (nn ((((o_23.2) 12) (nn (((o_23.2) 0 9) - 1))) - 1))))) (w9 16 (nn ((((p0w 0 9) - 1) * 320) + (((p0_6_1w i3) 4) (nn (p0w 12 (nn ((p0w 0 9) - 1))))))))) fun (w32 : ST) => (fX3_moveInCode_J353 w32)) else none) else none) else none)) else none) else none))) else none) else (if (((p0_6_1w i3) 2) (nn (p0w 12 (nn ((p0w 0 9) - 1))))) = 25 then (if ixb (p0w 12 (nn ((p0w 0 9) - 1))) ((p0_6_1n i3) 3) = true then (if ixb ((((p0w 0 9) - 1) * 320) + (((p0_6_1w i3) 4) (nn (p0w 12 (nn ((p0w 0 9) - 1)))))) 2560 = true then (if ixb ((((p0w 0 9) - 1) * 320) + (((p0_6_1w i3) 3) (nn (p0w 12 (nn ((p0w 0 9) - 1)))))) 2560 = true then (lt9 (upw w9 16 (nn ((((p0w 0 9) - 1) * 320) + (((p0_6_1w i3) 3) (nn (p0w 12 (nn ((p0w 0 9) - 1))))))) (w9 16 (nn ((((p0w 0 9) - 1) * 320) + (((p0_6_1w i3) 4) (nn (p0w 12 (nn ((p0w 0 9) - 1))))))))) fun (w37 : ST) => (fX3_moveInCode_J353 w37)) else none) else none) else none) else (if (((p0_6_1w i3) 2) (nn (p0w 12 (nn ((p0w 0 9) - 1))))) = 26 then (if ixb (p0w 12 (nn ((p0w 0 9) - 1))) ((p0_6_1n i3) 3) = true then (if ixb ((((p0w 0 9) - 1) * (w9 0 17)) + (((p0_6_1w i3) 4) (nn (p0w 12 (nn ((p0w 0 9) - 1)))))) (p0n 17) = true then (if ixb ((((p0w 0 9) - 1) * 320) + (((p0_6_1w i3) 3) (nn (p0w 12 (nn ((p0w 0 9) - 1)))))) 2560 = true then (lt9 (upw w9 16 (nn ((((p0w 0 9) - 1) * 320) + (((p0_6_1w i3) 3) (nn (p0w 12 (nn ((p0w 0 9) - 1))))))) (w9 17 (nn ((((p0w 0 9) - 1) * (w9 0 17)) + (((p0_6_1w i3) 4) (nn (p0w 12 (nn ((p0w 0 9) - 1))))))))) fun (w42 : ST) => (fX3_moveInCode_J353 w42)) else none) else none) else none) else (if (((p0_6_1w i3) 2) (nn (p0w 12 (nn ((p0w 0 9) - 1))))) = 27 then (if ixb (p0w 12 (nn ((p0w 0 9) - 1))) ((p0_6_1n i3) 5) = true then (if ixb ((((p0w 0 9) - 1) * 320) + (((p0_6_1w i3) 4) (nn (p0w 12 (nn ((p0w 0 9) - 1)))))) 2560 = true then (if ixb ((((p0w 0 9) - 1) * (w9 0 17)) + (((p0_6_1w i3) 5) (nn (p0w 12 (nn ((p0w 0 9) - 1)))))) (p0n 17) = true then (lt9 (upw w9 17 (nn ((((p0w 0 9) - 1) * (w9 0 17)) + (((p0_6_1w i3) 5) (nn (p0w 12 (nn ((p0w 0 9) - 1))))))) (w9 16 (nn ((((p0w 0 9) - 1) * 320) + (((p0_6_1w i3) 4) (nn (p0w 12 (nn ((p0w 0 9) - 1))))))))) fun (w47 : ST) => (fX3_moveInCode_J353 w47)) else none) else none) else none) else (if (((p0_6_1w i3) 2) (nn (p0w 12 (nn ((p0w 0 9) - 1))))) = 28 then (if ixb ((((p0w 0 9) - 1) * 320) + (((p0_6_1w i3) 4) (nn (p0w 12 (nn ((p0w 0 9) - 1)))))) 2560 = true then (if (w9 16 (nn ((((p0w 0 9) - 1) * 320) + (((p0_6_1w i3) 4) (nn (p0w 12 (nn ((p0w 0 9) - 1)))))))) = 0 then (if ixb (p0w 12 (nn ((p0w 0 9) - 1))) ((p0_6_1n i3) 5) = true then (if ixb ((p0w 0 9) - 1) 8 = true then (lt9 (upw w9 12 (nn ((p0w 0 9) - 1)) (((p0_6_1w i3) 5) (nn (p0w 12 (nn ((p0w 0 9) - 1)))))) fun (w53 : ST) => (fX3_moveInCode_J353 w53)) else none) else none) else (fX3_moveInCode_J353 w9)) else none) else ((fX3_moveLine p0n w9 (p0_6_1n i3) (p0_6_1w i3) ((p0w 0 9) - 1) (p0w 12 (nn ((p0w 0 9) - 1))) p0_4w).bind fun (o_54 : ST) => (fX3_moveInCode_J353 o_54))))))))) else none) else none)) else none))) else none)) else none) else none)
set_option maxHeartbeats 16000000 in
set_option maxRecDepth 100000 in
theorem kX3_moveInCode {zs : ZS} (l : Launch) (dC : Nat → ClassId) (dI : Nat → Nat → Nat) (p0a : Nat → Nat) (p0k : Nat → ClassId) (p0n : Nat → Nat) (p0w : ST) (p0_6a : Nat → Nat) (p0_6k : Nat → ClassId) (p0_6n : Nat → Nat) (p0_6w : ST) (p0_6_1c : ClassId) (p0_6_1a : Nat → Nat → Nat) (p0_6_1k : Nat → Nat → ClassId) (p0_6_1n : Nat → Nat → Nat) (p0_6_1w : Nat → ST) (p0_4a : Nat → Nat) (p0_4k : Nat → ClassId) (p0_4w : ST) (p0_4l : SL) (sz : Nat) (o : ST) (hrun : fX3_moveInCode p0n p0w p0_6_1n p0_6_1w p0_4w = some o) : Met l yX3_moveInCode (wz yX3_moveInCode cX3_moveInCode 9 (Option.none : Option Jvm.ClassFile.FieldType)) ({ frames := 5, cells := 0, slots := 0, locals := 120 } : Room) (va_Pc [.ref (p0a 0)] (PRE zs dC dI (List.flatten ([(oX3 (p0a 0) p0a p0k p0n p0w), (oX0 (p0a 7) p0_6a p0_6k p0_6n p0_6w), (oX9 (p0_6_1a 0 0) (p0_6_1a 0) (p0_6_1k 0) (p0_6_1n 0) (p0_6_1w 0)), (oX9 (p0_6_1a 1 0) (p0_6_1a 1) (p0_6_1k 1) (p0_6_1n 1) (p0_6_1w 1)), (oX9 (p0_6_1a 2 0) (p0_6_1a 2) (p0_6_1k 2) (p0_6_1n 2) (p0_6_1w 2)), (oX9 (p0_6_1a 3 0) (p0_6_1a 3) (p0_6_1k 3) (p0_6_1n 3) (p0_6_1w 3)), (oX9 (p0_6_1a 4 0) (p0_6_1a 4) (p0_6_1k 4) (p0_6_1n 4) (p0_6_1w 4)), (oX9 (p0_6_1a 5 0) (p0_6_1a 5) (p0_6_1k 5) (p0_6_1n 5) (p0_6_1w 5)), (oX6 (p0a 5) p0_4a p0_4k p0_4w p0_4l), [((p0_6a 2), .inl (p0_6_1c, 6, .inr (.inr (.inr (.inr (fun i => some (p0_6_1a i 0)))))))]] : List va_W)) (List.flatten ([(tX3 p0k), (tX0 p0_6k), (tX9 (p0_6_1k 0)), (tX9 (p0_6_1k 1)), (tX9 (p0_6_1k 2)), (tX9 (p0_6_1k 3)), (tX9 (p0_6_1k 4)), (tX9 (p0_6_1k 5)), (tX6 p0_4k), [(p0_6_1c, .object RX9)]] : List (List (ClassId × FieldType)))) sz)) (va_Qv (fun (_ : Unit) => True) (fun _ t => POST dC dI (List.flatten ([(oX3 (p0a 0) p0a p0k p0n o), (oX0 (p0a 7) p0_6a p0_6k p0_6n p0_6w), (oX9 (p0_6_1a 0 0) (p0_6_1a 0) (p0_6_1k 0) (p0_6_1n 0) (p0_6_1w 0)), (oX9 (p0_6_1a 1 0) (p0_6_1a 1) (p0_6_1k 1) (p0_6_1n 1) (p0_6_1w 1)), (oX9 (p0_6_1a 2 0) (p0_6_1a 2) (p0_6_1k 2) (p0_6_1n 2) (p0_6_1w 2)), (oX9 (p0_6_1a 3 0) (p0_6_1a 3) (p0_6_1k 3) (p0_6_1n 3) (p0_6_1w 3)), (oX9 (p0_6_1a 4 0) (p0_6_1a 4) (p0_6_1k 4) (p0_6_1n 4) (p0_6_1w 4)), (oX9 (p0_6_1a 5 0) (p0_6_1a 5) (p0_6_1k 5) (p0_6_1n 5) (p0_6_1w 5)), (oX6 (p0a 5) p0_4a p0_4k p0_4w p0_4l), [((p0_6a 2), .inl (p0_6_1c, 6, .inr (.inr (.inr (.inr (fun i => some (p0_6_1a i 0)))))))]] : List va_W)) (List.flatten ([(tX3 p0k), (tX0 p0_6k), (tX9 (p0_6_1k 0)), (tX9 (p0_6_1k 1)), (tX9 (p0_6_1k 2)), (tX9 (p0_6_1k 3)), (tX9 (p0_6_1k 4)), (tX9 (p0_6_1k 5)), (tX6 p0_4k), [(p0_6_1c, .object RX9)]] : List (List (ClassId × FieldType)))) (va_A (List.flatten ([(oX3 (p0a 0) p0a p0k p0n p0w), (oX0 (p0a 7) p0_6a p0_6k p0_6n p0_6w), (oX9 (p0_6_1a 0 0) (p0_6_1a 0) (p0_6_1k 0) (p0_6_1n 0) (p0_6_1w 0)), (oX9 (p0_6_1a 1 0) (p0_6_1a 1) (p0_6_1k 1) (p0_6_1n 1) (p0_6_1w 1)), (oX9 (p0_6_1a 2 0) (p0_6_1a 2) (p0_6_1k 2) (p0_6_1n 2) (p0_6_1w 2)), (oX9 (p0_6_1a 3 0) (p0_6_1a 3) (p0_6_1k 3) (p0_6_1n 3) (p0_6_1w 3)), (oX9 (p0_6_1a 4 0) (p0_6_1a 4) (p0_6_1k 4) (p0_6_1n 4) (p0_6_1w 4)), (oX9 (p0_6_1a 5 0) (p0_6_1a 5) (p0_6_1k 5) (p0_6_1n 5) (p0_6_1w 5)), (oX6 (p0a 5) p0_4a p0_4k p0_4w p0_4l), [((p0_6a 2), .inl (p0_6_1c, 6, .inr (.inr (.inr (.inr (fun i => some (p0_6_1a i 0)))))))]] : List va_W)) sz) t) (va_A (List.flatten ([(oX3 (p0a 0) p0a p0k p0n p0w), (oX0 (p0a 7) p0_6a p0_6k p0_6n p0_6w), (oX9 (p0_6_1a 0 0) (p0_6_1a 0) (p0_6_1k 0) (p0_6_1n 0) (p0_6_1w 0)), (oX9 (p0_6_1a 1 0) (p0_6_1a 1) (p0_6_1k 1) (p0_6_1n 1) (p0_6_1w 1)), (oX9 (p0_6_1a 2 0) (p0_6_1a 2) (p0_6_1k 2) (p0_6_1n 2) (p0_6_1w 2)), (oX9 (p0_6_1a 3 0) (p0_6_1a 3) (p0_6_1k 3) (p0_6_1n 3) (p0_6_1w 3)), (oX9 (p0_6_1a 4 0) (p0_6_1a 4) (p0_6_1k 4) (p0_6_1n 4) (p0_6_1w 4)), (oX9 (p0_6_1a 5 0) (p0_6_1a 5) (p0_6_1k 5) (p0_6_1n 5) (p0_6_1w 5)), (oX6 (p0a 5) p0_4a p0_4k p0_4w p0_4l), [((p0_6a 2), .inl (p0_6_1c, 6, .inr (.inr (.inr (.inr (fun i => some (p0_6_1a i 0)))))))]] : List va_W)) sz)) 0 0 (va_A (List.flatten ([(oX3 (p0a 0) p0a p0k p0n p0w), (oX0 (p0a 7) p0_6a p0_6k p0_6n p0_6w), (oX9 (p0_6_1a 0 0) (p0_6_1a 0) (p0_6_1k 0) (p0_6_1n 0) (p0_6_1w 0)), (oX9 (p0_6_1a 1 0) (p0_6_1a 1) (p0_6_1k 1) (p0_6_1n 1) (p0_6_1w 1)), (oX9 (p0_6_1a 2 0) (p0_6_1a 2) (p0_6_1k 2) (p0_6_1n 2) (p0_6_1w 2)), (oX9 (p0_6_1a 3 0) (p0_6_1a 3) (p0_6_1k 3) (p0_6_1n 3) (p0_6_1w 3)), (oX9 (p0_6_1a 4 0) (p0_6_1a 4) (p0_6_1k 4) (p0_6_1n 4) (p0_6_1w 4)), (oX9 (p0_6_1a 5 0) (p0_6_1a 5) (p0_6_1k 5) (p0_6_1n 5) (p0_6_1w 5)), (oX6 (p0a 5) p0_4a p0_4k p0_4w p0_4l), [((p0_6a 2), .inl (p0_6_1c, 6, .inr (.inr (.inr (.inr (fun i => some (p0_6_1a i 0)))))))]] : List va_W)) sz) := by
  refine Met.ofW (cc := cX3_moveInCode) (maxL := 9) (ret := (Option.none : Option Jvm.ClassFile.FieldType)) (by decide) rfl ?_
  intro p e s m args below meth c s₁ B hml hv
  obtain ⟨rfl, hsz, hP, hK, hD0, hE⟩ := hv
  have hx := B.exec
  have hb := B.bytes
  have hr := B.returns
  have hts0 := atoms_spec (ws := wz yX3_moveInCode cX3_moveInCode 9 (Option.none : Option Jvm.ClassFile.FieldType)) B.pre
  have hts : ∀ w ∈ gw, w.before _ s = true := fun w h => hts0 w (List.mem_cons_of_mem _ h)
  have hown : s.vm.findClass RX3 = some m.cls := findClass_of_methodNamed B.named
  have hlocks := B.notSynchronized
  subst hsz
  have hD := hD0.self (sz := s.heap.size)
  refine gQ9 ?_
  intro Q hQ
  generalize hAe : va_A (List.flatten ([(oX3 (p0a 0) p0a p0k p0n p0w), (oX0 (p0a 7) p0_6a p0_6k p0_6n p0_6w), (oX9 (p0_6_1a 0 0) (p0_6_1a 0) (p0_6_1k 0) (p0_6_1n 0) (p0_6_1w 0)), (oX9 (p0_6_1a 1 0) (p0_6_1a 1) (p0_6_1k 1) (p0_6_1n 1) (p0_6_1w 1)), (oX9 (p0_6_1a 2 0) (p0_6_1a 2) (p0_6_1k 2) (p0_6_1n 2) (p0_6_1w 2)), (oX9 (p0_6_1a 3 0) (p0_6_1a 3) (p0_6_1k 3) (p0_6_1n 3) (p0_6_1w 3)), (oX9 (p0_6_1a 4 0) (p0_6_1a 4) (p0_6_1k 4) (p0_6_1n 4) (p0_6_1w 4)), (oX9 (p0_6_1a 5 0) (p0_6_1a 5) (p0_6_1k 5) (p0_6_1n 5) (p0_6_1w 5)), (oX6 (p0a 5) p0_4a p0_4k p0_4w p0_4l), [((p0_6a 2), .inl (p0_6_1c, 6, .inr (.inr (.inr (.inr (fun i => some (p0_6_1a i 0)))))))]] : List va_W)) s.heap.size = A at hD hE hQ
  have hA : ∀ q : Nat, s.heap.size ≤ q → A q := fun q h => by rw [← hAe]; exact Or.inr h
  have hS : va_S A s.heap s.heap [] := va_S.rf
  have hP : va_P (dC, dI) cls (List.flatten ([(oX3 (p0a 0) p0a p0k p0n p0w), (oX0 (p0a 7) p0_6a p0_6k p0_6n p0_6w), (oX9 (p0_6_1a 0 0) (p0_6_1a 0) (p0_6_1k 0) (p0_6_1n 0) (p0_6_1w 0)), (oX9 (p0_6_1a 1 0) (p0_6_1a 1) (p0_6_1k 1) (p0_6_1n 1) (p0_6_1w 1)), (oX9 (p0_6_1a 2 0) (p0_6_1a 2) (p0_6_1k 2) (p0_6_1n 2) (p0_6_1w 2)), (oX9 (p0_6_1a 3 0) (p0_6_1a 3) (p0_6_1k 3) (p0_6_1n 3) (p0_6_1w 3)), (oX9 (p0_6_1a 4 0) (p0_6_1a 4) (p0_6_1k 4) (p0_6_1n 4) (p0_6_1w 4)), (oX9 (p0_6_1a 5 0) (p0_6_1a 5) (p0_6_1k 5) (p0_6_1n 5) (p0_6_1w 5)), (oX6 (p0a 5) p0_4a p0_4k p0_4w p0_4l), [((p0_6a 2), .inl (p0_6_1c, 6, .inr (.inr (.inr (.inr (fun i => some (p0_6_1a i 0)))))))]] : List va_W)) s.heap := hP
  have hl := lv_entry ([.ref (p0a 0)]) (n := 9) (Nat.le_of_ble_eq_true rfl)
  rw [lg_entry_eq]
  generalize (lg_sl ([.ref (p0a 0)]) ++ List.replicate (9 - (lg_sl ([.ref (p0a 0)])).length) Slot.unset).toArray = ls at hl ⊢
  have hl : lv_has ls 9 [(0, .ref (p0a 0))] := hl
  obtain ⟨H, hHe⟩ : ∃ H, H = s.heap := ⟨_, rfl⟩
  obtain ⟨locs, hle⟩ : ∃ locs : List Loc, locs = [] := ⟨_, rfl⟩
  rw [← hHe] at hP
  have hS : va_S A s.heap H locs := by rw [hHe, hle]; exact hS
  show W p l e ({ frames := 5, cells := 0, slots := 0, locals := 120 } : Room) s m ([.ref (p0a 0)] : List Value).toArray below meth c s.heap [] 0 0 Q (F0 m 0 ls [])
  rw [← hle]
  refine wH9 hHe ?_
  unfold fX3_moveInCode at hrun
  refine lv_aload_n hx hb dX3_moveInCode_0 rfl (lv_at hl 0 rfl) ?_
  refine va_get (D := (dC, dI)) (ci := 10) (v := .int (p0w 0 9)) (C := RX3) (T := TX3) (N := 20) hx hb hts i_X3 hown hK hP 0 rfl rfl 9 (by decide) (hts _ qw897) (fun _ h9 => h9) rfl dX3_moveInCode_1 ?_
  refine lv_iconst (v := 1) hx hb dX3_moveInCode_4 (by decide) ?_
  refine lv_isub hx hb dX3_moveInCode_5 ?_
  refine lv_istore_n (lv' := [(1, .int ((p0w 0 9) - 1)), (0, .ref (p0a 0))]) hx hb dX3_moveInCode_6 rfl hl (by decide) rfl (fun ls hl => ?_)
  refine lv_aload_n hx hb dX3_moveInCode_7 rfl (lv_at hl 1 rfl) ?_
  refine va_get (D := (dC, dI)) (ci := 10) (v := .ref (p0a 7)) (C := RX3) (T := TX3) (N := 20) hx hb hts i_X3 hown hK hP 0 rfl rfl 6 (by decide) (hts _ qw946) (fun _ h9 => h9) rfl dX3_moveInCode_8 ?_
  refine va_get (D := (dC, dI)) (ci := 8) (v := .ref (p0_6a 2)) (C := RX0) (T := TX0) (N := 17) hx hb hts i_X0 hown hK hP 11 rfl rfl 1 (by decide) (hts _ qw988) (fun _ h9 => h9) rfl dX3_moveInCode_11 ?_
  refine lv_aload_n hx hb dX3_moveInCode_14 rfl (lv_at hl 1 rfl) ?_
  refine va_get (D := (dC, dI)) (ci := 10) (v := .ref (p0a 11)) (C := RX3) (T := TX3) (N := 20) hx hb hts i_X3 hown hK hP 0 rfl rfl 10 (by decide) (hts _ qw913) (fun _ h9 => h9) rfl dX3_moveInCode_15 ?_
  refine lv_iload_n hx hb dX3_moveInCode_18 rfl (lv_at hl 0 rfl) ?_
  obtain ⟨hq1, hrun⟩ := chk9 hrun
  refine va_iald hx hb hK hP 3 2 rfl rfl (ixb_in hq1) dX3_moveInCode_19 ?_
  obtain ⟨hq2, hrun⟩ := chk9 hrun
  refine va_aldq hx hb hK hP 67 58 rfl rfl (ixb_in hq2) dX3_moveInCode_20 ?_
  obtain ⟨i3, ei3, hrun⟩ := let9 hrun
  have hi_i3 : i3 < 6 := by rw [ei3]; exact ixb_lt hq2
  have es_i3 : Int32.toNatClampNeg (p0w 11 (nn ((p0w 0 9) - 1))) = i3 := ei3.symm
  rw [es_i3]
  clear ei3
  rcases lt6 hi_i3 with rfl | rfl | rfl | rfl | rfl | rfl
  · refine W.eq (g2 := F0 m 21 ls [.ref (p0_6_1a 0 0)]) rfl ?_
    refine lv_astore_n (lv' := [(2, .ref (p0_6_1a 0 0)), (1, .int ((p0w 0 9) - 1)), (0, .ref (p0a 0))]) hx hb dX3_moveInCode_21 rfl hl (by decide) rfl (fun ls hl => ?_)
    refine lv_aload_n hx hb dX3_moveInCode_22 rfl (lv_at hl 2 rfl) ?_
    refine va_get (D := (dC, dI)) (ci := 10) (v := .ref (p0a 12)) (C := RX3) (T := TX3) (N := 20) hx hb hts i_X3 hown hK hP 0 rfl rfl 11 (by decide) (hts _ qw915) (fun _ h9 => h9) rfl dX3_moveInCode_23 ?_
    refine lv_iload_n hx hb dX3_moveInCode_26 rfl (lv_at hl 1 rfl) ?_
    obtain ⟨hq4, hrun⟩ := chk9 hrun
    refine va_iald hx hb hK hP 4 3 rfl rfl (ixb_in hq4) dX3_moveInCode_27 ?_
    refine lv_istore_n (lv' := [(3, .int (p0w 12 (nn ((p0w 0 9) - 1)))), (2, .ref (p0_6_1a 0 0)), (1, .int ((p0w 0 9) - 1)), (0, .ref (p0a 0))]) hx hb dX3_moveInCode_28 rfl hl (by decide) rfl (fun ls hl => ?_)
    refine lv_aload_n hx hb dX3_moveInCode_29 rfl (lv_at hl 3 rfl) ?_
    refine lv_iconst (v := 1) hx hb dX3_moveInCode_30 (by decide) ?_
    obtain ⟨o_5, hc_5, hrun⟩ := bnd9 hrun
    have hPx : va_P (dC, dI) cls ((List.flatten ([(oX3 (p0a 0) p0a p0k p0n p0w)] : List va_W)) ++ (List.flatten ([(oX0 (p0a 7) p0_6a p0_6k p0_6n p0_6w), (oX9 (p0_6_1a 0 0) (p0_6_1a 0) (p0_6_1k 0) (p0_6_1n 0) (p0_6_1w 0)), (oX9 (p0_6_1a 1 0) (p0_6_1a 1) (p0_6_1k 1) (p0_6_1n 1) (p0_6_1w 1)), (oX9 (p0_6_1a 2 0) (p0_6_1a 2) (p0_6_1k 2) (p0_6_1n 2) (p0_6_1w 2)), (oX9 (p0_6_1a 3 0) (p0_6_1a 3) (p0_6_1k 3) (p0_6_1n 3) (p0_6_1w 3)), (oX9 (p0_6_1a 4 0) (p0_6_1a 4) (p0_6_1k 4) (p0_6_1n 4) (p0_6_1w 4)), (oX9 (p0_6_1a 5 0) (p0_6_1a 5) (p0_6_1k 5) (p0_6_1n 5) (p0_6_1w 5)), (oX6 (p0a 5) p0_4a p0_4k p0_4w p0_4l), [((p0_6a 2), .inl (p0_6_1c, 6, .inr (.inr (.inr (.inr (fun i => some (p0_6_1a i 0)))))))]] : List va_W))) H := vP_fa (vP_perm hP (bP (List.Perm.refl _)))
    have hDx : va_D A ((List.flatten ([(oX3 (p0a 0) p0a p0k p0n p0w)] : List va_W)) ++ (List.flatten ([(oX0 (p0a 7) p0_6a p0_6k p0_6n p0_6w), (oX9 (p0_6_1a 0 0) (p0_6_1a 0) (p0_6_1k 0) (p0_6_1n 0) (p0_6_1w 0)), (oX9 (p0_6_1a 1 0) (p0_6_1a 1) (p0_6_1k 1) (p0_6_1n 1) (p0_6_1w 1)), (oX9 (p0_6_1a 2 0) (p0_6_1a 2) (p0_6_1k 2) (p0_6_1n 2) (p0_6_1w 2)), (oX9 (p0_6_1a 3 0) (p0_6_1a 3) (p0_6_1k 3) (p0_6_1n 3) (p0_6_1w 3)), (oX9 (p0_6_1a 4 0) (p0_6_1a 4) (p0_6_1k 4) (p0_6_1n 4) (p0_6_1w 4)), (oX9 (p0_6_1a 5 0) (p0_6_1a 5) (p0_6_1k 5) (p0_6_1n 5) (p0_6_1w 5)), (oX6 (p0a 5) p0_4a p0_4k p0_4w p0_4l), [((p0_6a 2), .inl (p0_6_1c, 6, .inr (.inr (.inr (.inr (fun i => some (p0_6_1a i 0)))))))]] : List va_W))) := vD_fa (vD_perm hD (bP (List.Perm.refl _)))
    have hKx : va_K (dC, dI) cls ((List.flatten ([(tX3 p0k)] : List (List (ClassId × FieldType)))) ++ (List.flatten ([(tX0 p0_6k), (tX9 (p0_6_1k 0)), (tX9 (p0_6_1k 1)), (tX9 (p0_6_1k 2)), (tX9 (p0_6_1k 3)), (tX9 (p0_6_1k 4)), (tX9 (p0_6_1k 5)), (tX6 p0_4k), [(p0_6_1c, .object RX9)]] : List (List (ClassId × FieldType))))) s := vK_fa (vK_perm hK (bP (List.Perm.refl _)))
    have hPc := vP_l hPx
    have hDc := vD_l hDx
    have hKc := vK_l hKx
    have hFc := vfree hDx hS hA
    refine va_calli (va_runV (As := [.int 1]) (rest := []) ⟨hx, hb, hml, hown, hts⟩ (kX3_tick l dC dI (p0a := p0a) (p0k := p0k) (p0n := p0n) (p0w := p0w) (p1 := 1) (sz := _) (o := o_5) (hrun := hc_5)) (cwV 1 hts (gi_V qw939 qw940 qw941 qw903 (gi_z qw938)) rfl rfl rfl (by decide +kernel) ⟨Nat.le_of_ble_eq_true rfl, Nat.le_of_ble_eq_true rfl⟩) ⟨PRE.blind, va_recv hKc hPc (ci := 10) (q0 := 0) rfl rfl, PRE.of hE hS hFc hPc hKc hDc⟩ rfl rfl hl.1 rfl (lv_room (Nat.le_of_ble_eq_true rfl)) dX3_moveInCode_31 ⟨(Nat.le_of_ble_eq_true rfl), (Nat.le_of_ble_eq_true rfl)⟩) hS (fun q _ h => hFc q h) hFc (fun r6 u t H locs ht hvm hw hB hz1 hk1 hS => ?_)
    obtain ⟨b1, b2, b3⟩ := hB
    rw [ht] at b1
    obtain ⟨hP, hD, hK⟩ := JOINC (wc := (List.flatten ([(oX3 (p0a 0) p0a p0k p0n p0w)] : List va_W))) (wr := (List.flatten ([(oX0 (p0a 7) p0_6a p0_6k p0_6n p0_6w), (oX9 (p0_6_1a 0 0) (p0_6_1a 0) (p0_6_1k 0) (p0_6_1n 0) (p0_6_1w 0)), (oX9 (p0_6_1a 1 0) (p0_6_1a 1) (p0_6_1k 1) (p0_6_1n 1) (p0_6_1w 1)), (oX9 (p0_6_1a 2 0) (p0_6_1a 2) (p0_6_1k 2) (p0_6_1n 2) (p0_6_1w 2)), (oX9 (p0_6_1a 3 0) (p0_6_1a 3) (p0_6_1k 3) (p0_6_1n 3) (p0_6_1w 3)), (oX9 (p0_6_1a 4 0) (p0_6_1a 4) (p0_6_1k 4) (p0_6_1n 4) (p0_6_1w 4)), (oX9 (p0_6_1a 5 0) (p0_6_1a 5) (p0_6_1k 5) (p0_6_1n 5) (p0_6_1w 5)), (oX6 (p0a 5) p0_4a p0_4k p0_4w p0_4l), [((p0_6a 2), .inl (p0_6_1c, 6, .inr (.inr (.inr (.inr (fun i => some (p0_6_1a i 0)))))))]] : List va_W))) (w1 := (List.flatten ([(oX3 (p0a 0) p0a p0k p0n (o_5.2))] : List va_W))) (t1 := (List.flatten ([(tX3 p0k)] : List (List (ClassId × FieldType))))) hPx hDx hKx hk1 hFc b1 (va_K.moved hvm.symm b2) b3
    have hP : va_P (dC, dI) cls (List.flatten ([(oX3 (p0a 0) p0a p0k p0n (o_5.2)), (oX0 (p0a 7) p0_6a p0_6k p0_6n p0_6w), (oX9 (p0_6_1a 0 0) (p0_6_1a 0) (p0_6_1k 0) (p0_6_1n 0) (p0_6_1w 0)), (oX9 (p0_6_1a 1 0) (p0_6_1a 1) (p0_6_1k 1) (p0_6_1n 1) (p0_6_1w 1)), (oX9 (p0_6_1a 2 0) (p0_6_1a 2) (p0_6_1k 2) (p0_6_1n 2) (p0_6_1w 2)), (oX9 (p0_6_1a 3 0) (p0_6_1a 3) (p0_6_1k 3) (p0_6_1n 3) (p0_6_1w 3)), (oX9 (p0_6_1a 4 0) (p0_6_1a 4) (p0_6_1k 4) (p0_6_1n 4) (p0_6_1w 4)), (oX9 (p0_6_1a 5 0) (p0_6_1a 5) (p0_6_1k 5) (p0_6_1n 5) (p0_6_1w 5)), (oX6 (p0a 5) p0_4a p0_4k p0_4w p0_4l), [((p0_6a 2), .inl (p0_6_1c, 6, .inr (.inr (.inr (.inr (fun i => some (p0_6_1a i 0)))))))]] : List va_W)) H := vP_perm (vP_fb hP) (bP (List.Perm.refl _))
    have hD : va_D A (List.flatten ([(oX3 (p0a 0) p0a p0k p0n (o_5.2)), (oX0 (p0a 7) p0_6a p0_6k p0_6n p0_6w), (oX9 (p0_6_1a 0 0) (p0_6_1a 0) (p0_6_1k 0) (p0_6_1n 0) (p0_6_1w 0)), (oX9 (p0_6_1a 1 0) (p0_6_1a 1) (p0_6_1k 1) (p0_6_1n 1) (p0_6_1w 1)), (oX9 (p0_6_1a 2 0) (p0_6_1a 2) (p0_6_1k 2) (p0_6_1n 2) (p0_6_1w 2)), (oX9 (p0_6_1a 3 0) (p0_6_1a 3) (p0_6_1k 3) (p0_6_1n 3) (p0_6_1w 3)), (oX9 (p0_6_1a 4 0) (p0_6_1a 4) (p0_6_1k 4) (p0_6_1n 4) (p0_6_1w 4)), (oX9 (p0_6_1a 5 0) (p0_6_1a 5) (p0_6_1k 5) (p0_6_1n 5) (p0_6_1w 5)), (oX6 (p0a 5) p0_4a p0_4k p0_4w p0_4l), [((p0_6a 2), .inl (p0_6_1c, 6, .inr (.inr (.inr (.inr (fun i => some (p0_6_1a i 0)))))))]] : List va_W)) := vD_perm (vD_fb hD) (bP (List.Perm.refl _))
    have hK : va_K (dC, dI) cls (List.flatten ([(tX3 p0k), (tX0 p0_6k), (tX9 (p0_6_1k 0)), (tX9 (p0_6_1k 1)), (tX9 (p0_6_1k 2)), (tX9 (p0_6_1k 3)), (tX9 (p0_6_1k 4)), (tX9 (p0_6_1k 5)), (tX6 p0_4k), [(p0_6_1c, .object RX9)]] : List (List (ClassId × FieldType)))) s := vK_perm (vK_fb hK) (bP (List.Perm.refl _))
    obtain rfl : r6 = (o_5.1) := hw
    rcases br9 hrun with ⟨hc7, hrun⟩ | ⟨hc7, hrun⟩
    · refine lv_if_ne (tgt := 38) hx hb dX3_moveInCode_34 (by decide) (fun c => absurd hc7 c) (fun _ => ?_)
      have ho9 : (o_5.2) = o := Option.some.inj hrun
      have hP9 : va_P (dC, dI) cls (List.flatten ([(oX3 (p0a 0) p0a p0k p0n o), (oX0 (p0a 7) p0_6a p0_6k p0_6n p0_6w), (oX9 (p0_6_1a 0 0) (p0_6_1a 0) (p0_6_1k 0) (p0_6_1n 0) (p0_6_1w 0)), (oX9 (p0_6_1a 1 0) (p0_6_1a 1) (p0_6_1k 1) (p0_6_1n 1) (p0_6_1w 1)), (oX9 (p0_6_1a 2 0) (p0_6_1a 2) (p0_6_1k 2) (p0_6_1n 2) (p0_6_1w 2)), (oX9 (p0_6_1a 3 0) (p0_6_1a 3) (p0_6_1k 3) (p0_6_1n 3) (p0_6_1w 3)), (oX9 (p0_6_1a 4 0) (p0_6_1a 4) (p0_6_1k 4) (p0_6_1n 4) (p0_6_1w 4)), (oX9 (p0_6_1a 5 0) (p0_6_1a 5) (p0_6_1k 5) (p0_6_1n 5) (p0_6_1w 5)), (oX6 (p0a 5) p0_4a p0_4k p0_4w p0_4l), [((p0_6a 2), .inl (p0_6_1c, 6, .inr (.inr (.inr (.inr (fun i => some (p0_6_1a i 0)))))))]] : List va_W)) H := by first | exact hP | (rw [← ho9]; exact hP)
      have hD9 : va_D A (List.flatten ([(oX3 (p0a 0) p0a p0k p0n o), (oX0 (p0a 7) p0_6a p0_6k p0_6n p0_6w), (oX9 (p0_6_1a 0 0) (p0_6_1a 0) (p0_6_1k 0) (p0_6_1n 0) (p0_6_1w 0)), (oX9 (p0_6_1a 1 0) (p0_6_1a 1) (p0_6_1k 1) (p0_6_1n 1) (p0_6_1w 1)), (oX9 (p0_6_1a 2 0) (p0_6_1a 2) (p0_6_1k 2) (p0_6_1n 2) (p0_6_1w 2)), (oX9 (p0_6_1a 3 0) (p0_6_1a 3) (p0_6_1k 3) (p0_6_1n 3) (p0_6_1w 3)), (oX9 (p0_6_1a 4 0) (p0_6_1a 4) (p0_6_1k 4) (p0_6_1n 4) (p0_6_1w 4)), (oX9 (p0_6_1a 5 0) (p0_6_1a 5) (p0_6_1k 5) (p0_6_1n 5) (p0_6_1w 5)), (oX6 (p0a 5) p0_4a p0_4k p0_4w p0_4l), [((p0_6a 2), .inl (p0_6_1c, 6, .inr (.inr (.inr (.inr (fun i => some (p0_6_1a i 0)))))))]] : List va_W)) := by first | exact hD | (rw [← ho9]; exact hD)
      subst hQ
      exact W.vret hx hb hr (fun t ht hW => ⟨⟨(), rfl, trivial, ⟨by rw [ht]; exact hP9, va_K.moved hW.alike hK, hD9⟩⟩, hS.F ht⟩) hS.2.2 dX3_moveInCode_37
    · refine lv_if_ne (tgt := 38) hx hb dX3_moveInCode_34 (by decide) (fun _ => ?_) (fun c => absurd c hc7)
      refine lv_aload_n hx hb dX3_moveInCode_38 rfl (lv_at hl 3 rfl) ?_
      refine va_get (D := (dC, dI)) (ci := 10) (v := .ref (p0a 12)) (C := RX3) (T := TX3) (N := 20) hx hb hts i_X3 hown hK hP 0 rfl rfl 11 (by decide) (hts _ qw915) (fun _ h9 => h9) rfl dX3_moveInCode_39 ?_
      refine lv_iload_n hx hb dX3_moveInCode_42 rfl (lv_at hl 2 rfl) ?_
      refine lv_iload_n hx hb dX3_moveInCode_43 rfl (lv_at hl 0 rfl) ?_
      refine lv_iconst (v := 1) hx hb dX3_moveInCode_44 (by decide) ?_
      refine lv_iadd hx hb dX3_moveInCode_45 ?_
      obtain ⟨hq8, hrun⟩ := chk9 hrun
      refine va_iast hx hb hK hP hD hS 4 3 rfl rfl (ixb_in hq8) dX3_moveInCode_46 (fun H locs hP hD hS => ?_)
      have hP : va_P (dC, dI) cls (List.flatten ([(oX3 (p0a 0) p0a p0k p0n (upw (o_5.2) 12 (nn ((p0w 0 9) - 1)) ((p0w 12 (nn ((p0w 0 9) - 1))) + 1))), (oX0 (p0a 7) p0_6a p0_6k p0_6n p0_6w), (oX9 (p0_6_1a 0 0) (p0_6_1a 0) (p0_6_1k 0) (p0_6_1n 0) (p0_6_1w 0)), (oX9 (p0_6_1a 1 0) (p0_6_1a 1) (p0_6_1k 1) (p0_6_1n 1) (p0_6_1w 1)), (oX9 (p0_6_1a 2 0) (p0_6_1a 2) (p0_6_1k 2) (p0_6_1n 2) (p0_6_1w 2)), (oX9 (p0_6_1a 3 0) (p0_6_1a 3) (p0_6_1k 3) (p0_6_1n 3) (p0_6_1w 3)), (oX9 (p0_6_1a 4 0) (p0_6_1a 4) (p0_6_1k 4) (p0_6_1n 4) (p0_6_1w 4)), (oX9 (p0_6_1a 5 0) (p0_6_1a 5) (p0_6_1k 5) (p0_6_1n 5) (p0_6_1w 5)), (oX6 (p0a 5) p0_4a p0_4k p0_4w p0_4l), [((p0_6a 2), .inl (p0_6_1c, 6, .inr (.inr (.inr (.inr (fun i => some (p0_6_1a i 0)))))))]] : List va_W)) H := hP
      have hD : va_D A (List.flatten ([(oX3 (p0a 0) p0a p0k p0n (upw (o_5.2) 12 (nn ((p0w 0 9) - 1)) ((p0w 12 (nn ((p0w 0 9) - 1))) + 1))), (oX0 (p0a 7) p0_6a p0_6k p0_6n p0_6w), (oX9 (p0_6_1a 0 0) (p0_6_1a 0) (p0_6_1k 0) (p0_6_1n 0) (p0_6_1w 0)), (oX9 (p0_6_1a 1 0) (p0_6_1a 1) (p0_6_1k 1) (p0_6_1n 1) (p0_6_1w 1)), (oX9 (p0_6_1a 2 0) (p0_6_1a 2) (p0_6_1k 2) (p0_6_1n 2) (p0_6_1w 2)), (oX9 (p0_6_1a 3 0) (p0_6_1a 3) (p0_6_1k 3) (p0_6_1n 3) (p0_6_1w 3)), (oX9 (p0_6_1a 4 0) (p0_6_1a 4) (p0_6_1k 4) (p0_6_1n 4) (p0_6_1w 4)), (oX9 (p0_6_1a 5 0) (p0_6_1a 5) (p0_6_1k 5) (p0_6_1n 5) (p0_6_1w 5)), (oX6 (p0a 5) p0_4a p0_4k p0_4w p0_4l), [((p0_6a 2), .inl (p0_6_1c, 6, .inr (.inr (.inr (.inr (fun i => some (p0_6_1a i 0)))))))]] : List va_W)) := hD
      obtain ⟨w9, ew9, hrun⟩ := let9 hrun
      rw [← ew9] at hP hD
      refine lv_iload_n hx hb dX3_moveInCode_47 rfl (lv_at hl 2 rfl) ?_
      refine lv_sipush (v := 320) hx hb dX3_moveInCode_48 (by decide) ?_
      refine lv_imul hx hb dX3_moveInCode_51 ?_
      refine lv_istore (lv' := [(4, .int (((p0w 0 9) - 1) * 320)), (3, .int (p0w 12 (nn ((p0w 0 9) - 1)))), (2, .ref (p0_6_1a 0 0)), (1, .int ((p0w 0 9) - 1)), (0, .ref (p0a 0))]) hx hb dX3_moveInCode_52 hl (by decide) rfl (fun ls hl => ?_)
      refine lv_aload_n hx hb dX3_moveInCode_54 rfl (lv_at hl 2 rfl) ?_
      refine va_get (D := (dC, dI)) (ci := 3) (v := .ref ((p0_6_1a 0) 4)) (C := RX9) (T := TX9) (N := 6) hx hb hts i_X9 hown hK hP 20 rfl rfl 3 (by decide) (hts _ qw954) (fun _ h9 => h9) rfl dX3_moveInCode_55 ?_
      refine lv_iload_n hx hb dX3_moveInCode_58 rfl (lv_at hl 1 rfl) ?_
      obtain ⟨hq10, hrun⟩ := chk9 hrun
      refine va_iald hx hb hK hP 23 20 rfl rfl (ixb_in hq10) dX3_moveInCode_59 ?_
      refine lv_istore (lv' := [(5, .int (((p0_6_1w 0) 4) (nn (p0w 12 (nn ((p0w 0 9) - 1)))))), (4, .int (((p0w 0 9) - 1) * 320)), (3, .int (p0w 12 (nn ((p0w 0 9) - 1)))), (2, .ref (p0_6_1a 0 0)), (1, .int ((p0w 0 9) - 1)), (0, .ref (p0a 0))]) hx hb dX3_moveInCode_60 hl (by decide) rfl (fun ls hl => ?_)
      refine lv_aload_n hx hb dX3_moveInCode_62 rfl (lv_at hl 3 rfl) ?_
      refine va_get (D := (dC, dI)) (ci := 3) (v := .ref ((p0_6_1a 0) 2)) (C := RX9) (T := TX9) (N := 6) hx hb hts i_X9 hown hK hP 20 rfl rfl 1 (by decide) (hts _ qw953) (fun _ h9 => h9) rfl dX3_moveInCode_63 ?_
      refine lv_iload_n hx hb dX3_moveInCode_66 rfl (lv_at hl 2 rfl) ?_
      obtain ⟨hq11, hrun⟩ := chk9 hrun
      refine va_iald hx hb hK hP 21 18 rfl rfl (ixb_in hq11) dX3_moveInCode_67 ?_
      have J353 : ∀ (p0w_353 : ST) (H : Heap) (locs : List Loc) (ls : Array Slot), (fX3_moveInCode_J353 p0w_353) = some o → va_P (dC, dI) cls (List.flatten ([(oX3 (p0a 0) p0a p0k p0n p0w_353), (oX0 (p0a 7) p0_6a p0_6k p0_6n p0_6w), (oX9 (p0_6_1a 0 0) (p0_6_1a 0) (p0_6_1k 0) (p0_6_1n 0) (p0_6_1w 0)), (oX9 (p0_6_1a 1 0) (p0_6_1a 1) (p0_6_1k 1) (p0_6_1n 1) (p0_6_1w 1)), (oX9 (p0_6_1a 2 0) (p0_6_1a 2) (p0_6_1k 2) (p0_6_1n 2) (p0_6_1w 2)), (oX9 (p0_6_1a 3 0) (p0_6_1a 3) (p0_6_1k 3) (p0_6_1n 3) (p0_6_1w 3)), (oX9 (p0_6_1a 4 0) (p0_6_1a 4) (p0_6_1k 4) (p0_6_1n 4) (p0_6_1w 4)), (oX9 (p0_6_1a 5 0) (p0_6_1a 5) (p0_6_1k 5) (p0_6_1n 5) (p0_6_1w 5)), (oX6 (p0a 5) p0_4a p0_4k p0_4w p0_4l), [((p0_6a 2), .inl (p0_6_1c, 6, .inr (.inr (.inr (.inr (fun i => some (p0_6_1a i 0)))))))]] : List va_W)) H → va_D A (List.flatten ([(oX3 (p0a 0) p0a p0k p0n p0w_353), (oX0 (p0a 7) p0_6a p0_6k p0_6n p0_6w), (oX9 (p0_6_1a 0 0) (p0_6_1a 0) (p0_6_1k 0) (p0_6_1n 0) (p0_6_1w 0)), (oX9 (p0_6_1a 1 0) (p0_6_1a 1) (p0_6_1k 1) (p0_6_1n 1) (p0_6_1w 1)), (oX9 (p0_6_1a 2 0) (p0_6_1a 2) (p0_6_1k 2) (p0_6_1n 2) (p0_6_1w 2)), (oX9 (p0_6_1a 3 0) (p0_6_1a 3) (p0_6_1k 3) (p0_6_1n 3) (p0_6_1w 3)), (oX9 (p0_6_1a 4 0) (p0_6_1a 4) (p0_6_1k 4) (p0_6_1n 4) (p0_6_1w 4)), (oX9 (p0_6_1a 5 0) (p0_6_1a 5) (p0_6_1k 5) (p0_6_1n 5) (p0_6_1w 5)), (oX6 (p0a 5) p0_4a p0_4k p0_4w p0_4l), [((p0_6a 2), .inl (p0_6_1c, 6, .inr (.inr (.inr (.inr (fun i => some (p0_6_1a i 0)))))))]] : List va_W)) → va_K (dC, dI) cls (List.flatten ([(tX3 p0k), (tX0 p0_6k), (tX9 (p0_6_1k 0)), (tX9 (p0_6_1k 1)), (tX9 (p0_6_1k 2)), (tX9 (p0_6_1k 3)), (tX9 (p0_6_1k 4)), (tX9 (p0_6_1k 5)), (tX6 p0_4k), [(p0_6_1c, .object RX9)]] : List (List (ClassId × FieldType)))) s → va_S A s.heap H locs → lv_has ls 9 [] → W p l e ({ frames := 5, cells := 0, slots := 0, locals := 120 } : Room) s m ([.ref (p0a 0)] : List Value).toArray below meth c H locs 0 0 Q (F0 m 353 ls []) := by
        intro p0w_353 H locs ls hrun hP hD hK hS hl 
        unfold fX3_moveInCode_J353 at hrun
        have ho9 : p0w_353 = o := Option.some.inj hrun
        have hP9 : va_P (dC, dI) cls (List.flatten ([(oX3 (p0a 0) p0a p0k p0n o), (oX0 (p0a 7) p0_6a p0_6k p0_6n p0_6w), (oX9 (p0_6_1a 0 0) (p0_6_1a 0) (p0_6_1k 0) (p0_6_1n 0) (p0_6_1w 0)), (oX9 (p0_6_1a 1 0) (p0_6_1a 1) (p0_6_1k 1) (p0_6_1n 1) (p0_6_1w 1)), (oX9 (p0_6_1a 2 0) (p0_6_1a 2) (p0_6_1k 2) (p0_6_1n 2) (p0_6_1w 2)), (oX9 (p0_6_1a 3 0) (p0_6_1a 3) (p0_6_1k 3) (p0_6_1n 3) (p0_6_1w 3)), (oX9 (p0_6_1a 4 0) (p0_6_1a 4) (p0_6_1k 4) (p0_6_1n 4) (p0_6_1w 4)), (oX9 (p0_6_1a 5 0) (p0_6_1a 5) (p0_6_1k 5) (p0_6_1n 5) (p0_6_1w 5)), (oX6 (p0a 5) p0_4a p0_4k p0_4w p0_4l), [((p0_6a 2), .inl (p0_6_1c, 6, .inr (.inr (.inr (.inr (fun i => some (p0_6_1a i 0)))))))]] : List va_W)) H := by first | exact hP | (rw [← ho9]; exact hP)
        have hD9 : va_D A (List.flatten ([(oX3 (p0a 0) p0a p0k p0n o), (oX0 (p0a 7) p0_6a p0_6k p0_6n p0_6w), (oX9 (p0_6_1a 0 0) (p0_6_1a 0) (p0_6_1k 0) (p0_6_1n 0) (p0_6_1w 0)), (oX9 (p0_6_1a 1 0) (p0_6_1a 1) (p0_6_1k 1) (p0_6_1n 1) (p0_6_1w 1)), (oX9 (p0_6_1a 2 0) (p0_6_1a 2) (p0_6_1k 2) (p0_6_1n 2) (p0_6_1w 2)), (oX9 (p0_6_1a 3 0) (p0_6_1a 3) (p0_6_1k 3) (p0_6_1n 3) (p0_6_1w 3)), (oX9 (p0_6_1a 4 0) (p0_6_1a 4) (p0_6_1k 4) (p0_6_1n 4) (p0_6_1w 4)), (oX9 (p0_6_1a 5 0) (p0_6_1a 5) (p0_6_1k 5) (p0_6_1n 5) (p0_6_1w 5)), (oX6 (p0a 5) p0_4a p0_4k p0_4w p0_4l), [((p0_6a 2), .inl (p0_6_1c, 6, .inr (.inr (.inr (.inr (fun i => some (p0_6_1a i 0)))))))]] : List va_W)) := by first | exact hD | (rw [← ho9]; exact hD)
        subst hQ
        exact W.vret hx hb hr (fun t ht hW => ⟨⟨(), rfl, trivial, ⟨by rw [ht]; exact hP9, va_K.moved hW.alike hK, hD9⟩⟩, hS.F ht⟩) hS.2.2 dX3_moveInCode_353
      rcases br9 hrun with ⟨hc12, hrun⟩ | ⟨hc12, hrun⟩
      · refine lv_tableIn (off := 44) (tgt := 112) hx hb dX3_moveInCode_68 (by rw [hc12]; decide) (by rw [hc12]; decide) (by rw [hc12]; rfl) (by decide) ?_
        refine lv_aload_n hx hb dX3_moveInCode_112 rfl (lv_at hl 5 rfl) ?_
        refine va_get (D := (dC, dI)) (ci := 10) (v := .ref (p0a 12)) (C := RX3) (T := TX3) (N := 20) hx hb hts i_X3 hown hK hP 0 rfl rfl 11 (by decide) (hts _ qw915) (fun _ h9 => h9) rfl dX3_moveInCode_113 ?_
        refine lv_iload_n hx hb dX3_moveInCode_116 rfl (lv_at hl 4 rfl) ?_
        refine lv_iload hx hb dX3_moveInCode_117 (lv_at hl 0 rfl) ?_
        obtain ⟨hq13, hrun⟩ := chk9 hrun
        refine va_iast hx hb hK hP hD hS 4 3 rfl rfl (ixb_in hq13) dX3_moveInCode_119 (fun H locs hP hD hS => ?_)
        have hP : va_P (dC, dI) cls (List.flatten ([(oX3 (p0a 0) p0a p0k p0n (upw w9 12 (nn ((p0w 0 9) - 1)) (((p0_6_1w 0) 4) (nn (p0w 12 (nn ((p0w 0 9) - 1))))))), (oX0 (p0a 7) p0_6a p0_6k p0_6n p0_6w), (oX9 (p0_6_1a 0 0) (p0_6_1a 0) (p0_6_1k 0) (p0_6_1n 0) (p0_6_1w 0)), (oX9 (p0_6_1a 1 0) (p0_6_1a 1) (p0_6_1k 1) (p0_6_1n 1) (p0_6_1w 1)), (oX9 (p0_6_1a 2 0) (p0_6_1a 2) (p0_6_1k 2) (p0_6_1n 2) (p0_6_1w 2)), (oX9 (p0_6_1a 3 0) (p0_6_1a 3) (p0_6_1k 3) (p0_6_1n 3) (p0_6_1w 3)), (oX9 (p0_6_1a 4 0) (p0_6_1a 4) (p0_6_1k 4) (p0_6_1n 4) (p0_6_1w 4)), (oX9 (p0_6_1a 5 0) (p0_6_1a 5) (p0_6_1k 5) (p0_6_1n 5) (p0_6_1w 5)), (oX6 (p0a 5) p0_4a p0_4k p0_4w p0_4l), [((p0_6a 2), .inl (p0_6_1c, 6, .inr (.inr (.inr (.inr (fun i => some (p0_6_1a i 0)))))))]] : List va_W)) H := hP
        have hD : va_D A (List.flatten ([(oX3 (p0a 0) p0a p0k p0n (upw w9 12 (nn ((p0w 0 9) - 1)) (((p0_6_1w 0) 4) (nn (p0w 12 (nn ((p0w 0 9) - 1))))))), (oX0 (p0a 7) p0_6a p0_6k p0_6n p0_6w), (oX9 (p0_6_1a 0 0) (p0_6_1a 0) (p0_6_1k 0) (p0_6_1n 0) (p0_6_1w 0)), (oX9 (p0_6_1a 1 0) (p0_6_1a 1) (p0_6_1k 1) (p0_6_1n 1) (p0_6_1w 1)), (oX9 (p0_6_1a 2 0) (p0_6_1a 2) (p0_6_1k 2) (p0_6_1n 2) (p0_6_1w 2)), (oX9 (p0_6_1a 3 0) (p0_6_1a 3) (p0_6_1k 3) (p0_6_1n 3) (p0_6_1w 3)), (oX9 (p0_6_1a 4 0) (p0_6_1a 4) (p0_6_1k 4) (p0_6_1n 4) (p0_6_1w 4)), (oX9 (p0_6_1a 5 0) (p0_6_1a 5) (p0_6_1k 5) (p0_6_1n 5) (p0_6_1w 5)), (oX6 (p0a 5) p0_4a p0_4k p0_4w p0_4l), [((p0_6a 2), .inl (p0_6_1c, 6, .inr (.inr (.inr (.inr (fun i => some (p0_6_1a i 0)))))))]] : List va_W)) := hD
        obtain ⟨w14, ew14, hrun⟩ := let9 hrun
        rw [← ew14] at hP hD
        refine lv_goto (tgt := 353) hx hb dX3_moveInCode_120 (by decide) ?_
        exact J353 w14 _ _ _ hrun hP hD hK hS (lv_sub hl [] rfl)
      rcases br9 hrun with ⟨hc15, hrun⟩ | ⟨hc15, hrun⟩
      · refine lv_tableIn (off := 55) (tgt := 123) hx hb dX3_moveInCode_68 (by rw [hc15]; decide) (by rw [hc15]; decide) (by rw [hc15]; rfl) (by decide) ?_
        refine lv_aload_n hx hb dX3_moveInCode_123 rfl (lv_at hl 5 rfl) ?_
        refine va_get (D := (dC, dI)) (ci := 10) (v := .ref (p0a 16)) (C := RX3) (T := TX3) (N := 20) hx hb hts i_X3 hown hK hP 0 rfl rfl 15 (by decide) (hts _ qw906) (fun _ h9 => h9) rfl dX3_moveInCode_124 ?_
        refine lv_iload hx hb dX3_moveInCode_127 (lv_at hl 1 rfl) ?_
        refine lv_iload hx hb dX3_moveInCode_129 (lv_at hl 0 rfl) ?_
        refine lv_iadd hx hb dX3_moveInCode_131 ?_
        obtain ⟨hq16, hrun⟩ := chk9 hrun
        refine va_iald hx hb hK hP 8 7 rfl rfl (ixb_in hq16) dX3_moveInCode_132 ?_
        rcases br9 hrun with ⟨hc17, hrun⟩ | ⟨hc17, hrun⟩
        · refine lv_if_eq (tgt := 353) hx hb dX3_moveInCode_133 (by decide) (fun _ => ?_) (fun c => absurd hc17 c)
          exact J353 w9 _ _ _ hrun hP hD hK hS (lv_sub hl [] rfl)
        · refine lv_if_eq (tgt := 353) hx hb dX3_moveInCode_133 (by decide) (fun c => absurd c hc17) (fun _ => ?_)
          refine lv_aload_n hx hb dX3_moveInCode_136 rfl (lv_at hl 5 rfl) ?_
          refine va_get (D := (dC, dI)) (ci := 10) (v := .ref (p0a 12)) (C := RX3) (T := TX3) (N := 20) hx hb hts i_X3 hown hK hP 0 rfl rfl 11 (by decide) (hts _ qw915) (fun _ h9 => h9) rfl dX3_moveInCode_137 ?_
          refine lv_iload_n hx hb dX3_moveInCode_140 rfl (lv_at hl 4 rfl) ?_
          refine lv_aload_n hx hb dX3_moveInCode_141 rfl (lv_at hl 3 rfl) ?_
          refine va_get (D := (dC, dI)) (ci := 3) (v := .ref ((p0_6_1a 0) 5)) (C := RX9) (T := TX9) (N := 6) hx hb hts i_X9 hown hK hP 20 rfl rfl 4 (by decide) (hts _ qw967) (fun _ h9 => h9) rfl dX3_moveInCode_142 ?_
          refine lv_iload_n hx hb dX3_moveInCode_145 rfl (lv_at hl 2 rfl) ?_
          obtain ⟨hq18, hrun⟩ := chk9 hrun
          refine va_iald hx hb hK hP 24 21 rfl rfl (ixb_in hq18) dX3_moveInCode_146 ?_
          obtain ⟨hq19, hrun⟩ := chk9 hrun
          refine va_iast hx hb hK hP hD hS 4 3 rfl rfl (ixb_in hq19) dX3_moveInCode_147 (fun H locs hP hD hS => ?_)
          have hP : va_P (dC, dI) cls (List.flatten ([(oX3 (p0a 0) p0a p0k p0n (upw w9 12 (nn ((p0w 0 9) - 1)) (((p0_6_1w 0) 5) (nn (p0w 12 (nn ((p0w 0 9) - 1))))))), (oX0 (p0a 7) p0_6a p0_6k p0_6n p0_6w), (oX9 (p0_6_1a 0 0) (p0_6_1a 0) (p0_6_1k 0) (p0_6_1n 0) (p0_6_1w 0)), (oX9 (p0_6_1a 1 0) (p0_6_1a 1) (p0_6_1k 1) (p0_6_1n 1) (p0_6_1w 1)), (oX9 (p0_6_1a 2 0) (p0_6_1a 2) (p0_6_1k 2) (p0_6_1n 2) (p0_6_1w 2)), (oX9 (p0_6_1a 3 0) (p0_6_1a 3) (p0_6_1k 3) (p0_6_1n 3) (p0_6_1w 3)), (oX9 (p0_6_1a 4 0) (p0_6_1a 4) (p0_6_1k 4) (p0_6_1n 4) (p0_6_1w 4)), (oX9 (p0_6_1a 5 0) (p0_6_1a 5) (p0_6_1k 5) (p0_6_1n 5) (p0_6_1w 5)), (oX6 (p0a 5) p0_4a p0_4k p0_4w p0_4l), [((p0_6a 2), .inl (p0_6_1c, 6, .inr (.inr (.inr (.inr (fun i => some (p0_6_1a i 0)))))))]] : List va_W)) H := hP
          have hD : va_D A (List.flatten ([(oX3 (p0a 0) p0a p0k p0n (upw w9 12 (nn ((p0w 0 9) - 1)) (((p0_6_1w 0) 5) (nn (p0w 12 (nn ((p0w 0 9) - 1))))))), (oX0 (p0a 7) p0_6a p0_6k p0_6n p0_6w), (oX9 (p0_6_1a 0 0) (p0_6_1a 0) (p0_6_1k 0) (p0_6_1n 0) (p0_6_1w 0)), (oX9 (p0_6_1a 1 0) (p0_6_1a 1) (p0_6_1k 1) (p0_6_1n 1) (p0_6_1w 1)), (oX9 (p0_6_1a 2 0) (p0_6_1a 2) (p0_6_1k 2) (p0_6_1n 2) (p0_6_1w 2)), (oX9 (p0_6_1a 3 0) (p0_6_1a 3) (p0_6_1k 3) (p0_6_1n 3) (p0_6_1w 3)), (oX9 (p0_6_1a 4 0) (p0_6_1a 4) (p0_6_1k 4) (p0_6_1n 4) (p0_6_1w 4)), (oX9 (p0_6_1a 5 0) (p0_6_1a 5) (p0_6_1k 5) (p0_6_1n 5) (p0_6_1w 5)), (oX6 (p0a 5) p0_4a p0_4k p0_4w p0_4l), [((p0_6a 2), .inl (p0_6_1c, 6, .inr (.inr (.inr (.inr (fun i => some (p0_6_1a i 0)))))))]] : List va_W)) := hD
          obtain ⟨w20, ew20, hrun⟩ := let9 hrun
          rw [← ew20] at hP hD
          refine lv_goto (tgt := 353) hx hb dX3_moveInCode_148 (by decide) ?_
          exact J353 w20 _ _ _ hrun hP hD hK hS (lv_sub hl [] rfl)
      rcases br9 hrun with ⟨hc21, hrun⟩ | ⟨hc21, hrun⟩
      · refine lv_tableIn (off := 111) (tgt := 179) hx hb dX3_moveInCode_68 (by rw [hc21]; decide) (by rw [hc21]; decide) (by rw [hc21]; rfl) (by decide) ?_
        refine lv_aload_n hx hb dX3_moveInCode_179 rfl (lv_at hl 5 rfl) ?_
        refine va_get (D := (dC, dI)) (ci := 10) (v := .ref (p0a 16)) (C := RX3) (T := TX3) (N := 20) hx hb hts i_X3 hown hK hP 0 rfl rfl 15 (by decide) (hts _ qw906) (fun _ h9 => h9) rfl dX3_moveInCode_180 ?_
        refine lv_iload hx hb dX3_moveInCode_183 (lv_at hl 1 rfl) ?_
        refine lv_iload hx hb dX3_moveInCode_185 (lv_at hl 0 rfl) ?_
        refine lv_iadd hx hb dX3_moveInCode_187 ?_
        obtain ⟨hq22, hrun⟩ := chk9 hrun
        refine va_iald hx hb hK hP 8 7 rfl rfl (ixb_in hq22) dX3_moveInCode_188 ?_
        refine lv_istore (lv' := [(6, .int (w9 16 (nn ((((p0w 0 9) - 1) * 320) + (((p0_6_1w 0) 4) (nn (p0w 12 (nn ((p0w 0 9) - 1))))))))), (5, .int (((p0_6_1w 0) 4) (nn (p0w 12 (nn ((p0w 0 9) - 1)))))), (4, .int (((p0w 0 9) - 1) * 320)), (3, .int (p0w 12 (nn ((p0w 0 9) - 1)))), (2, .ref (p0_6_1a 0 0)), (1, .int ((p0w 0 9) - 1)), (0, .ref (p0a 0))]) hx hb dX3_moveInCode_189 hl (by decide) rfl (fun ls hl => ?_)
        refine lv_aload_n hx hb dX3_moveInCode_191 rfl (lv_at hl 6 rfl) ?_
        refine lv_iload hx hb dX3_moveInCode_192 (lv_at hl 0 rfl) ?_
        obtain ⟨o_23, hc_23, hrun⟩ := bnd9 hrun
        have hPx : va_P (dC, dI) cls ((List.flatten ([(oX3 (p0a 0) p0a p0k p0n w9)] : List va_W)) ++ (List.flatten ([(oX0 (p0a 7) p0_6a p0_6k p0_6n p0_6w), (oX9 (p0_6_1a 0 0) (p0_6_1a 0) (p0_6_1k 0) (p0_6_1n 0) (p0_6_1w 0)), (oX9 (p0_6_1a 1 0) (p0_6_1a 1) (p0_6_1k 1) (p0_6_1n 1) (p0_6_1w 1)), (oX9 (p0_6_1a 2 0) (p0_6_1a 2) (p0_6_1k 2) (p0_6_1n 2) (p0_6_1w 2)), (oX9 (p0_6_1a 3 0) (p0_6_1a 3) (p0_6_1k 3) (p0_6_1n 3) (p0_6_1w 3)), (oX9 (p0_6_1a 4 0) (p0_6_1a 4) (p0_6_1k 4) (p0_6_1n 4) (p0_6_1w 4)), (oX9 (p0_6_1a 5 0) (p0_6_1a 5) (p0_6_1k 5) (p0_6_1n 5) (p0_6_1w 5)), (oX6 (p0a 5) p0_4a p0_4k p0_4w p0_4l), [((p0_6a 2), .inl (p0_6_1c, 6, .inr (.inr (.inr (.inr (fun i => some (p0_6_1a i 0)))))))]] : List va_W))) H := vP_fa (vP_perm hP (bP (List.Perm.refl _)))
        have hDx : va_D A ((List.flatten ([(oX3 (p0a 0) p0a p0k p0n w9)] : List va_W)) ++ (List.flatten ([(oX0 (p0a 7) p0_6a p0_6k p0_6n p0_6w), (oX9 (p0_6_1a 0 0) (p0_6_1a 0) (p0_6_1k 0) (p0_6_1n 0) (p0_6_1w 0)), (oX9 (p0_6_1a 1 0) (p0_6_1a 1) (p0_6_1k 1) (p0_6_1n 1) (p0_6_1w 1)), (oX9 (p0_6_1a 2 0) (p0_6_1a 2) (p0_6_1k 2) (p0_6_1n 2) (p0_6_1w 2)), (oX9 (p0_6_1a 3 0) (p0_6_1a 3) (p0_6_1k 3) (p0_6_1n 3) (p0_6_1w 3)), (oX9 (p0_6_1a 4 0) (p0_6_1a 4) (p0_6_1k 4) (p0_6_1n 4) (p0_6_1w 4)), (oX9 (p0_6_1a 5 0) (p0_6_1a 5) (p0_6_1k 5) (p0_6_1n 5) (p0_6_1w 5)), (oX6 (p0a 5) p0_4a p0_4k p0_4w p0_4l), [((p0_6a 2), .inl (p0_6_1c, 6, .inr (.inr (.inr (.inr (fun i => some (p0_6_1a i 0)))))))]] : List va_W))) := vD_fa (vD_perm hD (bP (List.Perm.refl _)))
        have hKx : va_K (dC, dI) cls ((List.flatten ([(tX3 p0k)] : List (List (ClassId × FieldType)))) ++ (List.flatten ([(tX0 p0_6k), (tX9 (p0_6_1k 0)), (tX9 (p0_6_1k 1)), (tX9 (p0_6_1k 2)), (tX9 (p0_6_1k 3)), (tX9 (p0_6_1k 4)), (tX9 (p0_6_1k 5)), (tX6 p0_4k), [(p0_6_1c, .object RX9)]] : List (List (ClassId × FieldType))))) s := vK_fa (vK_perm hK (bP (List.Perm.refl _)))
        have hPc := vP_l hPx
        have hDc := vD_l hDx
        have hKc := vK_l hKx
        have hFc := vfree hDx hS hA
        refine va_calli (va_runV (As := [.int (w9 16 (nn ((((p0w 0 9) - 1) * 320) + (((p0_6_1w 0) 4) (nn (p0w 12 (nn ((p0w 0 9) - 1))))))))]) (rest := []) ⟨hx, hb, hml, hown, hts⟩ (kX3_close l dC dI (p0a := p0a) (p0k := p0k) (p0n := p0n) (p0w := w9) (p1 := (w9 16 (nn ((((p0w 0 9) - 1) * 320) + (((p0_6_1w 0) 4) (nn (p0w 12 (nn ((p0w 0 9) - 1))))))))) (sz := _) (o := o_23) (hrun := hc_23)) (cwV 1 hts (gi_V qw909 qw910 qw911 qw903 (gi_z qw908)) rfl rfl rfl (by decide +kernel) ⟨Nat.le_of_ble_eq_true rfl, Nat.le_of_ble_eq_true rfl⟩) ⟨PRE.blind, va_recv hKc hPc (ci := 10) (q0 := 0) rfl rfl, PRE.of hE hS hFc hPc hKc hDc⟩ rfl rfl hl.1 rfl (lv_room (Nat.le_of_ble_eq_true rfl)) dX3_moveInCode_194 ⟨(Nat.le_of_ble_eq_true rfl), (Nat.le_of_ble_eq_true rfl)⟩) hS (fun q _ h => hFc q h) hFc (fun r24 u t H locs ht hvm hw hB hz1 hk1 hS => ?_)
        obtain ⟨b1, b2, b3⟩ := hB
        rw [ht] at b1
        obtain ⟨hP, hD, hK⟩ := JOINC (wc := (List.flatten ([(oX3 (p0a 0) p0a p0k p0n w9)] : List va_W))) (wr := (List.flatten ([(oX0 (p0a 7) p0_6a p0_6k p0_6n p0_6w), (oX9 (p0_6_1a 0 0) (p0_6_1a 0) (p0_6_1k 0) (p0_6_1n 0) (p0_6_1w 0)), (oX9 (p0_6_1a 1 0) (p0_6_1a 1) (p0_6_1k 1) (p0_6_1n 1) (p0_6_1w 1)), (oX9 (p0_6_1a 2 0) (p0_6_1a 2) (p0_6_1k 2) (p0_6_1n 2) (p0_6_1w 2)), (oX9 (p0_6_1a 3 0) (p0_6_1a 3) (p0_6_1k 3) (p0_6_1n 3) (p0_6_1w 3)), (oX9 (p0_6_1a 4 0) (p0_6_1a 4) (p0_6_1k 4) (p0_6_1n 4) (p0_6_1w 4)), (oX9 (p0_6_1a 5 0) (p0_6_1a 5) (p0_6_1k 5) (p0_6_1n 5) (p0_6_1w 5)), (oX6 (p0a 5) p0_4a p0_4k p0_4w p0_4l), [((p0_6a 2), .inl (p0_6_1c, 6, .inr (.inr (.inr (.inr (fun i => some (p0_6_1a i 0)))))))]] : List va_W))) (w1 := (List.flatten ([(oX3 (p0a 0) p0a p0k p0n (o_23.2))] : List va_W))) (t1 := (List.flatten ([(tX3 p0k)] : List (List (ClassId × FieldType))))) hPx hDx hKx hk1 hFc b1 (va_K.moved hvm.symm b2) b3
        have hP : va_P (dC, dI) cls (List.flatten ([(oX3 (p0a 0) p0a p0k p0n (o_23.2)), (oX0 (p0a 7) p0_6a p0_6k p0_6n p0_6w), (oX9 (p0_6_1a 0 0) (p0_6_1a 0) (p0_6_1k 0) (p0_6_1n 0) (p0_6_1w 0)), (oX9 (p0_6_1a 1 0) (p0_6_1a 1) (p0_6_1k 1) (p0_6_1n 1) (p0_6_1w 1)), (oX9 (p0_6_1a 2 0) (p0_6_1a 2) (p0_6_1k 2) (p0_6_1n 2) (p0_6_1w 2)), (oX9 (p0_6_1a 3 0) (p0_6_1a 3) (p0_6_1k 3) (p0_6_1n 3) (p0_6_1w 3)), (oX9 (p0_6_1a 4 0) (p0_6_1a 4) (p0_6_1k 4) (p0_6_1n 4) (p0_6_1w 4)), (oX9 (p0_6_1a 5 0) (p0_6_1a 5) (p0_6_1k 5) (p0_6_1n 5) (p0_6_1w 5)), (oX6 (p0a 5) p0_4a p0_4k p0_4w p0_4l), [((p0_6a 2), .inl (p0_6_1c, 6, .inr (.inr (.inr (.inr (fun i => some (p0_6_1a i 0)))))))]] : List va_W)) H := vP_perm (vP_fb hP) (bP (List.Perm.refl _))
        have hD : va_D A (List.flatten ([(oX3 (p0a 0) p0a p0k p0n (o_23.2)), (oX0 (p0a 7) p0_6a p0_6k p0_6n p0_6w), (oX9 (p0_6_1a 0 0) (p0_6_1a 0) (p0_6_1k 0) (p0_6_1n 0) (p0_6_1w 0)), (oX9 (p0_6_1a 1 0) (p0_6_1a 1) (p0_6_1k 1) (p0_6_1n 1) (p0_6_1w 1)), (oX9 (p0_6_1a 2 0) (p0_6_1a 2) (p0_6_1k 2) (p0_6_1n 2) (p0_6_1w 2)), (oX9 (p0_6_1a 3 0) (p0_6_1a 3) (p0_6_1k 3) (p0_6_1n 3) (p0_6_1w 3)), (oX9 (p0_6_1a 4 0) (p0_6_1a 4) (p0_6_1k 4) (p0_6_1n 4) (p0_6_1w 4)), (oX9 (p0_6_1a 5 0) (p0_6_1a 5) (p0_6_1k 5) (p0_6_1n 5) (p0_6_1w 5)), (oX6 (p0a 5) p0_4a p0_4k p0_4w p0_4l), [((p0_6a 2), .inl (p0_6_1c, 6, .inr (.inr (.inr (.inr (fun i => some (p0_6_1a i 0)))))))]] : List va_W)) := vD_perm (vD_fb hD) (bP (List.Perm.refl _))
        have hK : va_K (dC, dI) cls (List.flatten ([(tX3 p0k), (tX0 p0_6k), (tX9 (p0_6_1k 0)), (tX9 (p0_6_1k 1)), (tX9 (p0_6_1k 2)), (tX9 (p0_6_1k 3)), (tX9 (p0_6_1k 4)), (tX9 (p0_6_1k 5)), (tX6 p0_4k), [(p0_6_1c, .object RX9)]] : List (List (ClassId × FieldType)))) s := vK_perm (vK_fb hK) (bP (List.Perm.refl _))
        obtain rfl : r24 = (o_23.1) := hw
        rcases br9 hrun with ⟨hc25, hrun⟩ | ⟨hc25, hrun⟩
        · refine lv_if_eq (tgt := 353) hx hb dX3_moveInCode_197 (by decide) (fun _ => ?_) (fun c => absurd hc25 c)
          exact J353 (o_23.2) _ _ _ hrun hP hD hK hS (lv_sub hl [] rfl)
        · refine lv_if_eq (tgt := 353) hx hb dX3_moveInCode_197 (by decide) (fun c => absurd c hc25) (fun _ => ?_)
          refine lv_aload_n hx hb dX3_moveInCode_200 rfl (lv_at hl 6 rfl) ?_
          refine va_get (D := (dC, dI)) (ci := 10) (v := .int ((o_23.2) 0 9)) (C := RX3) (T := TX3) (N := 20) hx hb hts i_X3 hown hK hP 0 rfl rfl 9 (by decide) (hts _ qw897) (fun _ h9 => h9) rfl dX3_moveInCode_201 ?_
          refine lv_iconst (v := 1) hx hb dX3_moveInCode_204 (by decide) ?_
          refine lv_isub hx hb dX3_moveInCode_205 ?_
          refine lv_istore (lv' := [(7, .int (((o_23.2) 0 9) - 1)), (6, .int (w9 16 (nn ((((p0w 0 9) - 1) * 320) + (((p0_6_1w 0) 4) (nn (p0w 12 (nn ((p0w 0 9) - 1))))))))), (5, .int (((p0_6_1w 0) 4) (nn (p0w 12 (nn ((p0w 0 9) - 1)))))), (4, .int (((p0w 0 9) - 1) * 320)), (3, .int (p0w 12 (nn ((p0w 0 9) - 1)))), (2, .ref (p0_6_1a 0 0)), (1, .int ((p0w 0 9) - 1)), (0, .ref (p0a 0))]) hx hb dX3_moveInCode_206 hl (by decide) rfl (fun ls hl => ?_)
          refine lv_aload_n hx hb dX3_moveInCode_208 rfl (lv_at hl 7 rfl) ?_
          refine va_get (D := (dC, dI)) (ci := 10) (v := .ref (p0a 7)) (C := RX3) (T := TX3) (N := 20) hx hb hts i_X3 hown hK hP 0 rfl rfl 6 (by decide) (hts _ qw946) (fun _ h9 => h9) rfl dX3_moveInCode_209 ?_
          refine va_get (D := (dC, dI)) (ci := 8) (v := .ref (p0_6a 2)) (C := RX0) (T := TX0) (N := 17) hx hb hts i_X0 hown hK hP 11 rfl rfl 1 (by decide) (hts _ qw988) (fun _ h9 => h9) rfl dX3_moveInCode_212 ?_
          refine lv_aload_n hx hb dX3_moveInCode_215 rfl (lv_at hl 7 rfl) ?_
          refine va_get (D := (dC, dI)) (ci := 10) (v := .ref (p0a 11)) (C := RX3) (T := TX3) (N := 20) hx hb hts i_X3 hown hK hP 0 rfl rfl 10 (by decide) (hts _ qw913) (fun _ h9 => h9) rfl dX3_moveInCode_216 ?_
          refine lv_iload hx hb dX3_moveInCode_219 (lv_at hl 0 rfl) ?_
          obtain ⟨hq26, hrun⟩ := chk9 hrun
          refine va_iald hx hb hK hP 3 2 rfl rfl (ixb_in hq26) dX3_moveInCode_221 ?_
          obtain ⟨hq27, hrun⟩ := chk9 hrun
          refine va_aldq hx hb hK hP 67 58 rfl rfl (ixb_in hq27) dX3_moveInCode_222 ?_
          obtain ⟨i28, ei28, hrun⟩ := let9 hrun
          have hi_i28 : i28 < 6 := by rw [ei28]; exact ixb_lt hq27
          have es_i28 : Int32.toNatClampNeg (((o_23.2) 11) (nn (((o_23.2) 0 9) - 1))) = i28 := ei28.symm
          rw [es_i28]
          clear ei28
          rcases lt6 hi_i28 with rfl | rfl | rfl | rfl | rfl | rfl
          · refine W.eq (g2 := F0 m 223 ls [.ref (p0_6_1a 0 0)]) rfl ?_
            refine va_get (D := (dC, dI)) (ci := 3) (v := .ref ((p0_6_1a 0) 3)) (C := RX9) (T := TX9) (N := 6) hx hb hts i_X9 hown hK hP 20 rfl rfl 2 (by decide) (hts _ qw918) (fun _ h9 => h9) rfl dX3_moveInCode_223 ?_
            refine lv_aload_n hx hb dX3_moveInCode_226 rfl (lv_at hl 7 rfl) ?_
            refine va_get (D := (dC, dI)) (ci := 10) (v := .ref (p0a 12)) (C := RX3) (T := TX3) (N := 20) hx hb hts i_X3 hown hK hP 0 rfl rfl 11 (by decide) (hts _ qw915) (fun _ h9 => h9) rfl dX3_moveInCode_227 ?_
            refine lv_iload hx hb dX3_moveInCode_230 (lv_at hl 0 rfl) ?_
            obtain ⟨hq29, hrun⟩ := chk9 hrun
            refine va_iald hx hb hK hP 4 3 rfl rfl (ixb_in hq29) dX3_moveInCode_232 ?_
            refine lv_iconst (v := 1) hx hb dX3_moveInCode_233 (by decide) ?_
            refine lv_isub hx hb dX3_moveInCode_234 ?_
            obtain ⟨hq30, hrun⟩ := chk9 hrun
            refine va_iald hx hb hK hP 22 19 rfl rfl (ixb_in hq30) dX3_moveInCode_235 ?_
            refine lv_istore (lv' := [(8, .int (((p0_6_1w 0) 3) (nn ((((o_23.2) 12) (nn (((o_23.2) 0 9) - 1))) - 1)))), (7, .int (((o_23.2) 0 9) - 1)), (6, .int (w9 16 (nn ((((p0w 0 9) - 1) * 320) + (((p0_6_1w 0) 4) (nn (p0w 12 (nn ((p0w 0 9) - 1))))))))), (5, .int (((p0_6_1w 0) 4) (nn (p0w 12 (nn ((p0w 0 9) - 1)))))), (4, .int (((p0w 0 9) - 1) * 320)), (3, .int (p0w 12 (nn ((p0w 0 9) - 1)))), (2, .ref (p0_6_1a 0 0)), (1, .int ((p0w 0 9) - 1)), (0, .ref (p0a 0))]) hx hb dX3_moveInCode_236 hl (by decide) rfl (fun ls hl => ?_)
            refine lv_aload_n hx hb dX3_moveInCode_238 rfl (lv_at hl 8 rfl) ?_
            refine va_get (D := (dC, dI)) (ci := 10) (v := .ref (p0a 16)) (C := RX3) (T := TX3) (N := 20) hx hb hts i_X3 hown hK hP 0 rfl rfl 15 (by decide) (hts _ qw906) (fun _ h9 => h9) rfl dX3_moveInCode_239 ?_
            refine lv_iload hx hb dX3_moveInCode_242 (lv_at hl 1 rfl) ?_
            refine lv_sipush (v := 320) hx hb dX3_moveInCode_244 (by decide) ?_
            refine lv_imul hx hb dX3_moveInCode_247 ?_
            refine lv_iload hx hb dX3_moveInCode_248 (lv_at hl 0 rfl) ?_
            refine lv_iadd hx hb dX3_moveInCode_250 ?_
            refine lv_iload hx hb dX3_moveInCode_251 (lv_at hl 2 rfl) ?_
            obtain ⟨hq31, hrun⟩ := chk9 hrun
            refine va_iast hx hb hK hP hD hS 8 7 rfl rfl (ixb_in hq31) dX3_moveInCode_253 (fun H locs hP hD hS => ?_)
            have hP : va_P (dC, dI) cls (List.flatten ([(oX3 (p0a 0) p0a p0k p0n (upw (o_23.2) 16 (nn (((((o_23.2) 0 9) - 1) * 320) + (((p0_6_1w 0) 3) (nn ((((o_23.2) 12) (nn (((o_23.2) 0 9) - 1))) - 1))))) (w9 16 (nn ((((p0w 0 9) - 1) * 320) + (((p0_6_1w 0) 4) (nn (p0w 12 (nn ((p0w 0 9) - 1)))))))))), (oX0 (p0a 7) p0_6a p0_6k p0_6n p0_6w), (oX9 (p0_6_1a 0 0) (p0_6_1a 0) (p0_6_1k 0) (p0_6_1n 0) (p0_6_1w 0)), (oX9 (p0_6_1a 1 0) (p0_6_1a 1) (p0_6_1k 1) (p0_6_1n 1) (p0_6_1w 1)), (oX9 (p0_6_1a 2 0) (p0_6_1a 2) (p0_6_1k 2) (p0_6_1n 2) (p0_6_1w 2)), (oX9 (p0_6_1a 3 0) (p0_6_1a 3) (p0_6_1k 3) (p0_6_1n 3) (p0_6_1w 3)), (oX9 (p0_6_1a 4 0) (p0_6_1a 4) (p0_6_1k 4) (p0_6_1n 4) (p0_6_1w 4)), (oX9 (p0_6_1a 5 0) (p0_6_1a 5) (p0_6_1k 5) (p0_6_1n 5) (p0_6_1w 5)), (oX6 (p0a 5) p0_4a p0_4k p0_4w p0_4l), [((p0_6a 2), .inl (p0_6_1c, 6, .inr (.inr (.inr (.inr (fun i => some (p0_6_1a i 0)))))))]] : List va_W)) H := hP
            have hD : va_D A (List.flatten ([(oX3 (p0a 0) p0a p0k p0n (upw (o_23.2) 16 (nn (((((o_23.2) 0 9) - 1) * 320) + (((p0_6_1w 0) 3) (nn ((((o_23.2) 12) (nn (((o_23.2) 0 9) - 1))) - 1))))) (w9 16 (nn ((((p0w 0 9) - 1) * 320) + (((p0_6_1w 0) 4) (nn (p0w 12 (nn ((p0w 0 9) - 1)))))))))), (oX0 (p0a 7) p0_6a p0_6k p0_6n p0_6w), (oX9 (p0_6_1a 0 0) (p0_6_1a 0) (p0_6_1k 0) (p0_6_1n 0) (p0_6_1w 0)), (oX9 (p0_6_1a 1 0) (p0_6_1a 1) (p0_6_1k 1) (p0_6_1n 1) (p0_6_1w 1)), (oX9 (p0_6_1a 2 0) (p0_6_1a 2) (p0_6_1k 2) (p0_6_1n 2) (p0_6_1w 2)), (oX9 (p0_6_1a 3 0) (p0_6_1a 3) (p0_6_1k 3) (p0_6_1n 3) (p0_6_1w 3)), (oX9 (p0_6_1a 4 0) (p0_6_1a 4) (p0_6_1k 4) (p0_6_1n 4) (p0_6_1w 4)), (oX9 (p0_6_1a 5 0) (p0_6_1a 5) (p0_6_1k 5) (p0_6_1n 5) (p0_6_1w 5)), (oX6 (p0a 5) p0_4a p0_4k p0_4w p0_4l), [((p0_6a 2), .inl (p0_6_1c, 6, .inr (.inr (.inr (.inr (fun i => some (p0_6_1a i 0)))))))]] : List va_W)) := hD
            obtain ⟨w32, ew32, hrun⟩ := let9 hrun
            rw [← ew32] at hP hD
            refine lv_goto (tgt := 353) hx hb dX3_moveInCode_254 (by decide) ?_
            exact J353 w32 _ _ _ hrun hP hD hK hS (lv_sub hl [] rfl)
          · refine W.eq (g2 := F0 m 223 ls [.ref (p0_6_1a 1 0)]) rfl ?_
            refine va_get (D := (dC, dI)) (ci := 3) (v := .ref ((p0_6_1a 1) 3)) (C := RX9) (T := TX9) (N := 6) hx hb hts i_X9 hown hK hP 26 rfl rfl 2 (by decide) (hts _ qw918) (fun _ h9 => h9) rfl dX3_moveInCode_223 ?_
            refine lv_aload_n hx hb dX3_moveInCode_226 rfl (lv_at hl 7 rfl) ?_
            refine va_get (D := (dC, dI)) (ci := 10) (v := .ref (p0a 12)) (C := RX3) (T := TX3) (N := 20) hx hb hts i_X3 hown hK hP 0 rfl rfl 11 (by decide) (hts _ qw915) (fun _ h9 => h9) rfl dX3_moveInCode_227 ?_
            refine lv_iload hx hb dX3_moveInCode_230 (lv_at hl 0 rfl) ?_
            obtain ⟨hq29, hrun⟩ := chk9 hrun
            refine va_iald hx hb hK hP 4 3 rfl rfl (ixb_in hq29) dX3_moveInCode_232 ?_
            refine lv_iconst (v := 1) hx hb dX3_moveInCode_233 (by decide) ?_
            refine lv_isub hx hb dX3_moveInCode_234 ?_
            obtain ⟨hq30, hrun⟩ := chk9 hrun
            refine va_iald hx hb hK hP 28 24 rfl rfl (ixb_in hq30) dX3_moveInCode_235 ?_
            refine lv_istore (lv' := [(8, .int (((p0_6_1w 1) 3) (nn ((((o_23.2) 12) (nn (((o_23.2) 0 9) - 1))) - 1)))), (7, .int (((o_23.2) 0 9) - 1)), (6, .int (w9 16 (nn ((((p0w 0 9) - 1) * 320) + (((p0_6_1w 0) 4) (nn (p0w 12 (nn ((p0w 0 9) - 1))))))))), (5, .int (((p0_6_1w 0) 4) (nn (p0w 12 (nn ((p0w 0 9) - 1)))))), (4, .int (((p0w 0 9) - 1) * 320)), (3, .int (p0w 12 (nn ((p0w 0 9) - 1)))), (2, .ref (p0_6_1a 0 0)), (1, .int ((p0w 0 9) - 1)), (0, .ref (p0a 0))]) hx hb dX3_moveInCode_236 hl (by decide) rfl (fun ls hl => ?_)
            refine lv_aload_n hx hb dX3_moveInCode_238 rfl (lv_at hl 8 rfl) ?_
            refine va_get (D := (dC, dI)) (ci := 10) (v := .ref (p0a 16)) (C := RX3) (T := TX3) (N := 20) hx hb hts i_X3 hown hK hP 0 rfl rfl 15 (by decide) (hts _ qw906) (fun _ h9 => h9) rfl dX3_moveInCode_239 ?_
            refine lv_iload hx hb dX3_moveInCode_242 (lv_at hl 1 rfl) ?_
            refine lv_sipush (v := 320) hx hb dX3_moveInCode_244 (by decide) ?_
            refine lv_imul hx hb dX3_moveInCode_247 ?_
            refine lv_iload hx hb dX3_moveInCode_248 (lv_at hl 0 rfl) ?_
            refine lv_iadd hx hb dX3_moveInCode_250 ?_
            refine lv_iload hx hb dX3_moveInCode_251 (lv_at hl 2 rfl) ?_
            obtain ⟨hq31, hrun⟩ := chk9 hrun
            refine va_iast hx hb hK hP hD hS 8 7 rfl rfl (ixb_in hq31) dX3_moveInCode_253 (fun H locs hP hD hS => ?_)
            have hP : va_P (dC, dI) cls (List.flatten ([(oX3 (p0a 0) p0a p0k p0n (upw (o_23.2) 16 (nn (((((o_23.2) 0 9) - 1) * 320) + (((p0_6_1w 1) 3) (nn ((((o_23.2) 12) (nn (((o_23.2) 0 9) - 1))) - 1))))) (w9 16 (nn ((((p0w 0 9) - 1) * 320) + (((p0_6_1w 0) 4) (nn (p0w 12 (nn ((p0w 0 9) - 1)))))))))), (oX0 (p0a 7) p0_6a p0_6k p0_6n p0_6w), (oX9 (p0_6_1a 0 0) (p0_6_1a 0) (p0_6_1k 0) (p0_6_1n 0) (p0_6_1w 0)), (oX9 (p0_6_1a 1 0) (p0_6_1a 1) (p0_6_1k 1) (p0_6_1n 1) (p0_6_1w 1)), (oX9 (p0_6_1a 2 0) (p0_6_1a 2) (p0_6_1k 2) (p0_6_1n 2) (p0_6_1w 2)), (oX9 (p0_6_1a 3 0) (p0_6_1a 3) (p0_6_1k 3) (p0_6_1n 3) (p0_6_1w 3)), (oX9 (p0_6_1a 4 0) (p0_6_1a 4) (p0_6_1k 4) (p0_6_1n 4) (p0_6_1w 4)), (oX9 (p0_6_1a 5 0) (p0_6_1a 5) (p0_6_1k 5) (p0_6_1n 5) (p0_6_1w 5)), (oX6 (p0a 5) p0_4a p0_4k p0_4w p0_4l), [((p0_6a 2), .inl (p0_6_1c, 6, .inr (.inr (.inr (.inr (fun i => some (p0_6_1a i 0)))))))]] : List va_W)) H := hP
            have hD : va_D A (List.flatten ([(oX3 (p0a 0) p0a p0k p0n (upw (o_23.2) 16 (nn (((((o_23.2) 0 9) - 1) * 320) + (((p0_6_1w 1) 3) (nn ((((o_23.2) 12) (nn (((o_23.2) 0 9) - 1))) - 1))))) (w9 16 (nn ((((p0w 0 9) - 1) * 320) + (((p0_6_1w 0) 4) (nn (p0w 12 (nn ((p0w 0 9) - 1)))))))))), (oX0 (p0a 7) p0_6a p0_6k p0_6n p0_6w), (oX9 (p0_6_1a 0 0) (p0_6_1a 0) (p0_6_1k 0) (p0_6_1n 0) (p0_6_1w 0)), (oX9 (p0_6_1a 1 0) (p0_6_1a 1) (p0_6_1k 1) (p0_6_1n 1) (p0_6_1w 1)), (oX9 (p0_6_1a 2 0) (p0_6_1a 2) (p0_6_1k 2) (p0_6_1n 2) (p0_6_1w 2)), (oX9 (p0_6_1a 3 0) (p0_6_1a 3) (p0_6_1k 3) (p0_6_1n 3) (p0_6_1w 3)), (oX9 (p0_6_1a 4 0) (p0_6_1a 4) (p0_6_1k 4) (p0_6_1n 4) (p0_6_1w 4)), (oX9 (p0_6_1a 5 0) (p0_6_1a 5) (p0_6_1k 5) (p0_6_1n 5) (p0_6_1w 5)), (oX6 (p0a 5) p0_4a p0_4k p0_4w p0_4l), [((p0_6a 2), .inl (p0_6_1c, 6, .inr (.inr (.inr (.inr (fun i => some (p0_6_1a i 0)))))))]] : List va_W)) := hD
            obtain ⟨w32, ew32, hrun⟩ := let9 hrun
            rw [← ew32] at hP hD
            refine lv_goto (tgt := 353) hx hb dX3_moveInCode_254 (by decide) ?_
            exact J353 w32 _ _ _ hrun hP hD hK hS (lv_sub hl [] rfl)
          · refine W.eq (g2 := F0 m 223 ls [.ref (p0_6_1a 2 0)]) rfl ?_
            refine va_get (D := (dC, dI)) (ci := 3) (v := .ref ((p0_6_1a 2) 3)) (C := RX9) (T := TX9) (N := 6) hx hb hts i_X9 hown hK hP 32 rfl rfl 2 (by decide) (hts _ qw918) (fun _ h9 => h9) rfl dX3_moveInCode_223 ?_
            refine lv_aload_n hx hb dX3_moveInCode_226 rfl (lv_at hl 7 rfl) ?_
            refine va_get (D := (dC, dI)) (ci := 10) (v := .ref (p0a 12)) (C := RX3) (T := TX3) (N := 20) hx hb hts i_X3 hown hK hP 0 rfl rfl 11 (by decide) (hts _ qw915) (fun _ h9 => h9) rfl dX3_moveInCode_227 ?_
            refine lv_iload hx hb dX3_moveInCode_230 (lv_at hl 0 rfl) ?_
            obtain ⟨hq29, hrun⟩ := chk9 hrun
            refine va_iald hx hb hK hP 4 3 rfl rfl (ixb_in hq29) dX3_moveInCode_232 ?_
            refine lv_iconst (v := 1) hx hb dX3_moveInCode_233 (by decide) ?_
            refine lv_isub hx hb dX3_moveInCode_234 ?_
            obtain ⟨hq30, hrun⟩ := chk9 hrun
            refine va_iald hx hb hK hP 34 29 rfl rfl (ixb_in hq30) dX3_moveInCode_235 ?_
            refine lv_istore (lv' := [(8, .int (((p0_6_1w 2) 3) (nn ((((o_23.2) 12) (nn (((o_23.2) 0 9) - 1))) - 1)))), (7, .int (((o_23.2) 0 9) - 1)), (6, .int (w9 16 (nn ((((p0w 0 9) - 1) * 320) + (((p0_6_1w 0) 4) (nn (p0w 12 (nn ((p0w 0 9) - 1))))))))), (5, .int (((p0_6_1w 0) 4) (nn (p0w 12 (nn ((p0w 0 9) - 1)))))), (4, .int (((p0w 0 9) - 1) * 320)), (3, .int (p0w 12 (nn ((p0w 0 9) - 1)))), (2, .ref (p0_6_1a 0 0)), (1, .int ((p0w 0 9) - 1)), (0, .ref (p0a 0))]) hx hb dX3_moveInCode_236 hl (by decide) rfl (fun ls hl => ?_)
            refine lv_aload_n hx hb dX3_moveInCode_238 rfl (lv_at hl 8 rfl) ?_
            refine va_get (D := (dC, dI)) (ci := 10) (v := .ref (p0a 16)) (C := RX3) (T := TX3) (N := 20) hx hb hts i_X3 hown hK hP 0 rfl rfl 15 (by decide) (hts _ qw906) (fun _ h9 => h9) rfl dX3_moveInCode_239 ?_
            refine lv_iload hx hb dX3_moveInCode_242 (lv_at hl 1 rfl) ?_
            refine lv_sipush (v := 320) hx hb dX3_moveInCode_244 (by decide) ?_
            refine lv_imul hx hb dX3_moveInCode_247 ?_
            refine lv_iload hx hb dX3_moveInCode_248 (lv_at hl 0 rfl) ?_
            refine lv_iadd hx hb dX3_moveInCode_250 ?_
            refine lv_iload hx hb dX3_moveInCode_251 (lv_at hl 2 rfl) ?_
            obtain ⟨hq31, hrun⟩ := chk9 hrun
            refine va_iast hx hb hK hP hD hS 8 7 rfl rfl (ixb_in hq31) dX3_moveInCode_253 (fun H locs hP hD hS => ?_)
            have hP : va_P (dC, dI) cls (List.flatten ([(oX3 (p0a 0) p0a p0k p0n (upw (o_23.2) 16 (nn (((((o_23.2) 0 9) - 1) * 320) + (((p0_6_1w 2) 3) (nn ((((o_23.2) 12) (nn (((o_23.2) 0 9) - 1))) - 1))))) (w9 16 (nn ((((p0w 0 9) - 1) * 320) + (((p0_6_1w 0) 4) (nn (p0w 12 (nn ((p0w 0 9) - 1)))))))))), (oX0 (p0a 7) p0_6a p0_6k p0_6n p0_6w), (oX9 (p0_6_1a 0 0) (p0_6_1a 0) (p0_6_1k 0) (p0_6_1n 0) (p0_6_1w 0)), (oX9 (p0_6_1a 1 0) (p0_6_1a 1) (p0_6_1k 1) (p0_6_1n 1) (p0_6_1w 1)), (oX9 (p0_6_1a 2 0) (p0_6_1a 2) (p0_6_1k 2) (p0_6_1n 2) (p0_6_1w 2)), (oX9 (p0_6_1a 3 0) (p0_6_1a 3) (p0_6_1k 3) (p0_6_1n 3) (p0_6_1w 3)), (oX9 (p0_6_1a 4 0) (p0_6_1a 4) (p0_6_1k 4) (p0_6_1n 4) (p0_6_1w 4)), (oX9 (p0_6_1a 5 0) (p0_6_1a 5) (p0_6_1k 5) (p0_6_1n 5) (p0_6_1w 5)), (oX6 (p0a 5) p0_4a p0_4k p0_4w p0_4l), [((p0_6a 2), .inl (p0_6_1c, 6, .inr (.inr (.inr (.inr (fun i => some (p0_6_1a i 0)))))))]] : List va_W)) H := hP
            have hD : va_D A (List.flatten ([(oX3 (p0a 0) p0a p0k p0n (upw (o_23.2) 16 (nn (((((o_23.2) 0 9) - 1) * 320) + (((p0_6_1w 2) 3) (nn ((((o_23.2) 12) (nn (((o_23.2) 0 9) - 1))) - 1))))) (w9 16 (nn ((((p0w 0 9) - 1) * 320) + (((p0_6_1w 0) 4) (nn (p0w 12 (nn ((p0w 0 9) - 1)))))))))), (oX0 (p0a 7) p0_6a p0_6k p0_6n p0_6w), (oX9 (p0_6_1a 0 0) (p0_6_1a 0) (p0_6_1k 0) (p0_6_1n 0) (p0_6_1w 0)), (oX9 (p0_6_1a 1 0) (p0_6_1a 1) (p0_6_1k 1) (p0_6_1n 1) (p0_6_1w 1)), (oX9 (p0_6_1a 2 0) (p0_6_1a 2) (p0_6_1k 2) (p0_6_1n 2) (p0_6_1w 2)), (oX9 (p0_6_1a 3 0) (p0_6_1a 3) (p0_6_1k 3) (p0_6_1n 3) (p0_6_1w 3)), (oX9 (p0_6_1a 4 0) (p0_6_1a 4) (p0_6_1k 4) (p0_6_1n 4) (p0_6_1w 4)), (oX9 (p0_6_1a 5 0) (p0_6_1a 5) (p0_6_1k 5) (p0_6_1n 5) (p0_6_1w 5)), (oX6 (p0a 5) p0_4a p0_4k p0_4w p0_4l), [((p0_6a 2), .inl (p0_6_1c, 6, .inr (.inr (.inr (.inr (fun i => some (p0_6_1a i 0)))))))]] : List va_W)) := hD
            obtain ⟨w32, ew32, hrun⟩ := let9 hrun
            rw [← ew32] at hP hD
            refine lv_goto (tgt := 353) hx hb dX3_moveInCode_254 (by decide) ?_
            exact J353 w32 _ _ _ hrun hP hD hK hS (lv_sub hl [] rfl)
          · refine W.eq (g2 := F0 m 223 ls [.ref (p0_6_1a 3 0)]) rfl ?_
            refine va_get (D := (dC, dI)) (ci := 3) (v := .ref ((p0_6_1a 3) 3)) (C := RX9) (T := TX9) (N := 6) hx hb hts i_X9 hown hK hP 38 rfl rfl 2 (by decide) (hts _ qw918) (fun _ h9 => h9) rfl dX3_moveInCode_223 ?_
            refine lv_aload_n hx hb dX3_moveInCode_226 rfl (lv_at hl 7 rfl) ?_
            refine va_get (D := (dC, dI)) (ci := 10) (v := .ref (p0a 12)) (C := RX3) (T := TX3) (N := 20) hx hb hts i_X3 hown hK hP 0 rfl rfl 11 (by decide) (hts _ qw915) (fun _ h9 => h9) rfl dX3_moveInCode_227 ?_
            refine lv_iload hx hb dX3_moveInCode_230 (lv_at hl 0 rfl) ?_
            obtain ⟨hq29, hrun⟩ := chk9 hrun
            refine va_iald hx hb hK hP 4 3 rfl rfl (ixb_in hq29) dX3_moveInCode_232 ?_
            refine lv_iconst (v := 1) hx hb dX3_moveInCode_233 (by decide) ?_
            refine lv_isub hx hb dX3_moveInCode_234 ?_
            obtain ⟨hq30, hrun⟩ := chk9 hrun
            refine va_iald hx hb hK hP 40 34 rfl rfl (ixb_in hq30) dX3_moveInCode_235 ?_
            refine lv_istore (lv' := [(8, .int (((p0_6_1w 3) 3) (nn ((((o_23.2) 12) (nn (((o_23.2) 0 9) - 1))) - 1)))), (7, .int (((o_23.2) 0 9) - 1)), (6, .int (w9 16 (nn ((((p0w 0 9) - 1) * 320) + (((p0_6_1w 0) 4) (nn (p0w 12 (nn ((p0w 0 9) - 1))))))))), (5, .int (((p0_6_1w 0) 4) (nn (p0w 12 (nn ((p0w 0 9) - 1)))))), (4, .int (((p0w 0 9) - 1) * 320)), (3, .int (p0w 12 (nn ((p0w 0 9) - 1)))), (2, .ref (p0_6_1a 0 0)), (1, .int ((p0w 0 9) - 1)), (0, .ref (p0a 0))]) hx hb dX3_moveInCode_236 hl (by decide) rfl (fun ls hl => ?_)
            refine lv_aload_n hx hb dX3_moveInCode_238 rfl (lv_at hl 8 rfl) ?_
            refine va_get (D := (dC, dI)) (ci := 10) (v := .ref (p0a 16)) (C := RX3) (T := TX3) (N := 20) hx hb hts i_X3 hown hK hP 0 rfl rfl 15 (by decide) (hts _ qw906) (fun _ h9 => h9) rfl dX3_moveInCode_239 ?_
            refine lv_iload hx hb dX3_moveInCode_242 (lv_at hl 1 rfl) ?_
            refine lv_sipush (v := 320) hx hb dX3_moveInCode_244 (by decide) ?_
            refine lv_imul hx hb dX3_moveInCode_247 ?_
            refine lv_iload hx hb dX3_moveInCode_248 (lv_at hl 0 rfl) ?_
            refine lv_iadd hx hb dX3_moveInCode_250 ?_
            refine lv_iload hx hb dX3_moveInCode_251 (lv_at hl 2 rfl) ?_
            obtain ⟨hq31, hrun⟩ := chk9 hrun
            refine va_iast hx hb hK hP hD hS 8 7 rfl rfl (ixb_in hq31) dX3_moveInCode_253 (fun H locs hP hD hS => ?_)
            have hP : va_P (dC, dI) cls (List.flatten ([(oX3 (p0a 0) p0a p0k p0n (upw (o_23.2) 16 (nn (((((o_23.2) 0 9) - 1) * 320) + (((p0_6_1w 3) 3) (nn ((((o_23.2) 12) (nn (((o_23.2) 0 9) - 1))) - 1))))) (w9 16 (nn ((((p0w 0 9) - 1) * 320) + (((p0_6_1w 0) 4) (nn (p0w 12 (nn ((p0w 0 9) - 1)))))))))), (oX0 (p0a 7) p0_6a p0_6k p0_6n p0_6w), (oX9 (p0_6_1a 0 0) (p0_6_1a 0) (p0_6_1k 0) (p0_6_1n 0) (p0_6_1w 0)), (oX9 (p0_6_1a 1 0) (p0_6_1a 1) (p0_6_1k 1) (p0_6_1n 1) (p0_6_1w 1)), (oX9 (p0_6_1a 2 0) (p0_6_1a 2) (p0_6_1k 2) (p0_6_1n 2) (p0_6_1w 2)), (oX9 (p0_6_1a 3 0) (p0_6_1a 3) (p0_6_1k 3) (p0_6_1n 3) (p0_6_1w 3)), (oX9 (p0_6_1a 4 0) (p0_6_1a 4) (p0_6_1k 4) (p0_6_1n 4) (p0_6_1w 4)), (oX9 (p0_6_1a 5 0) (p0_6_1a 5) (p0_6_1k 5) (p0_6_1n 5) (p0_6_1w 5)), (oX6 (p0a 5) p0_4a p0_4k p0_4w p0_4l), [((p0_6a 2), .inl (p0_6_1c, 6, .inr (.inr (.inr (.inr (fun i => some (p0_6_1a i 0)))))))]] : List va_W)) H := hP
            have hD : va_D A (List.flatten ([(oX3 (p0a 0) p0a p0k p0n (upw (o_23.2) 16 (nn (((((o_23.2) 0 9) - 1) * 320) + (((p0_6_1w 3) 3) (nn ((((o_23.2) 12) (nn (((o_23.2) 0 9) - 1))) - 1))))) (w9 16 (nn ((((p0w 0 9) - 1) * 320) + (((p0_6_1w 0) 4) (nn (p0w 12 (nn ((p0w 0 9) - 1)))))))))), (oX0 (p0a 7) p0_6a p0_6k p0_6n p0_6w), (oX9 (p0_6_1a 0 0) (p0_6_1a 0) (p0_6_1k 0) (p0_6_1n 0) (p0_6_1w 0)), (oX9 (p0_6_1a 1 0) (p0_6_1a 1) (p0_6_1k 1) (p0_6_1n 1) (p0_6_1w 1)), (oX9 (p0_6_1a 2 0) (p0_6_1a 2) (p0_6_1k 2) (p0_6_1n 2) (p0_6_1w 2)), (oX9 (p0_6_1a 3 0) (p0_6_1a 3) (p0_6_1k 3) (p0_6_1n 3) (p0_6_1w 3)), (oX9 (p0_6_1a 4 0) (p0_6_1a 4) (p0_6_1k 4) (p0_6_1n 4) (p0_6_1w 4)), (oX9 (p0_6_1a 5 0) (p0_6_1a 5) (p0_6_1k 5) (p0_6_1n 5) (p0_6_1w 5)), (oX6 (p0a 5) p0_4a p0_4k p0_4w p0_4l), [((p0_6a 2), .inl (p0_6_1c, 6, .inr (.inr (.inr (.inr (fun i => some (p0_6_1a i 0)))))))]] : List va_W)) := hD
            obtain ⟨w32, ew32, hrun⟩ := let9 hrun
            rw [← ew32] at hP hD
            refine lv_goto (tgt := 353) hx hb dX3_moveInCode_254 (by decide) ?_
            exact J353 w32 _ _ _ hrun hP hD hK hS (lv_sub hl [] rfl)
          · refine W.eq (g2 := F0 m 223 ls [.ref (p0_6_1a 4 0)]) rfl ?_
            refine va_get (D := (dC, dI)) (ci := 3) (v := .ref ((p0_6_1a 4) 3)) (C := RX9) (T := TX9) (N := 6) hx hb hts i_X9 hown hK hP 44 rfl rfl 2 (by decide) (hts _ qw918) (fun _ h9 => h9) rfl dX3_moveInCode_223 ?_
            refine lv_aload_n hx hb dX3_moveInCode_226 rfl (lv_at hl 7 rfl) ?_
            refine va_get (D := (dC, dI)) (ci := 10) (v := .ref (p0a 12)) (C := RX3) (T := TX3) (N := 20) hx hb hts i_X3 hown hK hP 0 rfl rfl 11 (by decide) (hts _ qw915) (fun _ h9 => h9) rfl dX3_moveInCode_227 ?_
            refine lv_iload hx hb dX3_moveInCode_230 (lv_at hl 0 rfl) ?_
            obtain ⟨hq29, hrun⟩ := chk9 hrun
            refine va_iald hx hb hK hP 4 3 rfl rfl (ixb_in hq29) dX3_moveInCode_232 ?_
            refine lv_iconst (v := 1) hx hb dX3_moveInCode_233 (by decide) ?_
            refine lv_isub hx hb dX3_moveInCode_234 ?_
            obtain ⟨hq30, hrun⟩ := chk9 hrun
            refine va_iald hx hb hK hP 46 39 rfl rfl (ixb_in hq30) dX3_moveInCode_235 ?_
            refine lv_istore (lv' := [(8, .int (((p0_6_1w 4) 3) (nn ((((o_23.2) 12) (nn (((o_23.2) 0 9) - 1))) - 1)))), (7, .int (((o_23.2) 0 9) - 1)), (6, .int (w9 16 (nn ((((p0w 0 9) - 1) * 320) + (((p0_6_1w 0) 4) (nn (p0w 12 (nn ((p0w 0 9) - 1))))))))), (5, .int (((p0_6_1w 0) 4) (nn (p0w 12 (nn ((p0w 0 9) - 1)))))), (4, .int (((p0w 0 9) - 1) * 320)), (3, .int (p0w 12 (nn ((p0w 0 9) - 1)))), (2, .ref (p0_6_1a 0 0)), (1, .int ((p0w 0 9) - 1)), (0, .ref (p0a 0))]) hx hb dX3_moveInCode_236 hl (by decide) rfl (fun ls hl => ?_)
            refine lv_aload_n hx hb dX3_moveInCode_238 rfl (lv_at hl 8 rfl) ?_
            refine va_get (D := (dC, dI)) (ci := 10) (v := .ref (p0a 16)) (C := RX3) (T := TX3) (N := 20) hx hb hts i_X3 hown hK hP 0 rfl rfl 15 (by decide) (hts _ qw906) (fun _ h9 => h9) rfl dX3_moveInCode_239 ?_
            refine lv_iload hx hb dX3_moveInCode_242 (lv_at hl 1 rfl) ?_
            refine lv_sipush (v := 320) hx hb dX3_moveInCode_244 (by decide) ?_
            refine lv_imul hx hb dX3_moveInCode_247 ?_
            refine lv_iload hx hb dX3_moveInCode_248 (lv_at hl 0 rfl) ?_
            refine lv_iadd hx hb dX3_moveInCode_250 ?_
            refine lv_iload hx hb dX3_moveInCode_251 (lv_at hl 2 rfl) ?_
            obtain ⟨hq31, hrun⟩ := chk9 hrun
            refine va_iast hx hb hK hP hD hS 8 7 rfl rfl (ixb_in hq31) dX3_moveInCode_253 (fun H locs hP hD hS => ?_)
            have hP : va_P (dC, dI) cls (List.flatten ([(oX3 (p0a 0) p0a p0k p0n (upw (o_23.2) 16 (nn (((((o_23.2) 0 9) - 1) * 320) + (((p0_6_1w 4) 3) (nn ((((o_23.2) 12) (nn (((o_23.2) 0 9) - 1))) - 1))))) (w9 16 (nn ((((p0w 0 9) - 1) * 320) + (((p0_6_1w 0) 4) (nn (p0w 12 (nn ((p0w 0 9) - 1)))))))))), (oX0 (p0a 7) p0_6a p0_6k p0_6n p0_6w), (oX9 (p0_6_1a 0 0) (p0_6_1a 0) (p0_6_1k 0) (p0_6_1n 0) (p0_6_1w 0)), (oX9 (p0_6_1a 1 0) (p0_6_1a 1) (p0_6_1k 1) (p0_6_1n 1) (p0_6_1w 1)), (oX9 (p0_6_1a 2 0) (p0_6_1a 2) (p0_6_1k 2) (p0_6_1n 2) (p0_6_1w 2)), (oX9 (p0_6_1a 3 0) (p0_6_1a 3) (p0_6_1k 3) (p0_6_1n 3) (p0_6_1w 3)), (oX9 (p0_6_1a 4 0) (p0_6_1a 4) (p0_6_1k 4) (p0_6_1n 4) (p0_6_1w 4)), (oX9 (p0_6_1a 5 0) (p0_6_1a 5) (p0_6_1k 5) (p0_6_1n 5) (p0_6_1w 5)), (oX6 (p0a 5) p0_4a p0_4k p0_4w p0_4l), [((p0_6a 2), .inl (p0_6_1c, 6, .inr (.inr (.inr (.inr (fun i => some (p0_6_1a i 0)))))))]] : List va_W)) H := hP
            have hD : va_D A (List.flatten ([(oX3 (p0a 0) p0a p0k p0n (upw (o_23.2) 16 (nn (((((o_23.2) 0 9) - 1) * 320) + (((p0_6_1w 4) 3) (nn ((((o_23.2) 12) (nn (((o_23.2) 0 9) - 1))) - 1))))) (w9 16 (nn ((((p0w 0 9) - 1) * 320) + (((p0_6_1w 0) 4) (nn (p0w 12 (nn ((p0w 0 9) - 1)))))))))), (oX0 (p0a 7) p0_6a p0_6k p0_6n p0_6w), (oX9 (p0_6_1a 0 0) (p0_6_1a 0) (p0_6_1k 0) (p0_6_1n 0) (p0_6_1w 0)), (oX9 (p0_6_1a 1 0) (p0_6_1a 1) (p0_6_1k 1) (p0_6_1n 1) (p0_6_1w 1)), (oX9 (p0_6_1a 2 0) (p0_6_1a 2) (p0_6_1k 2) (p0_6_1n 2) (p0_6_1w 2)), (oX9 (p0_6_1a 3 0) (p0_6_1a 3) (p0_6_1k 3) (p0_6_1n 3) (p0_6_1w 3)), (oX9 (p0_6_1a 4 0) (p0_6_1a 4) (p0_6_1k 4) (p0_6_1n 4) (p0_6_1w 4)), (oX9 (p0_6_1a 5 0) (p0_6_1a 5) (p0_6_1k 5) (p0_6_1n 5) (p0_6_1w 5)), (oX6 (p0a 5) p0_4a p0_4k p0_4w p0_4l), [((p0_6a 2), .inl (p0_6_1c, 6, .inr (.inr (.inr (.inr (fun i => some (p0_6_1a i 0)))))))]] : List va_W)) := hD
            obtain ⟨w32, ew32, hrun⟩ := let9 hrun
            rw [← ew32] at hP hD
            refine lv_goto (tgt := 353) hx hb dX3_moveInCode_254 (by decide) ?_
            exact J353 w32 _ _ _ hrun hP hD hK hS (lv_sub hl [] rfl)
          · refine W.eq (g2 := F0 m 223 ls [.ref (p0_6_1a 5 0)]) rfl ?_
            refine va_get (D := (dC, dI)) (ci := 3) (v := .ref ((p0_6_1a 5) 3)) (C := RX9) (T := TX9) (N := 6) hx hb hts i_X9 hown hK hP 50 rfl rfl 2 (by decide) (hts _ qw918) (fun _ h9 => h9) rfl dX3_moveInCode_223 ?_
            refine lv_aload_n hx hb dX3_moveInCode_226 rfl (lv_at hl 7 rfl) ?_
            refine va_get (D := (dC, dI)) (ci := 10) (v := .ref (p0a 12)) (C := RX3) (T := TX3) (N := 20) hx hb hts i_X3 hown hK hP 0 rfl rfl 11 (by decide) (hts _ qw915) (fun _ h9 => h9) rfl dX3_moveInCode_227 ?_
            refine lv_iload hx hb dX3_moveInCode_230 (lv_at hl 0 rfl) ?_
            obtain ⟨hq29, hrun⟩ := chk9 hrun
            refine va_iald hx hb hK hP 4 3 rfl rfl (ixb_in hq29) dX3_moveInCode_232 ?_
            refine lv_iconst (v := 1) hx hb dX3_moveInCode_233 (by decide) ?_
            refine lv_isub hx hb dX3_moveInCode_234 ?_
            obtain ⟨hq30, hrun⟩ := chk9 hrun
            refine va_iald hx hb hK hP 52 44 rfl rfl (ixb_in hq30) dX3_moveInCode_235 ?_
            refine lv_istore (lv' := [(8, .int (((p0_6_1w 5) 3) (nn ((((o_23.2) 12) (nn (((o_23.2) 0 9) - 1))) - 1)))), (7, .int (((o_23.2) 0 9) - 1)), (6, .int (w9 16 (nn ((((p0w 0 9) - 1) * 320) + (((p0_6_1w 0) 4) (nn (p0w 12 (nn ((p0w 0 9) - 1))))))))), (5, .int (((p0_6_1w 0) 4) (nn (p0w 12 (nn ((p0w 0 9) - 1)))))), (4, .int (((p0w 0 9) - 1) * 320)), (3, .int (p0w 12 (nn ((p0w 0 9) - 1)))), (2, .ref (p0_6_1a 0 0)), (1, .int ((p0w 0 9) - 1)), (0, .ref (p0a 0))]) hx hb dX3_moveInCode_236 hl (by decide) rfl (fun ls hl => ?_)
            refine lv_aload_n hx hb dX3_moveInCode_238 rfl (lv_at hl 8 rfl) ?_
            refine va_get (D := (dC, dI)) (ci := 10) (v := .ref (p0a 16)) (C := RX3) (T := TX3) (N := 20) hx hb hts i_X3 hown hK hP 0 rfl rfl 15 (by decide) (hts _ qw906) (fun _ h9 => h9) rfl dX3_moveInCode_239 ?_
            refine lv_iload hx hb dX3_moveInCode_242 (lv_at hl 1 rfl) ?_
            refine lv_sipush (v := 320) hx hb dX3_moveInCode_244 (by decide) ?_
            refine lv_imul hx hb dX3_moveInCode_247 ?_
            refine lv_iload hx hb dX3_moveInCode_248 (lv_at hl 0 rfl) ?_
            refine lv_iadd hx hb dX3_moveInCode_250 ?_
            refine lv_iload hx hb dX3_moveInCode_251 (lv_at hl 2 rfl) ?_
            obtain ⟨hq31, hrun⟩ := chk9 hrun
            refine va_iast hx hb hK hP hD hS 8 7 rfl rfl (ixb_in hq31) dX3_moveInCode_253 (fun H locs hP hD hS => ?_)
            have hP : va_P (dC, dI) cls (List.flatten ([(oX3 (p0a 0) p0a p0k p0n (upw (o_23.2) 16 (nn (((((o_23.2) 0 9) - 1) * 320) + (((p0_6_1w 5) 3) (nn ((((o_23.2) 12) (nn (((o_23.2) 0 9) - 1))) - 1))))) (w9 16 (nn ((((p0w 0 9) - 1) * 320) + (((p0_6_1w 0) 4) (nn (p0w 12 (nn ((p0w 0 9) - 1)))))))))), (oX0 (p0a 7) p0_6a p0_6k p0_6n p0_6w), (oX9 (p0_6_1a 0 0) (p0_6_1a 0) (p0_6_1k 0) (p0_6_1n 0) (p0_6_1w 0)), (oX9 (p0_6_1a 1 0) (p0_6_1a 1) (p0_6_1k 1) (p0_6_1n 1) (p0_6_1w 1)), (oX9 (p0_6_1a 2 0) (p0_6_1a 2) (p0_6_1k 2) (p0_6_1n 2) (p0_6_1w 2)), (oX9 (p0_6_1a 3 0) (p0_6_1a 3) (p0_6_1k 3) (p0_6_1n 3) (p0_6_1w 3)), (oX9 (p0_6_1a 4 0) (p0_6_1a 4) (p0_6_1k 4) (p0_6_1n 4) (p0_6_1w 4)), (oX9 (p0_6_1a 5 0) (p0_6_1a 5) (p0_6_1k 5) (p0_6_1n 5) (p0_6_1w 5)), (oX6 (p0a 5) p0_4a p0_4k p0_4w p0_4l), [((p0_6a 2), .inl (p0_6_1c, 6, .inr (.inr (.inr (.inr (fun i => some (p0_6_1a i 0)))))))]] : List va_W)) H := hP
            have hD : va_D A (List.flatten ([(oX3 (p0a 0) p0a p0k p0n (upw (o_23.2) 16 (nn (((((o_23.2) 0 9) - 1) * 320) + (((p0_6_1w 5) 3) (nn ((((o_23.2) 12) (nn (((o_23.2) 0 9) - 1))) - 1))))) (w9 16 (nn ((((p0w 0 9) - 1) * 320) + (((p0_6_1w 0) 4) (nn (p0w 12 (nn ((p0w 0 9) - 1)))))))))), (oX0 (p0a 7) p0_6a p0_6k p0_6n p0_6w), (oX9 (p0_6_1a 0 0) (p0_6_1a 0) (p0_6_1k 0) (p0_6_1n 0) (p0_6_1w 0)), (oX9 (p0_6_1a 1 0) (p0_6_1a 1) (p0_6_1k 1) (p0_6_1n 1) (p0_6_1w 1)), (oX9 (p0_6_1a 2 0) (p0_6_1a 2) (p0_6_1k 2) (p0_6_1n 2) (p0_6_1w 2)), (oX9 (p0_6_1a 3 0) (p0_6_1a 3) (p0_6_1k 3) (p0_6_1n 3) (p0_6_1w 3)), (oX9 (p0_6_1a 4 0) (p0_6_1a 4) (p0_6_1k 4) (p0_6_1n 4) (p0_6_1w 4)), (oX9 (p0_6_1a 5 0) (p0_6_1a 5) (p0_6_1k 5) (p0_6_1n 5) (p0_6_1w 5)), (oX6 (p0a 5) p0_4a p0_4k p0_4w p0_4l), [((p0_6a 2), .inl (p0_6_1c, 6, .inr (.inr (.inr (.inr (fun i => some (p0_6_1a i 0)))))))]] : List va_W)) := hD
            obtain ⟨w32, ew32, hrun⟩ := let9 hrun
            rw [← ew32] at hP hD
            refine lv_goto (tgt := 353) hx hb dX3_moveInCode_254 (by decide) ?_
            exact J353 w32 _ _ _ hrun hP hD hK hS (lv_sub hl [] rfl)
      rcases br9 hrun with ⟨hc33, hrun⟩ | ⟨hc33, hrun⟩
      · refine lv_tableIn (off := 189) (tgt := 257) hx hb dX3_moveInCode_68 (by rw [hc33]; decide) (by rw [hc33]; decide) (by rw [hc33]; rfl) (by decide) ?_
        refine lv_aload_n hx hb dX3_moveInCode_257 rfl (lv_at hl 5 rfl) ?_
        refine va_get (D := (dC, dI)) (ci := 10) (v := .ref (p0a 16)) (C := RX3) (T := TX3) (N := 20) hx hb hts i_X3 hown hK hP 0 rfl rfl 15 (by decide) (hts _ qw906) (fun _ h9 => h9) rfl dX3_moveInCode_258 ?_
        refine lv_iload hx hb dX3_moveInCode_261 (lv_at hl 1 rfl) ?_
        refine lv_aload_n hx hb dX3_moveInCode_263 rfl (lv_at hl 3 rfl) ?_
        refine va_get (D := (dC, dI)) (ci := 3) (v := .ref ((p0_6_1a 0) 3)) (C := RX9) (T := TX9) (N := 6) hx hb hts i_X9 hown hK hP 20 rfl rfl 2 (by decide) (hts _ qw918) (fun _ h9 => h9) rfl dX3_moveInCode_264 ?_
        refine lv_iload_n hx hb dX3_moveInCode_267 rfl (lv_at hl 2 rfl) ?_
        obtain ⟨hq34, hrun⟩ := chk9 hrun
        refine va_iald hx hb hK hP 22 19 rfl rfl (ixb_in hq34) dX3_moveInCode_268 ?_
        refine lv_iadd hx hb dX3_moveInCode_269 ?_
        refine lv_aload_n hx hb dX3_moveInCode_270 rfl (lv_at hl 5 rfl) ?_
        refine va_get (D := (dC, dI)) (ci := 10) (v := .ref (p0a 16)) (C := RX3) (T := TX3) (N := 20) hx hb hts i_X3 hown hK hP 0 rfl rfl 15 (by decide) (hts _ qw906) (fun _ h9 => h9) rfl dX3_moveInCode_271 ?_
        refine lv_iload hx hb dX3_moveInCode_274 (lv_at hl 1 rfl) ?_
        refine lv_iload hx hb dX3_moveInCode_276 (lv_at hl 0 rfl) ?_
        refine lv_iadd hx hb dX3_moveInCode_278 ?_
        obtain ⟨hq35, hrun⟩ := chk9 hrun
        refine va_iald hx hb hK hP 8 7 rfl rfl (ixb_in hq35) dX3_moveInCode_279 ?_
        obtain ⟨hq36, hrun⟩ := chk9 hrun
        refine va_iast hx hb hK hP hD hS 8 7 rfl rfl (ixb_in hq36) dX3_moveInCode_280 (fun H locs hP hD hS => ?_)
        have hP : va_P (dC, dI) cls (List.flatten ([(oX3 (p0a 0) p0a p0k p0n (upw w9 16 (nn ((((p0w 0 9) - 1) * 320) + (((p0_6_1w 0) 3) (nn (p0w 12 (nn ((p0w 0 9) - 1))))))) (w9 16 (nn ((((p0w 0 9) - 1) * 320) + (((p0_6_1w 0) 4) (nn (p0w 12 (nn ((p0w 0 9) - 1)))))))))), (oX0 (p0a 7) p0_6a p0_6k p0_6n p0_6w), (oX9 (p0_6_1a 0 0) (p0_6_1a 0) (p0_6_1k 0) (p0_6_1n 0) (p0_6_1w 0)), (oX9 (p0_6_1a 1 0) (p0_6_1a 1) (p0_6_1k 1) (p0_6_1n 1) (p0_6_1w 1)), (oX9 (p0_6_1a 2 0) (p0_6_1a 2) (p0_6_1k 2) (p0_6_1n 2) (p0_6_1w 2)), (oX9 (p0_6_1a 3 0) (p0_6_1a 3) (p0_6_1k 3) (p0_6_1n 3) (p0_6_1w 3)), (oX9 (p0_6_1a 4 0) (p0_6_1a 4) (p0_6_1k 4) (p0_6_1n 4) (p0_6_1w 4)), (oX9 (p0_6_1a 5 0) (p0_6_1a 5) (p0_6_1k 5) (p0_6_1n 5) (p0_6_1w 5)), (oX6 (p0a 5) p0_4a p0_4k p0_4w p0_4l), [((p0_6a 2), .inl (p0_6_1c, 6, .inr (.inr (.inr (.inr (fun i => some (p0_6_1a i 0)))))))]] : List va_W)) H := hP
        have hD : va_D A (List.flatten ([(oX3 (p0a 0) p0a p0k p0n (upw w9 16 (nn ((((p0w 0 9) - 1) * 320) + (((p0_6_1w 0) 3) (nn (p0w 12 (nn ((p0w 0 9) - 1))))))) (w9 16 (nn ((((p0w 0 9) - 1) * 320) + (((p0_6_1w 0) 4) (nn (p0w 12 (nn ((p0w 0 9) - 1)))))))))), (oX0 (p0a 7) p0_6a p0_6k p0_6n p0_6w), (oX9 (p0_6_1a 0 0) (p0_6_1a 0) (p0_6_1k 0) (p0_6_1n 0) (p0_6_1w 0)), (oX9 (p0_6_1a 1 0) (p0_6_1a 1) (p0_6_1k 1) (p0_6_1n 1) (p0_6_1w 1)), (oX9 (p0_6_1a 2 0) (p0_6_1a 2) (p0_6_1k 2) (p0_6_1n 2) (p0_6_1w 2)), (oX9 (p0_6_1a 3 0) (p0_6_1a 3) (p0_6_1k 3) (p0_6_1n 3) (p0_6_1w 3)), (oX9 (p0_6_1a 4 0) (p0_6_1a 4) (p0_6_1k 4) (p0_6_1n 4) (p0_6_1w 4)), (oX9 (p0_6_1a 5 0) (p0_6_1a 5) (p0_6_1k 5) (p0_6_1n 5) (p0_6_1w 5)), (oX6 (p0a 5) p0_4a p0_4k p0_4w p0_4l), [((p0_6a 2), .inl (p0_6_1c, 6, .inr (.inr (.inr (.inr (fun i => some (p0_6_1a i 0)))))))]] : List va_W)) := hD
        obtain ⟨w37, ew37, hrun⟩ := let9 hrun
        rw [← ew37] at hP hD
        refine lv_goto (tgt := 353) hx hb dX3_moveInCode_281 (by decide) ?_
        exact J353 w37 _ _ _ hrun hP hD hK hS (lv_sub hl [] rfl)
      rcases br9 hrun with ⟨hc38, hrun⟩ | ⟨hc38, hrun⟩
      · refine lv_tableIn (off := 216) (tgt := 284) hx hb dX3_moveInCode_68 (by rw [hc38]; decide) (by rw [hc38]; decide) (by rw [hc38]; rfl) (by decide) ?_
        refine lv_aload_n hx hb dX3_moveInCode_284 rfl (lv_at hl 5 rfl) ?_
        refine va_get (D := (dC, dI)) (ci := 10) (v := .ref (p0a 16)) (C := RX3) (T := TX3) (N := 20) hx hb hts i_X3 hown hK hP 0 rfl rfl 15 (by decide) (hts _ qw906) (fun _ h9 => h9) rfl dX3_moveInCode_285 ?_
        refine lv_iload hx hb dX3_moveInCode_288 (lv_at hl 1 rfl) ?_
        refine lv_aload_n hx hb dX3_moveInCode_290 rfl (lv_at hl 3 rfl) ?_
        refine va_get (D := (dC, dI)) (ci := 3) (v := .ref ((p0_6_1a 0) 3)) (C := RX9) (T := TX9) (N := 6) hx hb hts i_X9 hown hK hP 20 rfl rfl 2 (by decide) (hts _ qw918) (fun _ h9 => h9) rfl dX3_moveInCode_291 ?_
        refine lv_iload_n hx hb dX3_moveInCode_294 rfl (lv_at hl 2 rfl) ?_
        obtain ⟨hq39, hrun⟩ := chk9 hrun
        refine va_iald hx hb hK hP 22 19 rfl rfl (ixb_in hq39) dX3_moveInCode_295 ?_
        refine lv_iadd hx hb dX3_moveInCode_296 ?_
        refine lv_aload_n hx hb dX3_moveInCode_297 rfl (lv_at hl 5 rfl) ?_
        refine va_get (D := (dC, dI)) (ci := 10) (v := .ref (p0a 17)) (C := RX3) (T := TX3) (N := 20) hx hb hts i_X3 hown hK hP 0 rfl rfl 16 (by decide) (hts _ qw935) (fun _ h9 => h9) rfl dX3_moveInCode_298 ?_
        refine lv_iload_n hx hb dX3_moveInCode_301 rfl (lv_at hl 4 rfl) ?_
        refine lv_aload_n hx hb dX3_moveInCode_302 rfl (lv_at hl 5 rfl) ?_
        refine va_get (D := (dC, dI)) (ci := 10) (v := .int (w9 0 17)) (C := RX3) (T := TX3) (N := 20) hx hb hts i_X3 hown hK hP 0 rfl rfl 17 (by decide) (hts _ qw936) (fun _ h9 => h9) rfl dX3_moveInCode_303 ?_
        refine lv_imul hx hb dX3_moveInCode_306 ?_
        refine lv_iload hx hb dX3_moveInCode_307 (lv_at hl 0 rfl) ?_
        refine lv_iadd hx hb dX3_moveInCode_309 ?_
        obtain ⟨hq40, hrun⟩ := chk9 hrun
        refine va_iald hx hb hK hP 9 8 rfl rfl (ixb_in hq40) dX3_moveInCode_310 ?_
        obtain ⟨hq41, hrun⟩ := chk9 hrun
        refine va_iast hx hb hK hP hD hS 8 7 rfl rfl (ixb_in hq41) dX3_moveInCode_311 (fun H locs hP hD hS => ?_)
        have hP : va_P (dC, dI) cls (List.flatten ([(oX3 (p0a 0) p0a p0k p0n (upw w9 16 (nn ((((p0w 0 9) - 1) * 320) + (((p0_6_1w 0) 3) (nn (p0w 12 (nn ((p0w 0 9) - 1))))))) (w9 17 (nn ((((p0w 0 9) - 1) * (w9 0 17)) + (((p0_6_1w 0) 4) (nn (p0w 12 (nn ((p0w 0 9) - 1)))))))))), (oX0 (p0a 7) p0_6a p0_6k p0_6n p0_6w), (oX9 (p0_6_1a 0 0) (p0_6_1a 0) (p0_6_1k 0) (p0_6_1n 0) (p0_6_1w 0)), (oX9 (p0_6_1a 1 0) (p0_6_1a 1) (p0_6_1k 1) (p0_6_1n 1) (p0_6_1w 1)), (oX9 (p0_6_1a 2 0) (p0_6_1a 2) (p0_6_1k 2) (p0_6_1n 2) (p0_6_1w 2)), (oX9 (p0_6_1a 3 0) (p0_6_1a 3) (p0_6_1k 3) (p0_6_1n 3) (p0_6_1w 3)), (oX9 (p0_6_1a 4 0) (p0_6_1a 4) (p0_6_1k 4) (p0_6_1n 4) (p0_6_1w 4)), (oX9 (p0_6_1a 5 0) (p0_6_1a 5) (p0_6_1k 5) (p0_6_1n 5) (p0_6_1w 5)), (oX6 (p0a 5) p0_4a p0_4k p0_4w p0_4l), [((p0_6a 2), .inl (p0_6_1c, 6, .inr (.inr (.inr (.inr (fun i => some (p0_6_1a i 0)))))))]] : List va_W)) H := hP
        have hD : va_D A (List.flatten ([(oX3 (p0a 0) p0a p0k p0n (upw w9 16 (nn ((((p0w 0 9) - 1) * 320) + (((p0_6_1w 0) 3) (nn (p0w 12 (nn ((p0w 0 9) - 1))))))) (w9 17 (nn ((((p0w 0 9) - 1) * (w9 0 17)) + (((p0_6_1w 0) 4) (nn (p0w 12 (nn ((p0w 0 9) - 1)))))))))), (oX0 (p0a 7) p0_6a p0_6k p0_6n p0_6w), (oX9 (p0_6_1a 0 0) (p0_6_1a 0) (p0_6_1k 0) (p0_6_1n 0) (p0_6_1w 0)), (oX9 (p0_6_1a 1 0) (p0_6_1a 1) (p0_6_1k 1) (p0_6_1n 1) (p0_6_1w 1)), (oX9 (p0_6_1a 2 0) (p0_6_1a 2) (p0_6_1k 2) (p0_6_1n 2) (p0_6_1w 2)), (oX9 (p0_6_1a 3 0) (p0_6_1a 3) (p0_6_1k 3) (p0_6_1n 3) (p0_6_1w 3)), (oX9 (p0_6_1a 4 0) (p0_6_1a 4) (p0_6_1k 4) (p0_6_1n 4) (p0_6_1w 4)), (oX9 (p0_6_1a 5 0) (p0_6_1a 5) (p0_6_1k 5) (p0_6_1n 5) (p0_6_1w 5)), (oX6 (p0a 5) p0_4a p0_4k p0_4w p0_4l), [((p0_6a 2), .inl (p0_6_1c, 6, .inr (.inr (.inr (.inr (fun i => some (p0_6_1a i 0)))))))]] : List va_W)) := hD
        obtain ⟨w42, ew42, hrun⟩ := let9 hrun
        rw [← ew42] at hP hD
        refine lv_goto (tgt := 353) hx hb dX3_moveInCode_312 (by decide) ?_
        exact J353 w42 _ _ _ hrun hP hD hK hS (lv_sub hl [] rfl)
      rcases br9 hrun with ⟨hc43, hrun⟩ | ⟨hc43, hrun⟩
      · refine lv_tableIn (off := 247) (tgt := 315) hx hb dX3_moveInCode_68 (by rw [hc43]; decide) (by rw [hc43]; decide) (by rw [hc43]; rfl) (by decide) ?_
        refine lv_aload_n hx hb dX3_moveInCode_315 rfl (lv_at hl 5 rfl) ?_
        refine va_get (D := (dC, dI)) (ci := 10) (v := .ref (p0a 17)) (C := RX3) (T := TX3) (N := 20) hx hb hts i_X3 hown hK hP 0 rfl rfl 16 (by decide) (hts _ qw935) (fun _ h9 => h9) rfl dX3_moveInCode_316 ?_
        refine lv_iload_n hx hb dX3_moveInCode_319 rfl (lv_at hl 4 rfl) ?_
        refine lv_aload_n hx hb dX3_moveInCode_320 rfl (lv_at hl 5 rfl) ?_
        refine va_get (D := (dC, dI)) (ci := 10) (v := .int (w9 0 17)) (C := RX3) (T := TX3) (N := 20) hx hb hts i_X3 hown hK hP 0 rfl rfl 17 (by decide) (hts _ qw936) (fun _ h9 => h9) rfl dX3_moveInCode_321 ?_
        refine lv_imul hx hb dX3_moveInCode_324 ?_
        refine lv_aload_n hx hb dX3_moveInCode_325 rfl (lv_at hl 3 rfl) ?_
        refine va_get (D := (dC, dI)) (ci := 3) (v := .ref ((p0_6_1a 0) 5)) (C := RX9) (T := TX9) (N := 6) hx hb hts i_X9 hown hK hP 20 rfl rfl 4 (by decide) (hts _ qw967) (fun _ h9 => h9) rfl dX3_moveInCode_326 ?_
        refine lv_iload_n hx hb dX3_moveInCode_329 rfl (lv_at hl 2 rfl) ?_
        obtain ⟨hq44, hrun⟩ := chk9 hrun
        refine va_iald hx hb hK hP 24 21 rfl rfl (ixb_in hq44) dX3_moveInCode_330 ?_
        refine lv_iadd hx hb dX3_moveInCode_331 ?_
        refine lv_aload_n hx hb dX3_moveInCode_332 rfl (lv_at hl 5 rfl) ?_
        refine va_get (D := (dC, dI)) (ci := 10) (v := .ref (p0a 16)) (C := RX3) (T := TX3) (N := 20) hx hb hts i_X3 hown hK hP 0 rfl rfl 15 (by decide) (hts _ qw906) (fun _ h9 => h9) rfl dX3_moveInCode_333 ?_
        refine lv_iload hx hb dX3_moveInCode_336 (lv_at hl 1 rfl) ?_
        refine lv_iload hx hb dX3_moveInCode_338 (lv_at hl 0 rfl) ?_
        refine lv_iadd hx hb dX3_moveInCode_340 ?_
        obtain ⟨hq45, hrun⟩ := chk9 hrun
        refine va_iald hx hb hK hP 8 7 rfl rfl (ixb_in hq45) dX3_moveInCode_341 ?_
        obtain ⟨hq46, hrun⟩ := chk9 hrun
        refine va_iast hx hb hK hP hD hS 9 8 rfl rfl (ixb_in hq46) dX3_moveInCode_342 (fun H locs hP hD hS => ?_)
        have hP : va_P (dC, dI) cls (List.flatten ([(oX3 (p0a 0) p0a p0k p0n (upw w9 17 (nn ((((p0w 0 9) - 1) * (w9 0 17)) + (((p0_6_1w 0) 5) (nn (p0w 12 (nn ((p0w 0 9) - 1))))))) (w9 16 (nn ((((p0w 0 9) - 1) * 320) + (((p0_6_1w 0) 4) (nn (p0w 12 (nn ((p0w 0 9) - 1)))))))))), (oX0 (p0a 7) p0_6a p0_6k p0_6n p0_6w), (oX9 (p0_6_1a 0 0) (p0_6_1a 0) (p0_6_1k 0) (p0_6_1n 0) (p0_6_1w 0)), (oX9 (p0_6_1a 1 0) (p0_6_1a 1) (p0_6_1k 1) (p0_6_1n 1) (p0_6_1w 1)), (oX9 (p0_6_1a 2 0) (p0_6_1a 2) (p0_6_1k 2) (p0_6_1n 2) (p0_6_1w 2)), (oX9 (p0_6_1a 3 0) (p0_6_1a 3) (p0_6_1k 3) (p0_6_1n 3) (p0_6_1w 3)), (oX9 (p0_6_1a 4 0) (p0_6_1a 4) (p0_6_1k 4) (p0_6_1n 4) (p0_6_1w 4)), (oX9 (p0_6_1a 5 0) (p0_6_1a 5) (p0_6_1k 5) (p0_6_1n 5) (p0_6_1w 5)), (oX6 (p0a 5) p0_4a p0_4k p0_4w p0_4l), [((p0_6a 2), .inl (p0_6_1c, 6, .inr (.inr (.inr (.inr (fun i => some (p0_6_1a i 0)))))))]] : List va_W)) H := hP
        have hD : va_D A (List.flatten ([(oX3 (p0a 0) p0a p0k p0n (upw w9 17 (nn ((((p0w 0 9) - 1) * (w9 0 17)) + (((p0_6_1w 0) 5) (nn (p0w 12 (nn ((p0w 0 9) - 1))))))) (w9 16 (nn ((((p0w 0 9) - 1) * 320) + (((p0_6_1w 0) 4) (nn (p0w 12 (nn ((p0w 0 9) - 1)))))))))), (oX0 (p0a 7) p0_6a p0_6k p0_6n p0_6w), (oX9 (p0_6_1a 0 0) (p0_6_1a 0) (p0_6_1k 0) (p0_6_1n 0) (p0_6_1w 0)), (oX9 (p0_6_1a 1 0) (p0_6_1a 1) (p0_6_1k 1) (p0_6_1n 1) (p0_6_1w 1)), (oX9 (p0_6_1a 2 0) (p0_6_1a 2) (p0_6_1k 2) (p0_6_1n 2) (p0_6_1w 2)), (oX9 (p0_6_1a 3 0) (p0_6_1a 3) (p0_6_1k 3) (p0_6_1n 3) (p0_6_1w 3)), (oX9 (p0_6_1a 4 0) (p0_6_1a 4) (p0_6_1k 4) (p0_6_1n 4) (p0_6_1w 4)), (oX9 (p0_6_1a 5 0) (p0_6_1a 5) (p0_6_1k 5) (p0_6_1n 5) (p0_6_1w 5)), (oX6 (p0a 5) p0_4a p0_4k p0_4w p0_4l), [((p0_6a 2), .inl (p0_6_1c, 6, .inr (.inr (.inr (.inr (fun i => some (p0_6_1a i 0)))))))]] : List va_W)) := hD
        obtain ⟨w47, ew47, hrun⟩ := let9 hrun
        rw [← ew47] at hP hD
        refine lv_goto (tgt := 353) hx hb dX3_moveInCode_343 (by decide) ?_
        exact J353 w47 _ _ _ hrun hP hD hK hS (lv_sub hl [] rfl)
      rcases br9 hrun with ⟨hc48, hrun⟩ | ⟨hc48, hrun⟩
      · refine lv_tableIn (off := 83) (tgt := 151) hx hb dX3_moveInCode_68 (by rw [hc48]; decide) (by rw [hc48]; decide) (by rw [hc48]; rfl) (by decide) ?_
        refine lv_aload_n hx hb dX3_moveInCode_151 rfl (lv_at hl 5 rfl) ?_
        refine va_get (D := (dC, dI)) (ci := 10) (v := .ref (p0a 16)) (C := RX3) (T := TX3) (N := 20) hx hb hts i_X3 hown hK hP 0 rfl rfl 15 (by decide) (hts _ qw906) (fun _ h9 => h9) rfl dX3_moveInCode_152 ?_
        refine lv_iload hx hb dX3_moveInCode_155 (lv_at hl 1 rfl) ?_
        refine lv_iload hx hb dX3_moveInCode_157 (lv_at hl 0 rfl) ?_
        refine lv_iadd hx hb dX3_moveInCode_159 ?_
        obtain ⟨hq49, hrun⟩ := chk9 hrun
        refine va_iald hx hb hK hP 8 7 rfl rfl (ixb_in hq49) dX3_moveInCode_160 ?_
        rcases br9 hrun with ⟨hc50, hrun⟩ | ⟨hc50, hrun⟩
        · refine lv_if_ne (tgt := 353) hx hb dX3_moveInCode_161 (by decide) (fun c => absurd hc50 c) (fun _ => ?_)
          refine lv_aload_n hx hb dX3_moveInCode_164 rfl (lv_at hl 5 rfl) ?_
          refine va_get (D := (dC, dI)) (ci := 10) (v := .ref (p0a 12)) (C := RX3) (T := TX3) (N := 20) hx hb hts i_X3 hown hK hP 0 rfl rfl 11 (by decide) (hts _ qw915) (fun _ h9 => h9) rfl dX3_moveInCode_165 ?_
          refine lv_iload_n hx hb dX3_moveInCode_168 rfl (lv_at hl 4 rfl) ?_
          refine lv_aload_n hx hb dX3_moveInCode_169 rfl (lv_at hl 3 rfl) ?_
          refine va_get (D := (dC, dI)) (ci := 3) (v := .ref ((p0_6_1a 0) 5)) (C := RX9) (T := TX9) (N := 6) hx hb hts i_X9 hown hK hP 20 rfl rfl 4 (by decide) (hts _ qw967) (fun _ h9 => h9) rfl dX3_moveInCode_170 ?_
          refine lv_iload_n hx hb dX3_moveInCode_173 rfl (lv_at hl 2 rfl) ?_
          obtain ⟨hq51, hrun⟩ := chk9 hrun
          refine va_iald hx hb hK hP 24 21 rfl rfl (ixb_in hq51) dX3_moveInCode_174 ?_
          obtain ⟨hq52, hrun⟩ := chk9 hrun
          refine va_iast hx hb hK hP hD hS 4 3 rfl rfl (ixb_in hq52) dX3_moveInCode_175 (fun H locs hP hD hS => ?_)
          have hP : va_P (dC, dI) cls (List.flatten ([(oX3 (p0a 0) p0a p0k p0n (upw w9 12 (nn ((p0w 0 9) - 1)) (((p0_6_1w 0) 5) (nn (p0w 12 (nn ((p0w 0 9) - 1))))))), (oX0 (p0a 7) p0_6a p0_6k p0_6n p0_6w), (oX9 (p0_6_1a 0 0) (p0_6_1a 0) (p0_6_1k 0) (p0_6_1n 0) (p0_6_1w 0)), (oX9 (p0_6_1a 1 0) (p0_6_1a 1) (p0_6_1k 1) (p0_6_1n 1) (p0_6_1w 1)), (oX9 (p0_6_1a 2 0) (p0_6_1a 2) (p0_6_1k 2) (p0_6_1n 2) (p0_6_1w 2)), (oX9 (p0_6_1a 3 0) (p0_6_1a 3) (p0_6_1k 3) (p0_6_1n 3) (p0_6_1w 3)), (oX9 (p0_6_1a 4 0) (p0_6_1a 4) (p0_6_1k 4) (p0_6_1n 4) (p0_6_1w 4)), (oX9 (p0_6_1a 5 0) (p0_6_1a 5) (p0_6_1k 5) (p0_6_1n 5) (p0_6_1w 5)), (oX6 (p0a 5) p0_4a p0_4k p0_4w p0_4l), [((p0_6a 2), .inl (p0_6_1c, 6, .inr (.inr (.inr (.inr (fun i => some (p0_6_1a i 0)))))))]] : List va_W)) H := hP
          have hD : va_D A (List.flatten ([(oX3 (p0a 0) p0a p0k p0n (upw w9 12 (nn ((p0w 0 9) - 1)) (((p0_6_1w 0) 5) (nn (p0w 12 (nn ((p0w 0 9) - 1))))))), (oX0 (p0a 7) p0_6a p0_6k p0_6n p0_6w), (oX9 (p0_6_1a 0 0) (p0_6_1a 0) (p0_6_1k 0) (p0_6_1n 0) (p0_6_1w 0)), (oX9 (p0_6_1a 1 0) (p0_6_1a 1) (p0_6_1k 1) (p0_6_1n 1) (p0_6_1w 1)), (oX9 (p0_6_1a 2 0) (p0_6_1a 2) (p0_6_1k 2) (p0_6_1n 2) (p0_6_1w 2)), (oX9 (p0_6_1a 3 0) (p0_6_1a 3) (p0_6_1k 3) (p0_6_1n 3) (p0_6_1w 3)), (oX9 (p0_6_1a 4 0) (p0_6_1a 4) (p0_6_1k 4) (p0_6_1n 4) (p0_6_1w 4)), (oX9 (p0_6_1a 5 0) (p0_6_1a 5) (p0_6_1k 5) (p0_6_1n 5) (p0_6_1w 5)), (oX6 (p0a 5) p0_4a p0_4k p0_4w p0_4l), [((p0_6a 2), .inl (p0_6_1c, 6, .inr (.inr (.inr (.inr (fun i => some (p0_6_1a i 0)))))))]] : List va_W)) := hD
          obtain ⟨w53, ew53, hrun⟩ := let9 hrun
          rw [← ew53] at hP hD
          refine lv_goto (tgt := 353) hx hb dX3_moveInCode_176 (by decide) ?_
          exact J353 w53 _ _ _ hrun hP hD hK hS (lv_sub hl [] rfl)
        · refine lv_if_ne (tgt := 353) hx hb dX3_moveInCode_161 (by decide) (fun _ => ?_) (fun c => absurd c hc50)
          exact J353 w9 _ _ _ hrun hP hD hK hS (lv_sub hl [] rfl)
      refine lv_tableOut (tgt := 346) hx hb dX3_moveInCode_68 (show Int32.toInt (((p0_6_1w 0) 2) (nn (p0w 12 (nn ((p0w 0 9) - 1))))) < 22 ∨ (28 : Int) < Int32.toInt (((p0_6_1w 0) 2) (nn (p0w 12 (nn ((p0w 0 9) - 1))))) from by have g0 := lv_neT hc12 (show Int32.toInt 22 = 22 by decide); have g1 := lv_neT hc15 (show Int32.toInt 23 = 23 by decide); have g2 := lv_neT hc21 (show Int32.toInt 24 = 24 by decide); have g3 := lv_neT hc33 (show Int32.toInt 25 = 25 by decide); have g4 := lv_neT hc38 (show Int32.toInt 26 = 26 by decide); have g5 := lv_neT hc43 (show Int32.toInt 27 = 27 by decide); have g6 := lv_neT hc48 (show Int32.toInt 28 = 28 by decide); omega) (by decide) ?_
      refine lv_aload_n hx hb dX3_moveInCode_346 rfl (lv_at hl 5 rfl) ?_
      refine lv_aload_n hx hb dX3_moveInCode_347 rfl (lv_at hl 3 rfl) ?_
      refine lv_iload_n hx hb dX3_moveInCode_348 rfl (lv_at hl 4 rfl) ?_
      refine lv_iload_n hx hb dX3_moveInCode_349 rfl (lv_at hl 2 rfl) ?_
      obtain ⟨o_54, hc_54, hrun⟩ := bnd9 hrun
      have hPx : va_P (dC, dI) cls ((List.flatten ([(oX3 (p0a 0) p0a p0k p0n w9), (oX9 (p0_6_1a 0 0) (p0_6_1a 0) (p0_6_1k 0) (p0_6_1n 0) (p0_6_1w 0)), (oX6 (p0a 5) p0_4a p0_4k p0_4w p0_4l)] : List va_W)) ++ (List.flatten ([(oX0 (p0a 7) p0_6a p0_6k p0_6n p0_6w), (oX9 (p0_6_1a 1 0) (p0_6_1a 1) (p0_6_1k 1) (p0_6_1n 1) (p0_6_1w 1)), (oX9 (p0_6_1a 2 0) (p0_6_1a 2) (p0_6_1k 2) (p0_6_1n 2) (p0_6_1w 2)), (oX9 (p0_6_1a 3 0) (p0_6_1a 3) (p0_6_1k 3) (p0_6_1n 3) (p0_6_1w 3)), (oX9 (p0_6_1a 4 0) (p0_6_1a 4) (p0_6_1k 4) (p0_6_1n 4) (p0_6_1w 4)), (oX9 (p0_6_1a 5 0) (p0_6_1a 5) (p0_6_1k 5) (p0_6_1n 5) (p0_6_1w 5)), [((p0_6a 2), .inl (p0_6_1c, 6, .inr (.inr (.inr (.inr (fun i => some (p0_6_1a i 0)))))))]] : List va_W))) H := vP_fa (vP_perm hP (bP (((List.Perm.refl _)).trans ((((((((List.Perm.refl _)).cons _).trans (List.Perm.swap _ _ _))).trans (((((((((((((((((((((List.Perm.refl _)).cons _).trans (List.Perm.swap _ _ _))).cons _).trans (List.Perm.swap _ _ _))).cons _).trans (List.Perm.swap _ _ _))).cons _).trans (List.Perm.swap _ _ _))).cons _).trans (List.Perm.swap _ _ _))).cons _).trans (List.Perm.swap _ _ _))).cons _))).cons _))))
      have hDx : va_D A ((List.flatten ([(oX3 (p0a 0) p0a p0k p0n w9), (oX9 (p0_6_1a 0 0) (p0_6_1a 0) (p0_6_1k 0) (p0_6_1n 0) (p0_6_1w 0)), (oX6 (p0a 5) p0_4a p0_4k p0_4w p0_4l)] : List va_W)) ++ (List.flatten ([(oX0 (p0a 7) p0_6a p0_6k p0_6n p0_6w), (oX9 (p0_6_1a 1 0) (p0_6_1a 1) (p0_6_1k 1) (p0_6_1n 1) (p0_6_1w 1)), (oX9 (p0_6_1a 2 0) (p0_6_1a 2) (p0_6_1k 2) (p0_6_1n 2) (p0_6_1w 2)), (oX9 (p0_6_1a 3 0) (p0_6_1a 3) (p0_6_1k 3) (p0_6_1n 3) (p0_6_1w 3)), (oX9 (p0_6_1a 4 0) (p0_6_1a 4) (p0_6_1k 4) (p0_6_1n 4) (p0_6_1w 4)), (oX9 (p0_6_1a 5 0) (p0_6_1a 5) (p0_6_1k 5) (p0_6_1n 5) (p0_6_1w 5)), [((p0_6a 2), .inl (p0_6_1c, 6, .inr (.inr (.inr (.inr (fun i => some (p0_6_1a i 0)))))))]] : List va_W))) := vD_fa (vD_perm hD (bP (((List.Perm.refl _)).trans ((((((((List.Perm.refl _)).cons _).trans (List.Perm.swap _ _ _))).trans (((((((((((((((((((((List.Perm.refl _)).cons _).trans (List.Perm.swap _ _ _))).cons _).trans (List.Perm.swap _ _ _))).cons _).trans (List.Perm.swap _ _ _))).cons _).trans (List.Perm.swap _ _ _))).cons _).trans (List.Perm.swap _ _ _))).cons _).trans (List.Perm.swap _ _ _))).cons _))).cons _))))
      have hKx : va_K (dC, dI) cls ((List.flatten ([(tX3 p0k), (tX9 (p0_6_1k 0)), (tX6 p0_4k)] : List (List (ClassId × FieldType)))) ++ (List.flatten ([(tX0 p0_6k), (tX9 (p0_6_1k 1)), (tX9 (p0_6_1k 2)), (tX9 (p0_6_1k 3)), (tX9 (p0_6_1k 4)), (tX9 (p0_6_1k 5)), [(p0_6_1c, .object RX9)]] : List (List (ClassId × FieldType))))) s := vK_fa (vK_perm hK (bP (((List.Perm.refl _)).trans ((((((((List.Perm.refl _)).cons _).trans (List.Perm.swap _ _ _))).trans (((((((((((((((((((((List.Perm.refl _)).cons _).trans (List.Perm.swap _ _ _))).cons _).trans (List.Perm.swap _ _ _))).cons _).trans (List.Perm.swap _ _ _))).cons _).trans (List.Perm.swap _ _ _))).cons _).trans (List.Perm.swap _ _ _))).cons _).trans (List.Perm.swap _ _ _))).cons _))).cons _))))
      have hPc := vP_l hPx
      have hDc := vD_l hDx
      have hKc := vK_l hKx
      have hFc := vfree hDx hS hA
      refine va_callv (va_runV (As := [.ref (p0_6_1a 0 0), .int ((p0w 0 9) - 1), .int (p0w 12 (nn ((p0w 0 9) - 1)))]) (rest := []) ⟨hx, hb, hml, hown, hts⟩ (kX3_moveLine l dC dI (p0a := p0a) (p0k := p0k) (p0n := p0n) (p0w := w9) (p1a := (st0 (p0_6_1a 0 0) (p0_6_1a 0))) (p1k := (p0_6_1k 0)) (p1n := (p0_6_1n 0)) (p1w := (p0_6_1w 0)) (p2 := ((p0w 0 9) - 1)) (p3 := (p0w 12 (nn ((p0w 0 9) - 1)))) (p0_4a := p0_4a) (p0_4k := p0_4k) (p0_4w := p0_4w) (p0_4l := p0_4l) (sz := _) (o := o_54) (hrun := hc_54)) (cwV 3 hts (gi_V qw990 qw991 qw992 qw903 (gi_z qw989)) rfl rfl rfl (by decide +kernel) ⟨Nat.le_of_ble_eq_true rfl, Nat.le_of_ble_eq_true rfl⟩) ⟨PRE.blind, va_recv hKc hPc (ci := 10) (q0 := 0) rfl rfl, PRE.of hE hS hFc hPc hKc hDc⟩ rfl rfl hl.1 rfl (lv_room (Nat.le_of_ble_eq_true rfl)) dX3_moveInCode_350 ⟨(Nat.le_of_ble_eq_true rfl), (Nat.le_of_ble_eq_true rfl)⟩) hS (fun q _ h => hFc q h) hFc (fun u t H locs ht hvm hw hB hz1 hk1 hS => ?_)
      obtain ⟨b1, b2, b3⟩ := hB
      rw [ht] at b1
      obtain ⟨hP, hD, hK⟩ := JOINC (wc := (List.flatten ([(oX3 (p0a 0) p0a p0k p0n w9), (oX9 (p0_6_1a 0 0) (p0_6_1a 0) (p0_6_1k 0) (p0_6_1n 0) (p0_6_1w 0)), (oX6 (p0a 5) p0_4a p0_4k p0_4w p0_4l)] : List va_W))) (wr := (List.flatten ([(oX0 (p0a 7) p0_6a p0_6k p0_6n p0_6w), (oX9 (p0_6_1a 1 0) (p0_6_1a 1) (p0_6_1k 1) (p0_6_1n 1) (p0_6_1w 1)), (oX9 (p0_6_1a 2 0) (p0_6_1a 2) (p0_6_1k 2) (p0_6_1n 2) (p0_6_1w 2)), (oX9 (p0_6_1a 3 0) (p0_6_1a 3) (p0_6_1k 3) (p0_6_1n 3) (p0_6_1w 3)), (oX9 (p0_6_1a 4 0) (p0_6_1a 4) (p0_6_1k 4) (p0_6_1n 4) (p0_6_1w 4)), (oX9 (p0_6_1a 5 0) (p0_6_1a 5) (p0_6_1k 5) (p0_6_1n 5) (p0_6_1w 5)), [((p0_6a 2), .inl (p0_6_1c, 6, .inr (.inr (.inr (.inr (fun i => some (p0_6_1a i 0)))))))]] : List va_W))) (w1 := (List.flatten ([(oX3 (p0a 0) p0a p0k p0n o_54), (oX9 (p0_6_1a 0 0) (p0_6_1a 0) (p0_6_1k 0) (p0_6_1n 0) (p0_6_1w 0)), (oX6 (p0a 5) p0_4a p0_4k p0_4w p0_4l)] : List va_W))) (t1 := (List.flatten ([(tX3 p0k), (tX9 (p0_6_1k 0)), (tX6 p0_4k)] : List (List (ClassId × FieldType))))) hPx hDx hKx hk1 hFc b1 (va_K.moved hvm.symm b2) b3
      have hP : va_P (dC, dI) cls (List.flatten ([(oX3 (p0a 0) p0a p0k p0n o_54), (oX0 (p0a 7) p0_6a p0_6k p0_6n p0_6w), (oX9 (p0_6_1a 0 0) (p0_6_1a 0) (p0_6_1k 0) (p0_6_1n 0) (p0_6_1w 0)), (oX9 (p0_6_1a 1 0) (p0_6_1a 1) (p0_6_1k 1) (p0_6_1n 1) (p0_6_1w 1)), (oX9 (p0_6_1a 2 0) (p0_6_1a 2) (p0_6_1k 2) (p0_6_1n 2) (p0_6_1w 2)), (oX9 (p0_6_1a 3 0) (p0_6_1a 3) (p0_6_1k 3) (p0_6_1n 3) (p0_6_1w 3)), (oX9 (p0_6_1a 4 0) (p0_6_1a 4) (p0_6_1k 4) (p0_6_1n 4) (p0_6_1w 4)), (oX9 (p0_6_1a 5 0) (p0_6_1a 5) (p0_6_1k 5) (p0_6_1n 5) (p0_6_1w 5)), (oX6 (p0a 5) p0_4a p0_4k p0_4w p0_4l), [((p0_6a 2), .inl (p0_6_1c, 6, .inr (.inr (.inr (.inr (fun i => some (p0_6_1a i 0)))))))]] : List va_W)) H := vP_perm (vP_fb hP) (bP (((List.Perm.refl _)).trans (((((((((((List.Perm.refl _)).cons _).trans (List.Perm.swap _ _ _))).cons _).trans (List.Perm.swap _ _ _))).trans (((((List.Perm.refl _)).trans ((((((((List.Perm.refl _)).cons _).trans (List.Perm.swap _ _ _))).trans ((((((((List.Perm.refl _)).cons _).trans (List.Perm.swap _ _ _))).trans ((((((((List.Perm.refl _)).cons _).trans (List.Perm.swap _ _ _))).trans ((((((((List.Perm.refl _)).cons _).trans (List.Perm.swap _ _ _))).trans ((((((List.Perm.refl _)).cons _).trans (List.Perm.swap _ _ _))).cons _))).cons _))).cons _))).cons _))).cons _))).cons _))).cons _)))
      have hD : va_D A (List.flatten ([(oX3 (p0a 0) p0a p0k p0n o_54), (oX0 (p0a 7) p0_6a p0_6k p0_6n p0_6w), (oX9 (p0_6_1a 0 0) (p0_6_1a 0) (p0_6_1k 0) (p0_6_1n 0) (p0_6_1w 0)), (oX9 (p0_6_1a 1 0) (p0_6_1a 1) (p0_6_1k 1) (p0_6_1n 1) (p0_6_1w 1)), (oX9 (p0_6_1a 2 0) (p0_6_1a 2) (p0_6_1k 2) (p0_6_1n 2) (p0_6_1w 2)), (oX9 (p0_6_1a 3 0) (p0_6_1a 3) (p0_6_1k 3) (p0_6_1n 3) (p0_6_1w 3)), (oX9 (p0_6_1a 4 0) (p0_6_1a 4) (p0_6_1k 4) (p0_6_1n 4) (p0_6_1w 4)), (oX9 (p0_6_1a 5 0) (p0_6_1a 5) (p0_6_1k 5) (p0_6_1n 5) (p0_6_1w 5)), (oX6 (p0a 5) p0_4a p0_4k p0_4w p0_4l), [((p0_6a 2), .inl (p0_6_1c, 6, .inr (.inr (.inr (.inr (fun i => some (p0_6_1a i 0)))))))]] : List va_W)) := vD_perm (vD_fb hD) (bP (((List.Perm.refl _)).trans (((((((((((List.Perm.refl _)).cons _).trans (List.Perm.swap _ _ _))).cons _).trans (List.Perm.swap _ _ _))).trans (((((List.Perm.refl _)).trans ((((((((List.Perm.refl _)).cons _).trans (List.Perm.swap _ _ _))).trans ((((((((List.Perm.refl _)).cons _).trans (List.Perm.swap _ _ _))).trans ((((((((List.Perm.refl _)).cons _).trans (List.Perm.swap _ _ _))).trans ((((((((List.Perm.refl _)).cons _).trans (List.Perm.swap _ _ _))).trans ((((((List.Perm.refl _)).cons _).trans (List.Perm.swap _ _ _))).cons _))).cons _))).cons _))).cons _))).cons _))).cons _))).cons _)))
      have hK : va_K (dC, dI) cls (List.flatten ([(tX3 p0k), (tX0 p0_6k), (tX9 (p0_6_1k 0)), (tX9 (p0_6_1k 1)), (tX9 (p0_6_1k 2)), (tX9 (p0_6_1k 3)), (tX9 (p0_6_1k 4)), (tX9 (p0_6_1k 5)), (tX6 p0_4k), [(p0_6_1c, .object RX9)]] : List (List (ClassId × FieldType)))) s := vK_perm (vK_fb hK) (bP (((List.Perm.refl _)).trans (((((((((((List.Perm.refl _)).cons _).trans (List.Perm.swap _ _ _))).cons _).trans (List.Perm.swap _ _ _))).trans (((((List.Perm.refl _)).trans ((((((((List.Perm.refl _)).cons _).trans (List.Perm.swap _ _ _))).trans ((((((((List.Perm.refl _)).cons _).trans (List.Perm.swap _ _ _))).trans ((((((((List.Perm.refl _)).cons _).trans (List.Perm.swap _ _ _))).trans ((((((((List.Perm.refl _)).cons _).trans (List.Perm.swap _ _ _))).trans ((((((List.Perm.refl _)).cons _).trans (List.Perm.swap _ _ _))).cons _))).cons _))).cons _))).cons _))).cons _))).cons _))).cons _)))
      exact J353 o_54 _ _ _ hrun hP hD hK hS (lv_sub hl [] rfl)
  · refine W.eq (g2 := F0 m 21 ls [.ref (p0_6_1a 1 0)]) rfl ?_
    refine lv_astore_n (lv' := [(2, .ref (p0_6_1a 1 0)), (1, .int ((p0w 0 9) - 1)), (0, .ref (p0a 0))]) hx hb dX3_moveInCode_21 rfl hl (by decide) rfl (fun ls hl => ?_)
    refine lv_aload_n hx hb dX3_moveInCode_22 rfl (lv_at hl 2 rfl) ?_
    refine va_get (D := (dC, dI)) (ci := 10) (v := .ref (p0a 12)) (C := RX3) (T := TX3) (N := 20) hx hb hts i_X3 hown hK hP 0 rfl rfl 11 (by decide) (hts _ qw915) (fun _ h9 => h9) rfl dX3_moveInCode_23 ?_
    refine lv_iload_n hx hb dX3_moveInCode_26 rfl (lv_at hl 1 rfl) ?_
    obtain ⟨hq4, hrun⟩ := chk9 hrun
    refine va_iald hx hb hK hP 4 3 rfl rfl (ixb_in hq4) dX3_moveInCode_27 ?_
    refine lv_istore_n (lv' := [(3, .int (p0w 12 (nn ((p0w 0 9) - 1)))), (2, .ref (p0_6_1a 1 0)), (1, .int ((p0w 0 9) - 1)), (0, .ref (p0a 0))]) hx hb dX3_moveInCode_28 rfl hl (by decide) rfl (fun ls hl => ?_)
    refine lv_aload_n hx hb dX3_moveInCode_29 rfl (lv_at hl 3 rfl) ?_
    refine lv_iconst (v := 1) hx hb dX3_moveInCode_30 (by decide) ?_
    obtain ⟨o_5, hc_5, hrun⟩ := bnd9 hrun
    have hPx : va_P (dC, dI) cls ((List.flatten ([(oX3 (p0a 0) p0a p0k p0n p0w)] : List va_W)) ++ (List.flatten ([(oX0 (p0a 7) p0_6a p0_6k p0_6n p0_6w), (oX9 (p0_6_1a 0 0) (p0_6_1a 0) (p0_6_1k 0) (p0_6_1n 0) (p0_6_1w 0)), (oX9 (p0_6_1a 1 0) (p0_6_1a 1) (p0_6_1k 1) (p0_6_1n 1) (p0_6_1w 1)), (oX9 (p0_6_1a 2 0) (p0_6_1a 2) (p0_6_1k 2) (p0_6_1n 2) (p0_6_1w 2)), (oX9 (p0_6_1a 3 0) (p0_6_1a 3) (p0_6_1k 3) (p0_6_1n 3) (p0_6_1w 3)), (oX9 (p0_6_1a 4 0) (p0_6_1a 4) (p0_6_1k 4) (p0_6_1n 4) (p0_6_1w 4)), (oX9 (p0_6_1a 5 0) (p0_6_1a 5) (p0_6_1k 5) (p0_6_1n 5) (p0_6_1w 5)), (oX6 (p0a 5) p0_4a p0_4k p0_4w p0_4l), [((p0_6a 2), .inl (p0_6_1c, 6, .inr (.inr (.inr (.inr (fun i => some (p0_6_1a i 0)))))))]] : List va_W))) H := vP_fa (vP_perm hP (bP (List.Perm.refl _)))
    have hDx : va_D A ((List.flatten ([(oX3 (p0a 0) p0a p0k p0n p0w)] : List va_W)) ++ (List.flatten ([(oX0 (p0a 7) p0_6a p0_6k p0_6n p0_6w), (oX9 (p0_6_1a 0 0) (p0_6_1a 0) (p0_6_1k 0) (p0_6_1n 0) (p0_6_1w 0)), (oX9 (p0_6_1a 1 0) (p0_6_1a 1) (p0_6_1k 1) (p0_6_1n 1) (p0_6_1w 1)), (oX9 (p0_6_1a 2 0) (p0_6_1a 2) (p0_6_1k 2) (p0_6_1n 2) (p0_6_1w 2)), (oX9 (p0_6_1a 3 0) (p0_6_1a 3) (p0_6_1k 3) (p0_6_1n 3) (p0_6_1w 3)), (oX9 (p0_6_1a 4 0) (p0_6_1a 4) (p0_6_1k 4) (p0_6_1n 4) (p0_6_1w 4)), (oX9 (p0_6_1a 5 0) (p0_6_1a 5) (p0_6_1k 5) (p0_6_1n 5) (p0_6_1w 5)), (oX6 (p0a 5) p0_4a p0_4k p0_4w p0_4l), [((p0_6a 2), .inl (p0_6_1c, 6, .inr (.inr (.inr (.inr (fun i => some (p0_6_1a i 0)))))))]] : List va_W))) := vD_fa (vD_perm hD (bP (List.Perm.refl _)))
    have hKx : va_K (dC, dI) cls ((List.flatten ([(tX3 p0k)] : List (List (ClassId × FieldType)))) ++ (List.flatten ([(tX0 p0_6k), (tX9 (p0_6_1k 0)), (tX9 (p0_6_1k 1)), (tX9 (p0_6_1k 2)), (tX9 (p0_6_1k 3)), (tX9 (p0_6_1k 4)), (tX9 (p0_6_1k 5)), (tX6 p0_4k), [(p0_6_1c, .object RX9)]] : List (List (ClassId × FieldType))))) s := vK_fa (vK_perm hK (bP (List.Perm.refl _)))
    have hPc := vP_l hPx
    have hDc := vD_l hDx
    have hKc := vK_l hKx
    have hFc := vfree hDx hS hA
    refine va_calli (va_runV (As := [.int 1]) (rest := []) ⟨hx, hb, hml, hown, hts⟩ (kX3_tick l dC dI (p0a := p0a) (p0k := p0k) (p0n := p0n) (p0w := p0w) (p1 := 1) (sz := _) (o := o_5) (hrun := hc_5)) (cwV 1 hts (gi_V qw939 qw940 qw941 qw903 (gi_z qw938)) rfl rfl rfl (by decide +kernel) ⟨Nat.le_of_ble_eq_true rfl, Nat.le_of_ble_eq_true rfl⟩) ⟨PRE.blind, va_recv hKc hPc (ci := 10) (q0 := 0) rfl rfl, PRE.of hE hS hFc hPc hKc hDc⟩ rfl rfl hl.1 rfl (lv_room (Nat.le_of_ble_eq_true rfl)) dX3_moveInCode_31 ⟨(Nat.le_of_ble_eq_true rfl), (Nat.le_of_ble_eq_true rfl)⟩) hS (fun q _ h => hFc q h) hFc (fun r6 u t H locs ht hvm hw hB hz1 hk1 hS => ?_)
    obtain ⟨b1, b2, b3⟩ := hB
    rw [ht] at b1
    obtain ⟨hP, hD, hK⟩ := JOINC (wc := (List.flatten ([(oX3 (p0a 0) p0a p0k p0n p0w)] : List va_W))) (wr := (List.flatten ([(oX0 (p0a 7) p0_6a p0_6k p0_6n p0_6w), (oX9 (p0_6_1a 0 0) (p0_6_1a 0) (p0_6_1k 0) (p0_6_1n 0) (p0_6_1w 0)), (oX9 (p0_6_1a 1 0) (p0_6_1a 1) (p0_6_1k 1) (p0_6_1n 1) (p0_6_1w 1)), (oX9 (p0_6_1a 2 0) (p0_6_1a 2) (p0_6_1k 2) (p0_6_1n 2) (p0_6_1w 2)), (oX9 (p0_6_1a 3 0) (p0_6_1a 3) (p0_6_1k 3) (p0_6_1n 3) (p0_6_1w 3)), (oX9 (p0_6_1a 4 0) (p0_6_1a 4) (p0_6_1k 4) (p0_6_1n 4) (p0_6_1w 4)), (oX9 (p0_6_1a 5 0) (p0_6_1a 5) (p0_6_1k 5) (p0_6_1n 5) (p0_6_1w 5)), (oX6 (p0a 5) p0_4a p0_4k p0_4w p0_4l), [((p0_6a 2), .inl (p0_6_1c, 6, .inr (.inr (.inr (.inr (fun i => some (p0_6_1a i 0)))))))]] : List va_W))) (w1 := (List.flatten ([(oX3 (p0a 0) p0a p0k p0n (o_5.2))] : List va_W))) (t1 := (List.flatten ([(tX3 p0k)] : List (List (ClassId × FieldType))))) hPx hDx hKx hk1 hFc b1 (va_K.moved hvm.symm b2) b3
    have hP : va_P (dC, dI) cls (List.flatten ([(oX3 (p0a 0) p0a p0k p0n (o_5.2)), (oX0 (p0a 7) p0_6a p0_6k p0_6n p0_6w), (oX9 (p0_6_1a 0 0) (p0_6_1a 0) (p0_6_1k 0) (p0_6_1n 0) (p0_6_1w 0)), (oX9 (p0_6_1a 1 0) (p0_6_1a 1) (p0_6_1k 1) (p0_6_1n 1) (p0_6_1w 1)), (oX9 (p0_6_1a 2 0) (p0_6_1a 2) (p0_6_1k 2) (p0_6_1n 2) (p0_6_1w 2)), (oX9 (p0_6_1a 3 0) (p0_6_1a 3) (p0_6_1k 3) (p0_6_1n 3) (p0_6_1w 3)), (oX9 (p0_6_1a 4 0) (p0_6_1a 4) (p0_6_1k 4) (p0_6_1n 4) (p0_6_1w 4)), (oX9 (p0_6_1a 5 0) (p0_6_1a 5) (p0_6_1k 5) (p0_6_1n 5) (p0_6_1w 5)), (oX6 (p0a 5) p0_4a p0_4k p0_4w p0_4l), [((p0_6a 2), .inl (p0_6_1c, 6, .inr (.inr (.inr (.inr (fun i => some (p0_6_1a i 0)))))))]] : List va_W)) H := vP_perm (vP_fb hP) (bP (List.Perm.refl _))
    have hD : va_D A (List.flatten ([(oX3 (p0a 0) p0a p0k p0n (o_5.2)), (oX0 (p0a 7) p0_6a p0_6k p0_6n p0_6w), (oX9 (p0_6_1a 0 0) (p0_6_1a 0) (p0_6_1k 0) (p0_6_1n 0) (p0_6_1w 0)), (oX9 (p0_6_1a 1 0) (p0_6_1a 1) (p0_6_1k 1) (p0_6_1n 1) (p0_6_1w 1)), (oX9 (p0_6_1a 2 0) (p0_6_1a 2) (p0_6_1k 2) (p0_6_1n 2) (p0_6_1w 2)), (oX9 (p0_6_1a 3 0) (p0_6_1a 3) (p0_6_1k 3) (p0_6_1n 3) (p0_6_1w 3)), (oX9 (p0_6_1a 4 0) (p0_6_1a 4) (p0_6_1k 4) (p0_6_1n 4) (p0_6_1w 4)), (oX9 (p0_6_1a 5 0) (p0_6_1a 5) (p0_6_1k 5) (p0_6_1n 5) (p0_6_1w 5)), (oX6 (p0a 5) p0_4a p0_4k p0_4w p0_4l), [((p0_6a 2), .inl (p0_6_1c, 6, .inr (.inr (.inr (.inr (fun i => some (p0_6_1a i 0)))))))]] : List va_W)) := vD_perm (vD_fb hD) (bP (List.Perm.refl _))
    have hK : va_K (dC, dI) cls (List.flatten ([(tX3 p0k), (tX0 p0_6k), (tX9 (p0_6_1k 0)), (tX9 (p0_6_1k 1)), (tX9 (p0_6_1k 2)), (tX9 (p0_6_1k 3)), (tX9 (p0_6_1k 4)), (tX9 (p0_6_1k 5)), (tX6 p0_4k), [(p0_6_1c, .object RX9)]] : List (List (ClassId × FieldType)))) s := vK_perm (vK_fb hK) (bP (List.Perm.refl _))
    obtain rfl : r6 = (o_5.1) := hw
    rcases br9 hrun with ⟨hc7, hrun⟩ | ⟨hc7, hrun⟩
    · refine lv_if_ne (tgt := 38) hx hb dX3_moveInCode_34 (by decide) (fun c => absurd hc7 c) (fun _ => ?_)
      have ho9 : (o_5.2) = o := Option.some.inj hrun
      have hP9 : va_P (dC, dI) cls (List.flatten ([(oX3 (p0a 0) p0a p0k p0n o), (oX0 (p0a 7) p0_6a p0_6k p0_6n p0_6w), (oX9 (p0_6_1a 0 0) (p0_6_1a 0) (p0_6_1k 0) (p0_6_1n 0) (p0_6_1w 0)), (oX9 (p0_6_1a 1 0) (p0_6_1a 1) (p0_6_1k 1) (p0_6_1n 1) (p0_6_1w 1)), (oX9 (p0_6_1a 2 0) (p0_6_1a 2) (p0_6_1k 2) (p0_6_1n 2) (p0_6_1w 2)), (oX9 (p0_6_1a 3 0) (p0_6_1a 3) (p0_6_1k 3) (p0_6_1n 3) (p0_6_1w 3)), (oX9 (p0_6_1a 4 0) (p0_6_1a 4) (p0_6_1k 4) (p0_6_1n 4) (p0_6_1w 4)), (oX9 (p0_6_1a 5 0) (p0_6_1a 5) (p0_6_1k 5) (p0_6_1n 5) (p0_6_1w 5)), (oX6 (p0a 5) p0_4a p0_4k p0_4w p0_4l), [((p0_6a 2), .inl (p0_6_1c, 6, .inr (.inr (.inr (.inr (fun i => some (p0_6_1a i 0)))))))]] : List va_W)) H := by first | exact hP | (rw [← ho9]; exact hP)
      have hD9 : va_D A (List.flatten ([(oX3 (p0a 0) p0a p0k p0n o), (oX0 (p0a 7) p0_6a p0_6k p0_6n p0_6w), (oX9 (p0_6_1a 0 0) (p0_6_1a 0) (p0_6_1k 0) (p0_6_1n 0) (p0_6_1w 0)), (oX9 (p0_6_1a 1 0) (p0_6_1a 1) (p0_6_1k 1) (p0_6_1n 1) (p0_6_1w 1)), (oX9 (p0_6_1a 2 0) (p0_6_1a 2) (p0_6_1k 2) (p0_6_1n 2) (p0_6_1w 2)), (oX9 (p0_6_1a 3 0) (p0_6_1a 3) (p0_6_1k 3) (p0_6_1n 3) (p0_6_1w 3)), (oX9 (p0_6_1a 4 0) (p0_6_1a 4) (p0_6_1k 4) (p0_6_1n 4) (p0_6_1w 4)), (oX9 (p0_6_1a 5 0) (p0_6_1a 5) (p0_6_1k 5) (p0_6_1n 5) (p0_6_1w 5)), (oX6 (p0a 5) p0_4a p0_4k p0_4w p0_4l), [((p0_6a 2), .inl (p0_6_1c, 6, .inr (.inr (.inr (.inr (fun i => some (p0_6_1a i 0)))))))]] : List va_W)) := by first | exact hD | (rw [← ho9]; exact hD)
      subst hQ
      exact W.vret hx hb hr (fun t ht hW => ⟨⟨(), rfl, trivial, ⟨by rw [ht]; exact hP9, va_K.moved hW.alike hK, hD9⟩⟩, hS.F ht⟩) hS.2.2 dX3_moveInCode_37
    · refine lv_if_ne (tgt := 38) hx hb dX3_moveInCode_34 (by decide) (fun _ => ?_) (fun c => absurd c hc7)
      refine lv_aload_n hx hb dX3_moveInCode_38 rfl (lv_at hl 3 rfl) ?_
      refine va_get (D := (dC, dI)) (ci := 10) (v := .ref (p0a 12)) (C := RX3) (T := TX3) (N := 20) hx hb hts i_X3 hown hK hP 0 rfl rfl 11 (by decide) (hts _ qw915) (fun _ h9 => h9) rfl dX3_moveInCode_39 ?_
      refine lv_iload_n hx hb dX3_moveInCode_42 rfl (lv_at hl 2 rfl) ?_
      refine lv_iload_n hx hb dX3_moveInCode_43 rfl (lv_at hl 0 rfl) ?_
      refine lv_iconst (v := 1) hx hb dX3_moveInCode_44 (by decide) ?_
      refine lv_iadd hx hb dX3_moveInCode_45 ?_
      obtain ⟨hq8, hrun⟩ := chk9 hrun
      refine va_iast hx hb hK hP hD hS 4 3 rfl rfl (ixb_in hq8) dX3_moveInCode_46 (fun H locs hP hD hS => ?_)
      have hP : va_P (dC, dI) cls (List.flatten ([(oX3 (p0a 0) p0a p0k p0n (upw (o_5.2) 12 (nn ((p0w 0 9) - 1)) ((p0w 12 (nn ((p0w 0 9) - 1))) + 1))), (oX0 (p0a 7) p0_6a p0_6k p0_6n p0_6w), (oX9 (p0_6_1a 0 0) (p0_6_1a 0) (p0_6_1k 0) (p0_6_1n 0) (p0_6_1w 0)), (oX9 (p0_6_1a 1 0) (p0_6_1a 1) (p0_6_1k 1) (p0_6_1n 1) (p0_6_1w 1)), (oX9 (p0_6_1a 2 0) (p0_6_1a 2) (p0_6_1k 2) (p0_6_1n 2) (p0_6_1w 2)), (oX9 (p0_6_1a 3 0) (p0_6_1a 3) (p0_6_1k 3) (p0_6_1n 3) (p0_6_1w 3)), (oX9 (p0_6_1a 4 0) (p0_6_1a 4) (p0_6_1k 4) (p0_6_1n 4) (p0_6_1w 4)), (oX9 (p0_6_1a 5 0) (p0_6_1a 5) (p0_6_1k 5) (p0_6_1n 5) (p0_6_1w 5)), (oX6 (p0a 5) p0_4a p0_4k p0_4w p0_4l), [((p0_6a 2), .inl (p0_6_1c, 6, .inr (.inr (.inr (.inr (fun i => some (p0_6_1a i 0)))))))]] : List va_W)) H := hP
      have hD : va_D A (List.flatten ([(oX3 (p0a 0) p0a p0k p0n (upw (o_5.2) 12 (nn ((p0w 0 9) - 1)) ((p0w 12 (nn ((p0w 0 9) - 1))) + 1))), (oX0 (p0a 7) p0_6a p0_6k p0_6n p0_6w), (oX9 (p0_6_1a 0 0) (p0_6_1a 0) (p0_6_1k 0) (p0_6_1n 0) (p0_6_1w 0)), (oX9 (p0_6_1a 1 0) (p0_6_1a 1) (p0_6_1k 1) (p0_6_1n 1) (p0_6_1w 1)), (oX9 (p0_6_1a 2 0) (p0_6_1a 2) (p0_6_1k 2) (p0_6_1n 2) (p0_6_1w 2)), (oX9 (p0_6_1a 3 0) (p0_6_1a 3) (p0_6_1k 3) (p0_6_1n 3) (p0_6_1w 3)), (oX9 (p0_6_1a 4 0) (p0_6_1a 4) (p0_6_1k 4) (p0_6_1n 4) (p0_6_1w 4)), (oX9 (p0_6_1a 5 0) (p0_6_1a 5) (p0_6_1k 5) (p0_6_1n 5) (p0_6_1w 5)), (oX6 (p0a 5) p0_4a p0_4k p0_4w p0_4l), [((p0_6a 2), .inl (p0_6_1c, 6, .inr (.inr (.inr (.inr (fun i => some (p0_6_1a i 0)))))))]] : List va_W)) := hD
      obtain ⟨w9, ew9, hrun⟩ := let9 hrun
      rw [← ew9] at hP hD
      refine lv_iload_n hx hb dX3_moveInCode_47 rfl (lv_at hl 2 rfl) ?_
      refine lv_sipush (v := 320) hx hb dX3_moveInCode_48 (by decide) ?_
      refine lv_imul hx hb dX3_moveInCode_51 ?_
      refine lv_istore (lv' := [(4, .int (((p0w 0 9) - 1) * 320)), (3, .int (p0w 12 (nn ((p0w 0 9) - 1)))), (2, .ref (p0_6_1a 1 0)), (1, .int ((p0w 0 9) - 1)), (0, .ref (p0a 0))]) hx hb dX3_moveInCode_52 hl (by decide) rfl (fun ls hl => ?_)
      refine lv_aload_n hx hb dX3_moveInCode_54 rfl (lv_at hl 2 rfl) ?_
      refine va_get (D := (dC, dI)) (ci := 3) (v := .ref ((p0_6_1a 1) 4)) (C := RX9) (T := TX9) (N := 6) hx hb hts i_X9 hown hK hP 26 rfl rfl 3 (by decide) (hts _ qw954) (fun _ h9 => h9) rfl dX3_moveInCode_55 ?_
      refine lv_iload_n hx hb dX3_moveInCode_58 rfl (lv_at hl 1 rfl) ?_
      obtain ⟨hq10, hrun⟩ := chk9 hrun
      refine va_iald hx hb hK hP 29 25 rfl rfl (ixb_in hq10) dX3_moveInCode_59 ?_
      refine lv_istore (lv' := [(5, .int (((p0_6_1w 1) 4) (nn (p0w 12 (nn ((p0w 0 9) - 1)))))), (4, .int (((p0w 0 9) - 1) * 320)), (3, .int (p0w 12 (nn ((p0w 0 9) - 1)))), (2, .ref (p0_6_1a 1 0)), (1, .int ((p0w 0 9) - 1)), (0, .ref (p0a 0))]) hx hb dX3_moveInCode_60 hl (by decide) rfl (fun ls hl => ?_)
      refine lv_aload_n hx hb dX3_moveInCode_62 rfl (lv_at hl 3 rfl) ?_
      refine va_get (D := (dC, dI)) (ci := 3) (v := .ref ((p0_6_1a 1) 2)) (C := RX9) (T := TX9) (N := 6) hx hb hts i_X9 hown hK hP 26 rfl rfl 1 (by decide) (hts _ qw953) (fun _ h9 => h9) rfl dX3_moveInCode_63 ?_
      refine lv_iload_n hx hb dX3_moveInCode_66 rfl (lv_at hl 2 rfl) ?_
      obtain ⟨hq11, hrun⟩ := chk9 hrun
      refine va_iald hx hb hK hP 27 23 rfl rfl (ixb_in hq11) dX3_moveInCode_67 ?_
      have J353 : ∀ (p0w_353 : ST) (H : Heap) (locs : List Loc) (ls : Array Slot), (fX3_moveInCode_J353 p0w_353) = some o → va_P (dC, dI) cls (List.flatten ([(oX3 (p0a 0) p0a p0k p0n p0w_353), (oX0 (p0a 7) p0_6a p0_6k p0_6n p0_6w), (oX9 (p0_6_1a 0 0) (p0_6_1a 0) (p0_6_1k 0) (p0_6_1n 0) (p0_6_1w 0)), (oX9 (p0_6_1a 1 0) (p0_6_1a 1) (p0_6_1k 1) (p0_6_1n 1) (p0_6_1w 1)), (oX9 (p0_6_1a 2 0) (p0_6_1a 2) (p0_6_1k 2) (p0_6_1n 2) (p0_6_1w 2)), (oX9 (p0_6_1a 3 0) (p0_6_1a 3) (p0_6_1k 3) (p0_6_1n 3) (p0_6_1w 3)), (oX9 (p0_6_1a 4 0) (p0_6_1a 4) (p0_6_1k 4) (p0_6_1n 4) (p0_6_1w 4)), (oX9 (p0_6_1a 5 0) (p0_6_1a 5) (p0_6_1k 5) (p0_6_1n 5) (p0_6_1w 5)), (oX6 (p0a 5) p0_4a p0_4k p0_4w p0_4l), [((p0_6a 2), .inl (p0_6_1c, 6, .inr (.inr (.inr (.inr (fun i => some (p0_6_1a i 0)))))))]] : List va_W)) H → va_D A (List.flatten ([(oX3 (p0a 0) p0a p0k p0n p0w_353), (oX0 (p0a 7) p0_6a p0_6k p0_6n p0_6w), (oX9 (p0_6_1a 0 0) (p0_6_1a 0) (p0_6_1k 0) (p0_6_1n 0) (p0_6_1w 0)), (oX9 (p0_6_1a 1 0) (p0_6_1a 1) (p0_6_1k 1) (p0_6_1n 1) (p0_6_1w 1)), (oX9 (p0_6_1a 2 0) (p0_6_1a 2) (p0_6_1k 2) (p0_6_1n 2) (p0_6_1w 2)), (oX9 (p0_6_1a 3 0) (p0_6_1a 3) (p0_6_1k 3) (p0_6_1n 3) (p0_6_1w 3)), (oX9 (p0_6_1a 4 0) (p0_6_1a 4) (p0_6_1k 4) (p0_6_1n 4) (p0_6_1w 4)), (oX9 (p0_6_1a 5 0) (p0_6_1a 5) (p0_6_1k 5) (p0_6_1n 5) (p0_6_1w 5)), (oX6 (p0a 5) p0_4a p0_4k p0_4w p0_4l), [((p0_6a 2), .inl (p0_6_1c, 6, .inr (.inr (.inr (.inr (fun i => some (p0_6_1a i 0)))))))]] : List va_W)) → va_K (dC, dI) cls (List.flatten ([(tX3 p0k), (tX0 p0_6k), (tX9 (p0_6_1k 0)), (tX9 (p0_6_1k 1)), (tX9 (p0_6_1k 2)), (tX9 (p0_6_1k 3)), (tX9 (p0_6_1k 4)), (tX9 (p0_6_1k 5)), (tX6 p0_4k), [(p0_6_1c, .object RX9)]] : List (List (ClassId × FieldType)))) s → va_S A s.heap H locs → lv_has ls 9 [] → W p l e ({ frames := 5, cells := 0, slots := 0, locals := 120 } : Room) s m ([.ref (p0a 0)] : List Value).toArray below meth c H locs 0 0 Q (F0 m 353 ls []) := by
        intro p0w_353 H locs ls hrun hP hD hK hS hl 
        unfold fX3_moveInCode_J353 at hrun
        have ho9 : p0w_353 = o := Option.some.inj hrun
        have hP9 : va_P (dC, dI) cls (List.flatten ([(oX3 (p0a 0) p0a p0k p0n o), (oX0 (p0a 7) p0_6a p0_6k p0_6n p0_6w), (oX9 (p0_6_1a 0 0) (p0_6_1a 0) (p0_6_1k 0) (p0_6_1n 0) (p0_6_1w 0)), (oX9 (p0_6_1a 1 0) (p0_6_1a 1) (p0_6_1k 1) (p0_6_1n 1) (p0_6_1w 1)), (oX9 (p0_6_1a 2 0) (p0_6_1a 2) (p0_6_1k 2) (p0_6_1n 2) (p0_6_1w 2)), (oX9 (p0_6_1a 3 0) (p0_6_1a 3) (p0_6_1k 3) (p0_6_1n 3) (p0_6_1w 3)), (oX9 (p0_6_1a 4 0) (p0_6_1a 4) (p0_6_1k 4) (p0_6_1n 4) (p0_6_1w 4)), (oX9 (p0_6_1a 5 0) (p0_6_1a 5) (p0_6_1k 5) (p0_6_1n 5) (p0_6_1w 5)), (oX6 (p0a 5) p0_4a p0_4k p0_4w p0_4l), [((p0_6a 2), .inl (p0_6_1c, 6, .inr (.inr (.inr (.inr (fun i => some (p0_6_1a i 0)))))))]] : List va_W)) H := by first | exact hP | (rw [← ho9]; exact hP)
        have hD9 : va_D A (List.flatten ([(oX3 (p0a 0) p0a p0k p0n o), (oX0 (p0a 7) p0_6a p0_6k p0_6n p0_6w), (oX9 (p0_6_1a 0 0) (p0_6_1a 0) (p0_6_1k 0) (p0_6_1n 0) (p0_6_1w 0)), (oX9 (p0_6_1a 1 0) (p0_6_1a 1) (p0_6_1k 1) (p0_6_1n 1) (p0_6_1w 1)), (oX9 (p0_6_1a 2 0) (p0_6_1a 2) (p0_6_1k 2) (p0_6_1n 2) (p0_6_1w 2)), (oX9 (p0_6_1a 3 0) (p0_6_1a 3) (p0_6_1k 3) (p0_6_1n 3) (p0_6_1w 3)), (oX9 (p0_6_1a 4 0) (p0_6_1a 4) (p0_6_1k 4) (p0_6_1n 4) (p0_6_1w 4)), (oX9 (p0_6_1a 5 0) (p0_6_1a 5) (p0_6_1k 5) (p0_6_1n 5) (p0_6_1w 5)), (oX6 (p0a 5) p0_4a p0_4k p0_4w p0_4l), [((p0_6a 2), .inl (p0_6_1c, 6, .inr (.inr (.inr (.inr (fun i => some (p0_6_1a i 0)))))))]] : List va_W)) := by first | exact hD | (rw [← ho9]; exact hD)
        subst hQ
        exact W.vret hx hb hr (fun t ht hW => ⟨⟨(), rfl, trivial, ⟨by rw [ht]; exact hP9, va_K.moved hW.alike hK, hD9⟩⟩, hS.F ht⟩) hS.2.2 dX3_moveInCode_353
      rcases br9 hrun with ⟨hc12, hrun⟩ | ⟨hc12, hrun⟩
      · refine lv_tableIn (off := 44) (tgt := 112) hx hb dX3_moveInCode_68 (by rw [hc12]; decide) (by rw [hc12]; decide) (by rw [hc12]; rfl) (by decide) ?_
        refine lv_aload_n hx hb dX3_moveInCode_112 rfl (lv_at hl 5 rfl) ?_
        refine va_get (D := (dC, dI)) (ci := 10) (v := .ref (p0a 12)) (C := RX3) (T := TX3) (N := 20) hx hb hts i_X3 hown hK hP 0 rfl rfl 11 (by decide) (hts _ qw915) (fun _ h9 => h9) rfl dX3_moveInCode_113 ?_
        refine lv_iload_n hx hb dX3_moveInCode_116 rfl (lv_at hl 4 rfl) ?_
        refine lv_iload hx hb dX3_moveInCode_117 (lv_at hl 0 rfl) ?_
        obtain ⟨hq13, hrun⟩ := chk9 hrun
        refine va_iast hx hb hK hP hD hS 4 3 rfl rfl (ixb_in hq13) dX3_moveInCode_119 (fun H locs hP hD hS => ?_)
        have hP : va_P (dC, dI) cls (List.flatten ([(oX3 (p0a 0) p0a p0k p0n (upw w9 12 (nn ((p0w 0 9) - 1)) (((p0_6_1w 1) 4) (nn (p0w 12 (nn ((p0w 0 9) - 1))))))), (oX0 (p0a 7) p0_6a p0_6k p0_6n p0_6w), (oX9 (p0_6_1a 0 0) (p0_6_1a 0) (p0_6_1k 0) (p0_6_1n 0) (p0_6_1w 0)), (oX9 (p0_6_1a 1 0) (p0_6_1a 1) (p0_6_1k 1) (p0_6_1n 1) (p0_6_1w 1)), (oX9 (p0_6_1a 2 0) (p0_6_1a 2) (p0_6_1k 2) (p0_6_1n 2) (p0_6_1w 2)), (oX9 (p0_6_1a 3 0) (p0_6_1a 3) (p0_6_1k 3) (p0_6_1n 3) (p0_6_1w 3)), (oX9 (p0_6_1a 4 0) (p0_6_1a 4) (p0_6_1k 4) (p0_6_1n 4) (p0_6_1w 4)), (oX9 (p0_6_1a 5 0) (p0_6_1a 5) (p0_6_1k 5) (p0_6_1n 5) (p0_6_1w 5)), (oX6 (p0a 5) p0_4a p0_4k p0_4w p0_4l), [((p0_6a 2), .inl (p0_6_1c, 6, .inr (.inr (.inr (.inr (fun i => some (p0_6_1a i 0)))))))]] : List va_W)) H := hP
        have hD : va_D A (List.flatten ([(oX3 (p0a 0) p0a p0k p0n (upw w9 12 (nn ((p0w 0 9) - 1)) (((p0_6_1w 1) 4) (nn (p0w 12 (nn ((p0w 0 9) - 1))))))), (oX0 (p0a 7) p0_6a p0_6k p0_6n p0_6w), (oX9 (p0_6_1a 0 0) (p0_6_1a 0) (p0_6_1k 0) (p0_6_1n 0) (p0_6_1w 0)), (oX9 (p0_6_1a 1 0) (p0_6_1a 1) (p0_6_1k 1) (p0_6_1n 1) (p0_6_1w 1)), (oX9 (p0_6_1a 2 0) (p0_6_1a 2) (p0_6_1k 2) (p0_6_1n 2) (p0_6_1w 2)), (oX9 (p0_6_1a 3 0) (p0_6_1a 3) (p0_6_1k 3) (p0_6_1n 3) (p0_6_1w 3)), (oX9 (p0_6_1a 4 0) (p0_6_1a 4) (p0_6_1k 4) (p0_6_1n 4) (p0_6_1w 4)), (oX9 (p0_6_1a 5 0) (p0_6_1a 5) (p0_6_1k 5) (p0_6_1n 5) (p0_6_1w 5)), (oX6 (p0a 5) p0_4a p0_4k p0_4w p0_4l), [((p0_6a 2), .inl (p0_6_1c, 6, .inr (.inr (.inr (.inr (fun i => some (p0_6_1a i 0)))))))]] : List va_W)) := hD
        obtain ⟨w14, ew14, hrun⟩ := let9 hrun
        rw [← ew14] at hP hD
        refine lv_goto (tgt := 353) hx hb dX3_moveInCode_120 (by decide) ?_
        exact J353 w14 _ _ _ hrun hP hD hK hS (lv_sub hl [] rfl)
      rcases br9 hrun with ⟨hc15, hrun⟩ | ⟨hc15, hrun⟩
      · refine lv_tableIn (off := 55) (tgt := 123) hx hb dX3_moveInCode_68 (by rw [hc15]; decide) (by rw [hc15]; decide) (by rw [hc15]; rfl) (by decide) ?_
        refine lv_aload_n hx hb dX3_moveInCode_123 rfl (lv_at hl 5 rfl) ?_
        refine va_get (D := (dC, dI)) (ci := 10) (v := .ref (p0a 16)) (C := RX3) (T := TX3) (N := 20) hx hb hts i_X3 hown hK hP 0 rfl rfl 15 (by decide) (hts _ qw906) (fun _ h9 => h9) rfl dX3_moveInCode_124 ?_
        refine lv_iload hx hb dX3_moveInCode_127 (lv_at hl 1 rfl) ?_
        refine lv_iload hx hb dX3_moveInCode_129 (lv_at hl 0 rfl) ?_
        refine lv_iadd hx hb dX3_moveInCode_131 ?_
        obtain ⟨hq16, hrun⟩ := chk9 hrun
        refine va_iald hx hb hK hP 8 7 rfl rfl (ixb_in hq16) dX3_moveInCode_132 ?_
        rcases br9 hrun with ⟨hc17, hrun⟩ | ⟨hc17, hrun⟩
        · refine lv_if_eq (tgt := 353) hx hb dX3_moveInCode_133 (by decide) (fun _ => ?_) (fun c => absurd hc17 c)
          exact J353 w9 _ _ _ hrun hP hD hK hS (lv_sub hl [] rfl)
        · refine lv_if_eq (tgt := 353) hx hb dX3_moveInCode_133 (by decide) (fun c => absurd c hc17) (fun _ => ?_)
          refine lv_aload_n hx hb dX3_moveInCode_136 rfl (lv_at hl 5 rfl) ?_
          refine va_get (D := (dC, dI)) (ci := 10) (v := .ref (p0a 12)) (C := RX3) (T := TX3) (N := 20) hx hb hts i_X3 hown hK hP 0 rfl rfl 11 (by decide) (hts _ qw915) (fun _ h9 => h9) rfl dX3_moveInCode_137 ?_
          refine lv_iload_n hx hb dX3_moveInCode_140 rfl (lv_at hl 4 rfl) ?_
          refine lv_aload_n hx hb dX3_moveInCode_141 rfl (lv_at hl 3 rfl) ?_
          refine va_get (D := (dC, dI)) (ci := 3) (v := .ref ((p0_6_1a 1) 5)) (C := RX9) (T := TX9) (N := 6) hx hb hts i_X9 hown hK hP 26 rfl rfl 4 (by decide) (hts _ qw967) (fun _ h9 => h9) rfl dX3_moveInCode_142 ?_
          refine lv_iload_n hx hb dX3_moveInCode_145 rfl (lv_at hl 2 rfl) ?_
          obtain ⟨hq18, hrun⟩ := chk9 hrun
          refine va_iald hx hb hK hP 30 26 rfl rfl (ixb_in hq18) dX3_moveInCode_146 ?_
          obtain ⟨hq19, hrun⟩ := chk9 hrun
          refine va_iast hx hb hK hP hD hS 4 3 rfl rfl (ixb_in hq19) dX3_moveInCode_147 (fun H locs hP hD hS => ?_)
          have hP : va_P (dC, dI) cls (List.flatten ([(oX3 (p0a 0) p0a p0k p0n (upw w9 12 (nn ((p0w 0 9) - 1)) (((p0_6_1w 1) 5) (nn (p0w 12 (nn ((p0w 0 9) - 1))))))), (oX0 (p0a 7) p0_6a p0_6k p0_6n p0_6w), (oX9 (p0_6_1a 0 0) (p0_6_1a 0) (p0_6_1k 0) (p0_6_1n 0) (p0_6_1w 0)), (oX9 (p0_6_1a 1 0) (p0_6_1a 1) (p0_6_1k 1) (p0_6_1n 1) (p0_6_1w 1)), (oX9 (p0_6_1a 2 0) (p0_6_1a 2) (p0_6_1k 2) (p0_6_1n 2) (p0_6_1w 2)), (oX9 (p0_6_1a 3 0) (p0_6_1a 3) (p0_6_1k 3) (p0_6_1n 3) (p0_6_1w 3)), (oX9 (p0_6_1a 4 0) (p0_6_1a 4) (p0_6_1k 4) (p0_6_1n 4) (p0_6_1w 4)), (oX9 (p0_6_1a 5 0) (p0_6_1a 5) (p0_6_1k 5) (p0_6_1n 5) (p0_6_1w 5)), (oX6 (p0a 5) p0_4a p0_4k p0_4w p0_4l), [((p0_6a 2), .inl (p0_6_1c, 6, .inr (.inr (.inr (.inr (fun i => some (p0_6_1a i 0)))))))]] : List va_W)) H := hP
          have hD : va_D A (List.flatten ([(oX3 (p0a 0) p0a p0k p0n (upw w9 12 (nn ((p0w 0 9) - 1)) (((p0_6_1w 1) 5) (nn (p0w 12 (nn ((p0w 0 9) - 1))))))), (oX0 (p0a 7) p0_6a p0_6k p0_6n p0_6w), (oX9 (p0_6_1a 0 0) (p0_6_1a 0) (p0_6_1k 0) (p0_6_1n 0) (p0_6_1w 0)), (oX9 (p0_6_1a 1 0) (p0_6_1a 1) (p0_6_1k 1) (p0_6_1n 1) (p0_6_1w 1)), (oX9 (p0_6_1a 2 0) (p0_6_1a 2) (p0_6_1k 2) (p0_6_1n 2) (p0_6_1w 2)), (oX9 (p0_6_1a 3 0) (p0_6_1a 3) (p0_6_1k 3) (p0_6_1n 3) (p0_6_1w 3)), (oX9 (p0_6_1a 4 0) (p0_6_1a 4) (p0_6_1k 4) (p0_6_1n 4) (p0_6_1w 4)), (oX9 (p0_6_1a 5 0) (p0_6_1a 5) (p0_6_1k 5) (p0_6_1n 5) (p0_6_1w 5)), (oX6 (p0a 5) p0_4a p0_4k p0_4w p0_4l), [((p0_6a 2), .inl (p0_6_1c, 6, .inr (.inr (.inr (.inr (fun i => some (p0_6_1a i 0)))))))]] : List va_W)) := hD
          obtain ⟨w20, ew20, hrun⟩ := let9 hrun
          rw [← ew20] at hP hD
          refine lv_goto (tgt := 353) hx hb dX3_moveInCode_148 (by decide) ?_
          exact J353 w20 _ _ _ hrun hP hD hK hS (lv_sub hl [] rfl)
      rcases br9 hrun with ⟨hc21, hrun⟩ | ⟨hc21, hrun⟩
      · refine lv_tableIn (off := 111) (tgt := 179) hx hb dX3_moveInCode_68 (by rw [hc21]; decide) (by rw [hc21]; decide) (by rw [hc21]; rfl) (by decide) ?_
        refine lv_aload_n hx hb dX3_moveInCode_179 rfl (lv_at hl 5 rfl) ?_
        refine va_get (D := (dC, dI)) (ci := 10) (v := .ref (p0a 16)) (C := RX3) (T := TX3) (N := 20) hx hb hts i_X3 hown hK hP 0 rfl rfl 15 (by decide) (hts _ qw906) (fun _ h9 => h9) rfl dX3_moveInCode_180 ?_
        refine lv_iload hx hb dX3_moveInCode_183 (lv_at hl 1 rfl) ?_
        refine lv_iload hx hb dX3_moveInCode_185 (lv_at hl 0 rfl) ?_
        refine lv_iadd hx hb dX3_moveInCode_187 ?_
        obtain ⟨hq22, hrun⟩ := chk9 hrun
        refine va_iald hx hb hK hP 8 7 rfl rfl (ixb_in hq22) dX3_moveInCode_188 ?_
        refine lv_istore (lv' := [(6, .int (w9 16 (nn ((((p0w 0 9) - 1) * 320) + (((p0_6_1w 1) 4) (nn (p0w 12 (nn ((p0w 0 9) - 1))))))))), (5, .int (((p0_6_1w 1) 4) (nn (p0w 12 (nn ((p0w 0 9) - 1)))))), (4, .int (((p0w 0 9) - 1) * 320)), (3, .int (p0w 12 (nn ((p0w 0 9) - 1)))), (2, .ref (p0_6_1a 1 0)), (1, .int ((p0w 0 9) - 1)), (0, .ref (p0a 0))]) hx hb dX3_moveInCode_189 hl (by decide) rfl (fun ls hl => ?_)
        refine lv_aload_n hx hb dX3_moveInCode_191 rfl (lv_at hl 6 rfl) ?_
        refine lv_iload hx hb dX3_moveInCode_192 (lv_at hl 0 rfl) ?_
        obtain ⟨o_23, hc_23, hrun⟩ := bnd9 hrun
        have hPx : va_P (dC, dI) cls ((List.flatten ([(oX3 (p0a 0) p0a p0k p0n w9)] : List va_W)) ++ (List.flatten ([(oX0 (p0a 7) p0_6a p0_6k p0_6n p0_6w), (oX9 (p0_6_1a 0 0) (p0_6_1a 0) (p0_6_1k 0) (p0_6_1n 0) (p0_6_1w 0)), (oX9 (p0_6_1a 1 0) (p0_6_1a 1) (p0_6_1k 1) (p0_6_1n 1) (p0_6_1w 1)), (oX9 (p0_6_1a 2 0) (p0_6_1a 2) (p0_6_1k 2) (p0_6_1n 2) (p0_6_1w 2)), (oX9 (p0_6_1a 3 0) (p0_6_1a 3) (p0_6_1k 3) (p0_6_1n 3) (p0_6_1w 3)), (oX9 (p0_6_1a 4 0) (p0_6_1a 4) (p0_6_1k 4) (p0_6_1n 4) (p0_6_1w 4)), (oX9 (p0_6_1a 5 0) (p0_6_1a 5) (p0_6_1k 5) (p0_6_1n 5) (p0_6_1w 5)), (oX6 (p0a 5) p0_4a p0_4k p0_4w p0_4l), [((p0_6a 2), .inl (p0_6_1c, 6, .inr (.inr (.inr (.inr (fun i => some (p0_6_1a i 0)))))))]] : List va_W))) H := vP_fa (vP_perm hP (bP (List.Perm.refl _)))
        have hDx : va_D A ((List.flatten ([(oX3 (p0a 0) p0a p0k p0n w9)] : List va_W)) ++ (List.flatten ([(oX0 (p0a 7) p0_6a p0_6k p0_6n p0_6w), (oX9 (p0_6_1a 0 0) (p0_6_1a 0) (p0_6_1k 0) (p0_6_1n 0) (p0_6_1w 0)), (oX9 (p0_6_1a 1 0) (p0_6_1a 1) (p0_6_1k 1) (p0_6_1n 1) (p0_6_1w 1)), (oX9 (p0_6_1a 2 0) (p0_6_1a 2) (p0_6_1k 2) (p0_6_1n 2) (p0_6_1w 2)), (oX9 (p0_6_1a 3 0) (p0_6_1a 3) (p0_6_1k 3) (p0_6_1n 3) (p0_6_1w 3)), (oX9 (p0_6_1a 4 0) (p0_6_1a 4) (p0_6_1k 4) (p0_6_1n 4) (p0_6_1w 4)), (oX9 (p0_6_1a 5 0) (p0_6_1a 5) (p0_6_1k 5) (p0_6_1n 5) (p0_6_1w 5)), (oX6 (p0a 5) p0_4a p0_4k p0_4w p0_4l), [((p0_6a 2), .inl (p0_6_1c, 6, .inr (.inr (.inr (.inr (fun i => some (p0_6_1a i 0)))))))]] : List va_W))) := vD_fa (vD_perm hD (bP (List.Perm.refl _)))
        have hKx : va_K (dC, dI) cls ((List.flatten ([(tX3 p0k)] : List (List (ClassId × FieldType)))) ++ (List.flatten ([(tX0 p0_6k), (tX9 (p0_6_1k 0)), (tX9 (p0_6_1k 1)), (tX9 (p0_6_1k 2)), (tX9 (p0_6_1k 3)), (tX9 (p0_6_1k 4)), (tX9 (p0_6_1k 5)), (tX6 p0_4k), [(p0_6_1c, .object RX9)]] : List (List (ClassId × FieldType))))) s := vK_fa (vK_perm hK (bP (List.Perm.refl _)))
        have hPc := vP_l hPx
        have hDc := vD_l hDx
        have hKc := vK_l hKx
        have hFc := vfree hDx hS hA
        refine va_calli (va_runV (As := [.int (w9 16 (nn ((((p0w 0 9) - 1) * 320) + (((p0_6_1w 1) 4) (nn (p0w 12 (nn ((p0w 0 9) - 1))))))))]) (rest := []) ⟨hx, hb, hml, hown, hts⟩ (kX3_close l dC dI (p0a := p0a) (p0k := p0k) (p0n := p0n) (p0w := w9) (p1 := (w9 16 (nn ((((p0w 0 9) - 1) * 320) + (((p0_6_1w 1) 4) (nn (p0w 12 (nn ((p0w 0 9) - 1))))))))) (sz := _) (o := o_23) (hrun := hc_23)) (cwV 1 hts (gi_V qw909 qw910 qw911 qw903 (gi_z qw908)) rfl rfl rfl (by decide +kernel) ⟨Nat.le_of_ble_eq_true rfl, Nat.le_of_ble_eq_true rfl⟩) ⟨PRE.blind, va_recv hKc hPc (ci := 10) (q0 := 0) rfl rfl, PRE.of hE hS hFc hPc hKc hDc⟩ rfl rfl hl.1 rfl (lv_room (Nat.le_of_ble_eq_true rfl)) dX3_moveInCode_194 ⟨(Nat.le_of_ble_eq_true rfl), (Nat.le_of_ble_eq_true rfl)⟩) hS (fun q _ h => hFc q h) hFc (fun r24 u t H locs ht hvm hw hB hz1 hk1 hS => ?_)
        obtain ⟨b1, b2, b3⟩ := hB
        rw [ht] at b1
        obtain ⟨hP, hD, hK⟩ := JOINC (wc := (List.flatten ([(oX3 (p0a 0) p0a p0k p0n w9)] : List va_W))) (wr := (List.flatten ([(oX0 (p0a 7) p0_6a p0_6k p0_6n p0_6w), (oX9 (p0_6_1a 0 0) (p0_6_1a 0) (p0_6_1k 0) (p0_6_1n 0) (p0_6_1w 0)), (oX9 (p0_6_1a 1 0) (p0_6_1a 1) (p0_6_1k 1) (p0_6_1n 1) (p0_6_1w 1)), (oX9 (p0_6_1a 2 0) (p0_6_1a 2) (p0_6_1k 2) (p0_6_1n 2) (p0_6_1w 2)), (oX9 (p0_6_1a 3 0) (p0_6_1a 3) (p0_6_1k 3) (p0_6_1n 3) (p0_6_1w 3)), (oX9 (p0_6_1a 4 0) (p0_6_1a 4) (p0_6_1k 4) (p0_6_1n 4) (p0_6_1w 4)), (oX9 (p0_6_1a 5 0) (p0_6_1a 5) (p0_6_1k 5) (p0_6_1n 5) (p0_6_1w 5)), (oX6 (p0a 5) p0_4a p0_4k p0_4w p0_4l), [((p0_6a 2), .inl (p0_6_1c, 6, .inr (.inr (.inr (.inr (fun i => some (p0_6_1a i 0)))))))]] : List va_W))) (w1 := (List.flatten ([(oX3 (p0a 0) p0a p0k p0n (o_23.2))] : List va_W))) (t1 := (List.flatten ([(tX3 p0k)] : List (List (ClassId × FieldType))))) hPx hDx hKx hk1 hFc b1 (va_K.moved hvm.symm b2) b3
        have hP : va_P (dC, dI) cls (List.flatten ([(oX3 (p0a 0) p0a p0k p0n (o_23.2)), (oX0 (p0a 7) p0_6a p0_6k p0_6n p0_6w), (oX9 (p0_6_1a 0 0) (p0_6_1a 0) (p0_6_1k 0) (p0_6_1n 0) (p0_6_1w 0)), (oX9 (p0_6_1a 1 0) (p0_6_1a 1) (p0_6_1k 1) (p0_6_1n 1) (p0_6_1w 1)), (oX9 (p0_6_1a 2 0) (p0_6_1a 2) (p0_6_1k 2) (p0_6_1n 2) (p0_6_1w 2)), (oX9 (p0_6_1a 3 0) (p0_6_1a 3) (p0_6_1k 3) (p0_6_1n 3) (p0_6_1w 3)), (oX9 (p0_6_1a 4 0) (p0_6_1a 4) (p0_6_1k 4) (p0_6_1n 4) (p0_6_1w 4)), (oX9 (p0_6_1a 5 0) (p0_6_1a 5) (p0_6_1k 5) (p0_6_1n 5) (p0_6_1w 5)), (oX6 (p0a 5) p0_4a p0_4k p0_4w p0_4l), [((p0_6a 2), .inl (p0_6_1c, 6, .inr (.inr (.inr (.inr (fun i => some (p0_6_1a i 0)))))))]] : List va_W)) H := vP_perm (vP_fb hP) (bP (List.Perm.refl _))
        have hD : va_D A (List.flatten ([(oX3 (p0a 0) p0a p0k p0n (o_23.2)), (oX0 (p0a 7) p0_6a p0_6k p0_6n p0_6w), (oX9 (p0_6_1a 0 0) (p0_6_1a 0) (p0_6_1k 0) (p0_6_1n 0) (p0_6_1w 0)), (oX9 (p0_6_1a 1 0) (p0_6_1a 1) (p0_6_1k 1) (p0_6_1n 1) (p0_6_1w 1)), (oX9 (p0_6_1a 2 0) (p0_6_1a 2) (p0_6_1k 2) (p0_6_1n 2) (p0_6_1w 2)), (oX9 (p0_6_1a 3 0) (p0_6_1a 3) (p0_6_1k 3) (p0_6_1n 3) (p0_6_1w 3)), (oX9 (p0_6_1a 4 0) (p0_6_1a 4) (p0_6_1k 4) (p0_6_1n 4) (p0_6_1w 4)), (oX9 (p0_6_1a 5 0) (p0_6_1a 5) (p0_6_1k 5) (p0_6_1n 5) (p0_6_1w 5)), (oX6 (p0a 5) p0_4a p0_4k p0_4w p0_4l), [((p0_6a 2), .inl (p0_6_1c, 6, .inr (.inr (.inr (.inr (fun i => some (p0_6_1a i 0)))))))]] : List va_W)) := vD_perm (vD_fb hD) (bP (List.Perm.refl _))
        have hK : va_K (dC, dI) cls (List.flatten ([(tX3 p0k), (tX0 p0_6k), (tX9 (p0_6_1k 0)), (tX9 (p0_6_1k 1)), (tX9 (p0_6_1k 2)), (tX9 (p0_6_1k 3)), (tX9 (p0_6_1k 4)), (tX9 (p0_6_1k 5)), (tX6 p0_4k), [(p0_6_1c, .object RX9)]] : List (List (ClassId × FieldType)))) s := vK_perm (vK_fb hK) (bP (List.Perm.refl _))
        obtain rfl : r24 = (o_23.1) := hw
        rcases br9 hrun with ⟨hc25, hrun⟩ | ⟨hc25, hrun⟩
        · refine lv_if_eq (tgt := 353) hx hb dX3_moveInCode_197 (by decide) (fun _ => ?_) (fun c => absurd hc25 c)
          exact J353 (o_23.2) _ _ _ hrun hP hD hK hS (lv_sub hl [] rfl)
        · refine lv_if_eq (tgt := 353) hx hb dX3_moveInCode_197 (by decide) (fun c => absurd c hc25) (fun _ => ?_)
          refine lv_aload_n hx hb dX3_moveInCode_200 rfl (lv_at hl 6 rfl) ?_
          refine va_get (D := (dC, dI)) (ci := 10) (v := .int ((o_23.2) 0 9)) (C := RX3) (T := TX3) (N := 20) hx hb hts i_X3 hown hK hP 0 rfl rfl 9 (by decide) (hts _ qw897) (fun _ h9 => h9) rfl dX3_moveInCode_201 ?_
          refine lv_iconst (v := 1) hx hb dX3_moveInCode_204 (by decide) ?_
          refine lv_isub hx hb dX3_moveInCode_205 ?_
          refine lv_istore (lv' := [(7, .int (((o_23.2) 0 9) - 1)), (6, .int (w9 16 (nn ((((p0w 0 9) - 1) * 320) + (((p0_6_1w 1) 4) (nn (p0w 12 (nn ((p0w 0 9) - 1))))))))), (5, .int (((p0_6_1w 1) 4) (nn (p0w 12 (nn ((p0w 0 9) - 1)))))), (4, .int (((p0w 0 9) - 1) * 320)), (3, .int (p0w 12 (nn ((p0w 0 9) - 1)))), (2, .ref (p0_6_1a 1 0)), (1, .int ((p0w 0 9) - 1)), (0, .ref (p0a 0))]) hx hb dX3_moveInCode_206 hl (by decide) rfl (fun ls hl => ?_)
          refine lv_aload_n hx hb dX3_moveInCode_208 rfl (lv_at hl 7 rfl) ?_
          refine va_get (D := (dC, dI)) (ci := 10) (v := .ref (p0a 7)) (C := RX3) (T := TX3) (N := 20) hx hb hts i_X3 hown hK hP 0 rfl rfl 6 (by decide) (hts _ qw946) (fun _ h9 => h9) rfl dX3_moveInCode_209 ?_
          refine va_get (D := (dC, dI)) (ci := 8) (v := .ref (p0_6a 2)) (C := RX0) (T := TX0) (N := 17) hx hb hts i_X0 hown hK hP 11 rfl rfl 1 (by decide) (hts _ qw988) (fun _ h9 => h9) rfl dX3_moveInCode_212 ?_
          refine lv_aload_n hx hb dX3_moveInCode_215 rfl (lv_at hl 7 rfl) ?_
          refine va_get (D := (dC, dI)) (ci := 10) (v := .ref (p0a 11)) (C := RX3) (T := TX3) (N := 20) hx hb hts i_X3 hown hK hP 0 rfl rfl 10 (by decide) (hts _ qw913) (fun _ h9 => h9) rfl dX3_moveInCode_216 ?_
          refine lv_iload hx hb dX3_moveInCode_219 (lv_at hl 0 rfl) ?_
          obtain ⟨hq26, hrun⟩ := chk9 hrun
          refine va_iald hx hb hK hP 3 2 rfl rfl (ixb_in hq26) dX3_moveInCode_221 ?_
          obtain ⟨hq27, hrun⟩ := chk9 hrun
          refine va_aldq hx hb hK hP 67 58 rfl rfl (ixb_in hq27) dX3_moveInCode_222 ?_
          obtain ⟨i28, ei28, hrun⟩ := let9 hrun
          have hi_i28 : i28 < 6 := by rw [ei28]; exact ixb_lt hq27
          have es_i28 : Int32.toNatClampNeg (((o_23.2) 11) (nn (((o_23.2) 0 9) - 1))) = i28 := ei28.symm
          rw [es_i28]
          clear ei28
          rcases lt6 hi_i28 with rfl | rfl | rfl | rfl | rfl | rfl
          · refine W.eq (g2 := F0 m 223 ls [.ref (p0_6_1a 0 0)]) rfl ?_
            refine va_get (D := (dC, dI)) (ci := 3) (v := .ref ((p0_6_1a 0) 3)) (C := RX9) (T := TX9) (N := 6) hx hb hts i_X9 hown hK hP 20 rfl rfl 2 (by decide) (hts _ qw918) (fun _ h9 => h9) rfl dX3_moveInCode_223 ?_
            refine lv_aload_n hx hb dX3_moveInCode_226 rfl (lv_at hl 7 rfl) ?_
            refine va_get (D := (dC, dI)) (ci := 10) (v := .ref (p0a 12)) (C := RX3) (T := TX3) (N := 20) hx hb hts i_X3 hown hK hP 0 rfl rfl 11 (by decide) (hts _ qw915) (fun _ h9 => h9) rfl dX3_moveInCode_227 ?_
            refine lv_iload hx hb dX3_moveInCode_230 (lv_at hl 0 rfl) ?_
            obtain ⟨hq29, hrun⟩ := chk9 hrun
            refine va_iald hx hb hK hP 4 3 rfl rfl (ixb_in hq29) dX3_moveInCode_232 ?_
            refine lv_iconst (v := 1) hx hb dX3_moveInCode_233 (by decide) ?_
            refine lv_isub hx hb dX3_moveInCode_234 ?_
            obtain ⟨hq30, hrun⟩ := chk9 hrun
            refine va_iald hx hb hK hP 22 19 rfl rfl (ixb_in hq30) dX3_moveInCode_235 ?_
            refine lv_istore (lv' := [(8, .int (((p0_6_1w 0) 3) (nn ((((o_23.2) 12) (nn (((o_23.2) 0 9) - 1))) - 1)))), (7, .int (((o_23.2) 0 9) - 1)), (6, .int (w9 16 (nn ((((p0w 0 9) - 1) * 320) + (((p0_6_1w 1) 4) (nn (p0w 12 (nn ((p0w 0 9) - 1))))))))), (5, .int (((p0_6_1w 1) 4) (nn (p0w 12 (nn ((p0w 0 9) - 1)))))), (4, .int (((p0w 0 9) - 1) * 320)), (3, .int (p0w 12 (nn ((p0w 0 9) - 1)))), (2, .ref (p0_6_1a 1 0)), (1, .int ((p0w 0 9) - 1)), (0, .ref (p0a 0))]) hx hb dX3_moveInCode_236 hl (by decide) rfl (fun ls hl => ?_)
            refine lv_aload_n hx hb dX3_moveInCode_238 rfl (lv_at hl 8 rfl) ?_
            refine va_get (D := (dC, dI)) (ci := 10) (v := .ref (p0a 16)) (C := RX3) (T := TX3) (N := 20) hx hb hts i_X3 hown hK hP 0 rfl rfl 15 (by decide) (hts _ qw906) (fun _ h9 => h9) rfl dX3_moveInCode_239 ?_
            refine lv_iload hx hb dX3_moveInCode_242 (lv_at hl 1 rfl) ?_
            refine lv_sipush (v := 320) hx hb dX3_moveInCode_244 (by decide) ?_
            refine lv_imul hx hb dX3_moveInCode_247 ?_
            refine lv_iload hx hb dX3_moveInCode_248 (lv_at hl 0 rfl) ?_
            refine lv_iadd hx hb dX3_moveInCode_250 ?_
            refine lv_iload hx hb dX3_moveInCode_251 (lv_at hl 2 rfl) ?_
            obtain ⟨hq31, hrun⟩ := chk9 hrun
            refine va_iast hx hb hK hP hD hS 8 7 rfl rfl (ixb_in hq31) dX3_moveInCode_253 (fun H locs hP hD hS => ?_)
            have hP : va_P (dC, dI) cls (List.flatten ([(oX3 (p0a 0) p0a p0k p0n (upw (o_23.2) 16 (nn (((((o_23.2) 0 9) - 1) * 320) + (((p0_6_1w 0) 3) (nn ((((o_23.2) 12) (nn (((o_23.2) 0 9) - 1))) - 1))))) (w9 16 (nn ((((p0w 0 9) - 1) * 320) + (((p0_6_1w 1) 4) (nn (p0w 12 (nn ((p0w 0 9) - 1)))))))))), (oX0 (p0a 7) p0_6a p0_6k p0_6n p0_6w), (oX9 (p0_6_1a 0 0) (p0_6_1a 0) (p0_6_1k 0) (p0_6_1n 0) (p0_6_1w 0)), (oX9 (p0_6_1a 1 0) (p0_6_1a 1) (p0_6_1k 1) (p0_6_1n 1) (p0_6_1w 1)), (oX9 (p0_6_1a 2 0) (p0_6_1a 2) (p0_6_1k 2) (p0_6_1n 2) (p0_6_1w 2)), (oX9 (p0_6_1a 3 0) (p0_6_1a 3) (p0_6_1k 3) (p0_6_1n 3) (p0_6_1w 3)), (oX9 (p0_6_1a 4 0) (p0_6_1a 4) (p0_6_1k 4) (p0_6_1n 4) (p0_6_1w 4)), (oX9 (p0_6_1a 5 0) (p0_6_1a 5) (p0_6_1k 5) (p0_6_1n 5) (p0_6_1w 5)), (oX6 (p0a 5) p0_4a p0_4k p0_4w p0_4l), [((p0_6a 2), .inl (p0_6_1c, 6, .inr (.inr (.inr (.inr (fun i => some (p0_6_1a i 0)))))))]] : List va_W)) H := hP
            have hD : va_D A (List.flatten ([(oX3 (p0a 0) p0a p0k p0n (upw (o_23.2) 16 (nn (((((o_23.2) 0 9) - 1) * 320) + (((p0_6_1w 0) 3) (nn ((((o_23.2) 12) (nn (((o_23.2) 0 9) - 1))) - 1))))) (w9 16 (nn ((((p0w 0 9) - 1) * 320) + (((p0_6_1w 1) 4) (nn (p0w 12 (nn ((p0w 0 9) - 1)))))))))), (oX0 (p0a 7) p0_6a p0_6k p0_6n p0_6w), (oX9 (p0_6_1a 0 0) (p0_6_1a 0) (p0_6_1k 0) (p0_6_1n 0) (p0_6_1w 0)), (oX9 (p0_6_1a 1 0) (p0_6_1a 1) (p0_6_1k 1) (p0_6_1n 1) (p0_6_1w 1)), (oX9 (p0_6_1a 2 0) (p0_6_1a 2) (p0_6_1k 2) (p0_6_1n 2) (p0_6_1w 2)), (oX9 (p0_6_1a 3 0) (p0_6_1a 3) (p0_6_1k 3) (p0_6_1n 3) (p0_6_1w 3)), (oX9 (p0_6_1a 4 0) (p0_6_1a 4) (p0_6_1k 4) (p0_6_1n 4) (p0_6_1w 4)), (oX9 (p0_6_1a 5 0) (p0_6_1a 5) (p0_6_1k 5) (p0_6_1n 5) (p0_6_1w 5)), (oX6 (p0a 5) p0_4a p0_4k p0_4w p0_4l), [((p0_6a 2), .inl (p0_6_1c, 6, .inr (.inr (.inr (.inr (fun i => some (p0_6_1a i 0)))))))]] : List va_W)) := hD
            obtain ⟨w32, ew32, hrun⟩ := let9 hrun
            rw [← ew32] at hP hD
            refine lv_goto (tgt := 353) hx hb dX3_moveInCode_254 (by decide) ?_
            exact J353 w32 _ _ _ hrun hP hD hK hS (lv_sub hl [] rfl)
          · refine W.eq (g2 := F0 m 223 ls [.ref (p0_6_1a 1 0)]) rfl ?_
            refine va_get (D := (dC, dI)) (ci := 3) (v := .ref ((p0_6_1a 1) 3)) (C := RX9) (T := TX9) (N := 6) hx hb hts i_X9 hown hK hP 26 rfl rfl 2 (by decide) (hts _ qw918) (fun _ h9 => h9) rfl dX3_moveInCode_223 ?_
            refine lv_aload_n hx hb dX3_moveInCode_226 rfl (lv_at hl 7 rfl) ?_
            refine va_get (D := (dC, dI)) (ci := 10) (v := .ref (p0a 12)) (C := RX3) (T := TX3) (N := 20) hx hb hts i_X3 hown hK hP 0 rfl rfl 11 (by decide) (hts _ qw915) (fun _ h9 => h9) rfl dX3_moveInCode_227 ?_
            refine lv_iload hx hb dX3_moveInCode_230 (lv_at hl 0 rfl) ?_
            obtain ⟨hq29, hrun⟩ := chk9 hrun
            refine va_iald hx hb hK hP 4 3 rfl rfl (ixb_in hq29) dX3_moveInCode_232 ?_
            refine lv_iconst (v := 1) hx hb dX3_moveInCode_233 (by decide) ?_
            refine lv_isub hx hb dX3_moveInCode_234 ?_
            obtain ⟨hq30, hrun⟩ := chk9 hrun
            refine va_iald hx hb hK hP 28 24 rfl rfl (ixb_in hq30) dX3_moveInCode_235 ?_
            refine lv_istore (lv' := [(8, .int (((p0_6_1w 1) 3) (nn ((((o_23.2) 12) (nn (((o_23.2) 0 9) - 1))) - 1)))), (7, .int (((o_23.2) 0 9) - 1)), (6, .int (w9 16 (nn ((((p0w 0 9) - 1) * 320) + (((p0_6_1w 1) 4) (nn (p0w 12 (nn ((p0w 0 9) - 1))))))))), (5, .int (((p0_6_1w 1) 4) (nn (p0w 12 (nn ((p0w 0 9) - 1)))))), (4, .int (((p0w 0 9) - 1) * 320)), (3, .int (p0w 12 (nn ((p0w 0 9) - 1)))), (2, .ref (p0_6_1a 1 0)), (1, .int ((p0w 0 9) - 1)), (0, .ref (p0a 0))]) hx hb dX3_moveInCode_236 hl (by decide) rfl (fun ls hl => ?_)
            refine lv_aload_n hx hb dX3_moveInCode_238 rfl (lv_at hl 8 rfl) ?_
            refine va_get (D := (dC, dI)) (ci := 10) (v := .ref (p0a 16)) (C := RX3) (T := TX3) (N := 20) hx hb hts i_X3 hown hK hP 0 rfl rfl 15 (by decide) (hts _ qw906) (fun _ h9 => h9) rfl dX3_moveInCode_239 ?_
            refine lv_iload hx hb dX3_moveInCode_242 (lv_at hl 1 rfl) ?_
            refine lv_sipush (v := 320) hx hb dX3_moveInCode_244 (by decide) ?_
            refine lv_imul hx hb dX3_moveInCode_247 ?_
            refine lv_iload hx hb dX3_moveInCode_248 (lv_at hl 0 rfl) ?_
            refine lv_iadd hx hb dX3_moveInCode_250 ?_
            refine lv_iload hx hb dX3_moveInCode_251 (lv_at hl 2 rfl) ?_
            obtain ⟨hq31, hrun⟩ := chk9 hrun
            refine va_iast hx hb hK hP hD hS 8 7 rfl rfl (ixb_in hq31) dX3_moveInCode_253 (fun H locs hP hD hS => ?_)
            have hP : va_P (dC, dI) cls (List.flatten ([(oX3 (p0a 0) p0a p0k p0n (upw (o_23.2) 16 (nn (((((o_23.2) 0 9) - 1) * 320) + (((p0_6_1w 1) 3) (nn ((((o_23.2) 12) (nn (((o_23.2) 0 9) - 1))) - 1))))) (w9 16 (nn ((((p0w 0 9) - 1) * 320) + (((p0_6_1w 1) 4) (nn (p0w 12 (nn ((p0w 0 9) - 1)))))))))), (oX0 (p0a 7) p0_6a p0_6k p0_6n p0_6w), (oX9 (p0_6_1a 0 0) (p0_6_1a 0) (p0_6_1k 0) (p0_6_1n 0) (p0_6_1w 0)), (oX9 (p0_6_1a 1 0) (p0_6_1a 1) (p0_6_1k 1) (p0_6_1n 1) (p0_6_1w 1)), (oX9 (p0_6_1a 2 0) (p0_6_1a 2) (p0_6_1k 2) (p0_6_1n 2) (p0_6_1w 2)), (oX9 (p0_6_1a 3 0) (p0_6_1a 3) (p0_6_1k 3) (p0_6_1n 3) (p0_6_1w 3)), (oX9 (p0_6_1a 4 0) (p0_6_1a 4) (p0_6_1k 4) (p0_6_1n 4) (p0_6_1w 4)), (oX9 (p0_6_1a 5 0) (p0_6_1a 5) (p0_6_1k 5) (p0_6_1n 5) (p0_6_1w 5)), (oX6 (p0a 5) p0_4a p0_4k p0_4w p0_4l), [((p0_6a 2), .inl (p0_6_1c, 6, .inr (.inr (.inr (.inr (fun i => some (p0_6_1a i 0)))))))]] : List va_W)) H := hP
            have hD : va_D A (List.flatten ([(oX3 (p0a 0) p0a p0k p0n (upw (o_23.2) 16 (nn (((((o_23.2) 0 9) - 1) * 320) + (((p0_6_1w 1) 3) (nn ((((o_23.2) 12) (nn (((o_23.2) 0 9) - 1))) - 1))))) (w9 16 (nn ((((p0w 0 9) - 1) * 320) + (((p0_6_1w 1) 4) (nn (p0w 12 (nn ((p0w 0 9) - 1)))))))))), (oX0 (p0a 7) p0_6a p0_6k p0_6n p0_6w), (oX9 (p0_6_1a 0 0) (p0_6_1a 0) (p0_6_1k 0) (p0_6_1n 0) (p0_6_1w 0)), (oX9 (p0_6_1a 1 0) (p0_6_1a 1) (p0_6_1k 1) (p0_6_1n 1) (p0_6_1w 1)), (oX9 (p0_6_1a 2 0) (p0_6_1a 2) (p0_6_1k 2) (p0_6_1n 2) (p0_6_1w 2)), (oX9 (p0_6_1a 3 0) (p0_6_1a 3) (p0_6_1k 3) (p0_6_1n 3) (p0_6_1w 3)), (oX9 (p0_6_1a 4 0) (p0_6_1a 4) (p0_6_1k 4) (p0_6_1n 4) (p0_6_1w 4)), (oX9 (p0_6_1a 5 0) (p0_6_1a 5) (p0_6_1k 5) (p0_6_1n 5) (p0_6_1w 5)), (oX6 (p0a 5) p0_4a p0_4k p0_4w p0_4l), [((p0_6a 2), .inl (p0_6_1c, 6, .inr (.inr (.inr (.inr (fun i => some (p0_6_1a i 0)))))))]] : List va_W)) := hD
            obtain ⟨w32, ew32, hrun⟩ := let9 hrun
            rw [← ew32] at hP hD
            refine lv_goto (tgt := 353) hx hb dX3_moveInCode_254 (by decide) ?_
            exact J353 w32 _ _ _ hrun hP hD hK hS (lv_sub hl [] rfl)
          · refine W.eq (g2 := F0 m 223 ls [.ref (p0_6_1a 2 0)]) rfl ?_
            refine va_get (D := (dC, dI)) (ci := 3) (v := .ref ((p0_6_1a 2) 3)) (C := RX9) (T := TX9) (N := 6) hx hb hts i_X9 hown hK hP 32 rfl rfl 2 (by decide) (hts _ qw918) (fun _ h9 => h9) rfl dX3_moveInCode_223 ?_
            refine lv_aload_n hx hb dX3_moveInCode_226 rfl (lv_at hl 7 rfl) ?_
            refine va_get (D := (dC, dI)) (ci := 10) (v := .ref (p0a 12)) (C := RX3) (T := TX3) (N := 20) hx hb hts i_X3 hown hK hP 0 rfl rfl 11 (by decide) (hts _ qw915) (fun _ h9 => h9) rfl dX3_moveInCode_227 ?_
            refine lv_iload hx hb dX3_moveInCode_230 (lv_at hl 0 rfl) ?_
            obtain ⟨hq29, hrun⟩ := chk9 hrun
            refine va_iald hx hb hK hP 4 3 rfl rfl (ixb_in hq29) dX3_moveInCode_232 ?_
            refine lv_iconst (v := 1) hx hb dX3_moveInCode_233 (by decide) ?_
            refine lv_isub hx hb dX3_moveInCode_234 ?_
            obtain ⟨hq30, hrun⟩ := chk9 hrun
            refine va_iald hx hb hK hP 34 29 rfl rfl (ixb_in hq30) dX3_moveInCode_235 ?_
            refine lv_istore (lv' := [(8, .int (((p0_6_1w 2) 3) (nn ((((o_23.2) 12) (nn (((o_23.2) 0 9) - 1))) - 1)))), (7, .int (((o_23.2) 0 9) - 1)), (6, .int (w9 16 (nn ((((p0w 0 9) - 1) * 320) + (((p0_6_1w 1) 4) (nn (p0w 12 (nn ((p0w 0 9) - 1))))))))), (5, .int (((p0_6_1w 1) 4) (nn (p0w 12 (nn ((p0w 0 9) - 1)))))), (4, .int (((p0w 0 9) - 1) * 320)), (3, .int (p0w 12 (nn ((p0w 0 9) - 1)))), (2, .ref (p0_6_1a 1 0)), (1, .int ((p0w 0 9) - 1)), (0, .ref (p0a 0))]) hx hb dX3_moveInCode_236 hl (by decide) rfl (fun ls hl => ?_)
            refine lv_aload_n hx hb dX3_moveInCode_238 rfl (lv_at hl 8 rfl) ?_
            refine va_get (D := (dC, dI)) (ci := 10) (v := .ref (p0a 16)) (C := RX3) (T := TX3) (N := 20) hx hb hts i_X3 hown hK hP 0 rfl rfl 15 (by decide) (hts _ qw906) (fun _ h9 => h9) rfl dX3_moveInCode_239 ?_
            refine lv_iload hx hb dX3_moveInCode_242 (lv_at hl 1 rfl) ?_
            refine lv_sipush (v := 320) hx hb dX3_moveInCode_244 (by decide) ?_
            refine lv_imul hx hb dX3_moveInCode_247 ?_
            refine lv_iload hx hb dX3_moveInCode_248 (lv_at hl 0 rfl) ?_
            refine lv_iadd hx hb dX3_moveInCode_250 ?_
            refine lv_iload hx hb dX3_moveInCode_251 (lv_at hl 2 rfl) ?_
            obtain ⟨hq31, hrun⟩ := chk9 hrun
            refine va_iast hx hb hK hP hD hS 8 7 rfl rfl (ixb_in hq31) dX3_moveInCode_253 (fun H locs hP hD hS => ?_)
            have hP : va_P (dC, dI) cls (List.flatten ([(oX3 (p0a 0) p0a p0k p0n (upw (o_23.2) 16 (nn (((((o_23.2) 0 9) - 1) * 320) + (((p0_6_1w 2) 3) (nn ((((o_23.2) 12) (nn (((o_23.2) 0 9) - 1))) - 1))))) (w9 16 (nn ((((p0w 0 9) - 1) * 320) + (((p0_6_1w 1) 4) (nn (p0w 12 (nn ((p0w 0 9) - 1)))))))))), (oX0 (p0a 7) p0_6a p0_6k p0_6n p0_6w), (oX9 (p0_6_1a 0 0) (p0_6_1a 0) (p0_6_1k 0) (p0_6_1n 0) (p0_6_1w 0)), (oX9 (p0_6_1a 1 0) (p0_6_1a 1) (p0_6_1k 1) (p0_6_1n 1) (p0_6_1w 1)), (oX9 (p0_6_1a 2 0) (p0_6_1a 2) (p0_6_1k 2) (p0_6_1n 2) (p0_6_1w 2)), (oX9 (p0_6_1a 3 0) (p0_6_1a 3) (p0_6_1k 3) (p0_6_1n 3) (p0_6_1w 3)), (oX9 (p0_6_1a 4 0) (p0_6_1a 4) (p0_6_1k 4) (p0_6_1n 4) (p0_6_1w 4)), (oX9 (p0_6_1a 5 0) (p0_6_1a 5) (p0_6_1k 5) (p0_6_1n 5) (p0_6_1w 5)), (oX6 (p0a 5) p0_4a p0_4k p0_4w p0_4l), [((p0_6a 2), .inl (p0_6_1c, 6, .inr (.inr (.inr (.inr (fun i => some (p0_6_1a i 0)))))))]] : List va_W)) H := hP
            have hD : va_D A (List.flatten ([(oX3 (p0a 0) p0a p0k p0n (upw (o_23.2) 16 (nn (((((o_23.2) 0 9) - 1) * 320) + (((p0_6_1w 2) 3) (nn ((((o_23.2) 12) (nn (((o_23.2) 0 9) - 1))) - 1))))) (w9 16 (nn ((((p0w 0 9) - 1) * 320) + (((p0_6_1w 1) 4) (nn (p0w 12 (nn ((p0w 0 9) - 1)))))))))), (oX0 (p0a 7) p0_6a p0_6k p0_6n p0_6w), (oX9 (p0_6_1a 0 0) (p0_6_1a 0) (p0_6_1k 0) (p0_6_1n 0) (p0_6_1w 0)), (oX9 (p0_6_1a 1 0) (p0_6_1a 1) (p0_6_1k 1) (p0_6_1n 1) (p0_6_1w 1)), (oX9 (p0_6_1a 2 0) (p0_6_1a 2) (p0_6_1k 2) (p0_6_1n 2) (p0_6_1w 2)), (oX9 (p0_6_1a 3 0) (p0_6_1a 3) (p0_6_1k 3) (p0_6_1n 3) (p0_6_1w 3)), (oX9 (p0_6_1a 4 0) (p0_6_1a 4) (p0_6_1k 4) (p0_6_1n 4) (p0_6_1w 4)), (oX9 (p0_6_1a 5 0) (p0_6_1a 5) (p0_6_1k 5) (p0_6_1n 5) (p0_6_1w 5)), (oX6 (p0a 5) p0_4a p0_4k p0_4w p0_4l), [((p0_6a 2), .inl (p0_6_1c, 6, .inr (.inr (.inr (.inr (fun i => some (p0_6_1a i 0)))))))]] : List va_W)) := hD
            obtain ⟨w32, ew32, hrun⟩ := let9 hrun
            rw [← ew32] at hP hD
            refine lv_goto (tgt := 353) hx hb dX3_moveInCode_254 (by decide) ?_
            exact J353 w32 _ _ _ hrun hP hD hK hS (lv_sub hl [] rfl)
          · refine W.eq (g2 := F0 m 223 ls [.ref (p0_6_1a 3 0)]) rfl ?_
            refine va_get (D := (dC, dI)) (ci := 3) (v := .ref ((p0_6_1a 3) 3)) (C := RX9) (T := TX9) (N := 6) hx hb hts i_X9 hown hK hP 38 rfl rfl 2 (by decide) (hts _ qw918) (fun _ h9 => h9) rfl dX3_moveInCode_223 ?_
            refine lv_aload_n hx hb dX3_moveInCode_226 rfl (lv_at hl 7 rfl) ?_
            refine va_get (D := (dC, dI)) (ci := 10) (v := .ref (p0a 12)) (C := RX3) (T := TX3) (N := 20) hx hb hts i_X3 hown hK hP 0 rfl rfl 11 (by decide) (hts _ qw915) (fun _ h9 => h9) rfl dX3_moveInCode_227 ?_
            refine lv_iload hx hb dX3_moveInCode_230 (lv_at hl 0 rfl) ?_
            obtain ⟨hq29, hrun⟩ := chk9 hrun
            refine va_iald hx hb hK hP 4 3 rfl rfl (ixb_in hq29) dX3_moveInCode_232 ?_
            refine lv_iconst (v := 1) hx hb dX3_moveInCode_233 (by decide) ?_
            refine lv_isub hx hb dX3_moveInCode_234 ?_
            obtain ⟨hq30, hrun⟩ := chk9 hrun
            refine va_iald hx hb hK hP 40 34 rfl rfl (ixb_in hq30) dX3_moveInCode_235 ?_
            refine lv_istore (lv' := [(8, .int (((p0_6_1w 3) 3) (nn ((((o_23.2) 12) (nn (((o_23.2) 0 9) - 1))) - 1)))), (7, .int (((o_23.2) 0 9) - 1)), (6, .int (w9 16 (nn ((((p0w 0 9) - 1) * 320) + (((p0_6_1w 1) 4) (nn (p0w 12 (nn ((p0w 0 9) - 1))))))))), (5, .int (((p0_6_1w 1) 4) (nn (p0w 12 (nn ((p0w 0 9) - 1)))))), (4, .int (((p0w 0 9) - 1) * 320)), (3, .int (p0w 12 (nn ((p0w 0 9) - 1)))), (2, .ref (p0_6_1a 1 0)), (1, .int ((p0w 0 9) - 1)), (0, .ref (p0a 0))]) hx hb dX3_moveInCode_236 hl (by decide) rfl (fun ls hl => ?_)
            refine lv_aload_n hx hb dX3_moveInCode_238 rfl (lv_at hl 8 rfl) ?_
            refine va_get (D := (dC, dI)) (ci := 10) (v := .ref (p0a 16)) (C := RX3) (T := TX3) (N := 20) hx hb hts i_X3 hown hK hP 0 rfl rfl 15 (by decide) (hts _ qw906) (fun _ h9 => h9) rfl dX3_moveInCode_239 ?_
            refine lv_iload hx hb dX3_moveInCode_242 (lv_at hl 1 rfl) ?_
            refine lv_sipush (v := 320) hx hb dX3_moveInCode_244 (by decide) ?_
            refine lv_imul hx hb dX3_moveInCode_247 ?_
            refine lv_iload hx hb dX3_moveInCode_248 (lv_at hl 0 rfl) ?_
            refine lv_iadd hx hb dX3_moveInCode_250 ?_
            refine lv_iload hx hb dX3_moveInCode_251 (lv_at hl 2 rfl) ?_
            obtain ⟨hq31, hrun⟩ := chk9 hrun
            refine va_iast hx hb hK hP hD hS 8 7 rfl rfl (ixb_in hq31) dX3_moveInCode_253 (fun H locs hP hD hS => ?_)
            have hP : va_P (dC, dI) cls (List.flatten ([(oX3 (p0a 0) p0a p0k p0n (upw (o_23.2) 16 (nn (((((o_23.2) 0 9) - 1) * 320) + (((p0_6_1w 3) 3) (nn ((((o_23.2) 12) (nn (((o_23.2) 0 9) - 1))) - 1))))) (w9 16 (nn ((((p0w 0 9) - 1) * 320) + (((p0_6_1w 1) 4) (nn (p0w 12 (nn ((p0w 0 9) - 1)))))))))), (oX0 (p0a 7) p0_6a p0_6k p0_6n p0_6w), (oX9 (p0_6_1a 0 0) (p0_6_1a 0) (p0_6_1k 0) (p0_6_1n 0) (p0_6_1w 0)), (oX9 (p0_6_1a 1 0) (p0_6_1a 1) (p0_6_1k 1) (p0_6_1n 1) (p0_6_1w 1)), (oX9 (p0_6_1a 2 0) (p0_6_1a 2) (p0_6_1k 2) (p0_6_1n 2) (p0_6_1w 2)), (oX9 (p0_6_1a 3 0) (p0_6_1a 3) (p0_6_1k 3) (p0_6_1n 3) (p0_6_1w 3)), (oX9 (p0_6_1a 4 0) (p0_6_1a 4) (p0_6_1k 4) (p0_6_1n 4) (p0_6_1w 4)), (oX9 (p0_6_1a 5 0) (p0_6_1a 5) (p0_6_1k 5) (p0_6_1n 5) (p0_6_1w 5)), (oX6 (p0a 5) p0_4a p0_4k p0_4w p0_4l), [((p0_6a 2), .inl (p0_6_1c, 6, .inr (.inr (.inr (.inr (fun i => some (p0_6_1a i 0)))))))]] : List va_W)) H := hP
            have hD : va_D A (List.flatten ([(oX3 (p0a 0) p0a p0k p0n (upw (o_23.2) 16 (nn (((((o_23.2) 0 9) - 1) * 320) + (((p0_6_1w 3) 3) (nn ((((o_23.2) 12) (nn (((o_23.2) 0 9) - 1))) - 1))))) (w9 16 (nn ((((p0w 0 9) - 1) * 320) + (((p0_6_1w 1) 4) (nn (p0w 12 (nn ((p0w 0 9) - 1)))))))))), (oX0 (p0a 7) p0_6a p0_6k p0_6n p0_6w), (oX9 (p0_6_1a 0 0) (p0_6_1a 0) (p0_6_1k 0) (p0_6_1n 0) (p0_6_1w 0)), (oX9 (p0_6_1a 1 0) (p0_6_1a 1) (p0_6_1k 1) (p0_6_1n 1) (p0_6_1w 1)), (oX9 (p0_6_1a 2 0) (p0_6_1a 2) (p0_6_1k 2) (p0_6_1n 2) (p0_6_1w 2)), (oX9 (p0_6_1a 3 0) (p0_6_1a 3) (p0_6_1k 3) (p0_6_1n 3) (p0_6_1w 3)), (oX9 (p0_6_1a 4 0) (p0_6_1a 4) (p0_6_1k 4) (p0_6_1n 4) (p0_6_1w 4)), (oX9 (p0_6_1a 5 0) (p0_6_1a 5) (p0_6_1k 5) (p0_6_1n 5) (p0_6_1w 5)), (oX6 (p0a 5) p0_4a p0_4k p0_4w p0_4l), [((p0_6a 2), .inl (p0_6_1c, 6, .inr (.inr (.inr (.inr (fun i => some (p0_6_1a i 0)))))))]] : List va_W)) := hD
            obtain ⟨w32, ew32, hrun⟩ := let9 hrun
            rw [← ew32] at hP hD
            refine lv_goto (tgt := 353) hx hb dX3_moveInCode_254 (by decide) ?_
            exact J353 w32 _ _ _ hrun hP hD hK hS (lv_sub hl [] rfl)
          · refine W.eq (g2 := F0 m 223 ls [.ref (p0_6_1a 4 0)]) rfl ?_
            refine va_get (D := (dC, dI)) (ci := 3) (v := .ref ((p0_6_1a 4) 3)) (C := RX9) (T := TX9) (N := 6) hx hb hts i_X9 hown hK hP 44 rfl rfl 2 (by decide) (hts _ qw918) (fun _ h9 => h9) rfl dX3_moveInCode_223 ?_
            refine lv_aload_n hx hb dX3_moveInCode_226 rfl (lv_at hl 7 rfl) ?_
            refine va_get (D := (dC, dI)) (ci := 10) (v := .ref (p0a 12)) (C := RX3) (T := TX3) (N := 20) hx hb hts i_X3 hown hK hP 0 rfl rfl 11 (by decide) (hts _ qw915) (fun _ h9 => h9) rfl dX3_moveInCode_227 ?_
            refine lv_iload hx hb dX3_moveInCode_230 (lv_at hl 0 rfl) ?_
            obtain ⟨hq29, hrun⟩ := chk9 hrun
            refine va_iald hx hb hK hP 4 3 rfl rfl (ixb_in hq29) dX3_moveInCode_232 ?_
            refine lv_iconst (v := 1) hx hb dX3_moveInCode_233 (by decide) ?_
            refine lv_isub hx hb dX3_moveInCode_234 ?_
            obtain ⟨hq30, hrun⟩ := chk9 hrun
            refine va_iald hx hb hK hP 46 39 rfl rfl (ixb_in hq30) dX3_moveInCode_235 ?_
            refine lv_istore (lv' := [(8, .int (((p0_6_1w 4) 3) (nn ((((o_23.2) 12) (nn (((o_23.2) 0 9) - 1))) - 1)))), (7, .int (((o_23.2) 0 9) - 1)), (6, .int (w9 16 (nn ((((p0w 0 9) - 1) * 320) + (((p0_6_1w 1) 4) (nn (p0w 12 (nn ((p0w 0 9) - 1))))))))), (5, .int (((p0_6_1w 1) 4) (nn (p0w 12 (nn ((p0w 0 9) - 1)))))), (4, .int (((p0w 0 9) - 1) * 320)), (3, .int (p0w 12 (nn ((p0w 0 9) - 1)))), (2, .ref (p0_6_1a 1 0)), (1, .int ((p0w 0 9) - 1)), (0, .ref (p0a 0))]) hx hb dX3_moveInCode_236 hl (by decide) rfl (fun ls hl => ?_)
            refine lv_aload_n hx hb dX3_moveInCode_238 rfl (lv_at hl 8 rfl) ?_
            refine va_get (D := (dC, dI)) (ci := 10) (v := .ref (p0a 16)) (C := RX3) (T := TX3) (N := 20) hx hb hts i_X3 hown hK hP 0 rfl rfl 15 (by decide) (hts _ qw906) (fun _ h9 => h9) rfl dX3_moveInCode_239 ?_
            refine lv_iload hx hb dX3_moveInCode_242 (lv_at hl 1 rfl) ?_
            refine lv_sipush (v := 320) hx hb dX3_moveInCode_244 (by decide) ?_
            refine lv_imul hx hb dX3_moveInCode_247 ?_
            refine lv_iload hx hb dX3_moveInCode_248 (lv_at hl 0 rfl) ?_
            refine lv_iadd hx hb dX3_moveInCode_250 ?_
            refine lv_iload hx hb dX3_moveInCode_251 (lv_at hl 2 rfl) ?_
            obtain ⟨hq31, hrun⟩ := chk9 hrun
            refine va_iast hx hb hK hP hD hS 8 7 rfl rfl (ixb_in hq31) dX3_moveInCode_253 (fun H locs hP hD hS => ?_)
            have hP : va_P (dC, dI) cls (List.flatten ([(oX3 (p0a 0) p0a p0k p0n (upw (o_23.2) 16 (nn (((((o_23.2) 0 9) - 1) * 320) + (((p0_6_1w 4) 3) (nn ((((o_23.2) 12) (nn (((o_23.2) 0 9) - 1))) - 1))))) (w9 16 (nn ((((p0w 0 9) - 1) * 320) + (((p0_6_1w 1) 4) (nn (p0w 12 (nn ((p0w 0 9) - 1)))))))))), (oX0 (p0a 7) p0_6a p0_6k p0_6n p0_6w), (oX9 (p0_6_1a 0 0) (p0_6_1a 0) (p0_6_1k 0) (p0_6_1n 0) (p0_6_1w 0)), (oX9 (p0_6_1a 1 0) (p0_6_1a 1) (p0_6_1k 1) (p0_6_1n 1) (p0_6_1w 1)), (oX9 (p0_6_1a 2 0) (p0_6_1a 2) (p0_6_1k 2) (p0_6_1n 2) (p0_6_1w 2)), (oX9 (p0_6_1a 3 0) (p0_6_1a 3) (p0_6_1k 3) (p0_6_1n 3) (p0_6_1w 3)), (oX9 (p0_6_1a 4 0) (p0_6_1a 4) (p0_6_1k 4) (p0_6_1n 4) (p0_6_1w 4)), (oX9 (p0_6_1a 5 0) (p0_6_1a 5) (p0_6_1k 5) (p0_6_1n 5) (p0_6_1w 5)), (oX6 (p0a 5) p0_4a p0_4k p0_4w p0_4l), [((p0_6a 2), .inl (p0_6_1c, 6, .inr (.inr (.inr (.inr (fun i => some (p0_6_1a i 0)))))))]] : List va_W)) H := hP
            have hD : va_D A (List.flatten ([(oX3 (p0a 0) p0a p0k p0n (upw (o_23.2) 16 (nn (((((o_23.2) 0 9) - 1) * 320) + (((p0_6_1w 4) 3) (nn ((((o_23.2) 12) (nn (((o_23.2) 0 9) - 1))) - 1))))) (w9 16 (nn ((((p0w 0 9) - 1) * 320) + (((p0_6_1w 1) 4) (nn (p0w 12 (nn ((p0w 0 9) - 1)))))))))), (oX0 (p0a 7) p0_6a p0_6k p0_6n p0_6w), (oX9 (p0_6_1a 0 0) (p0_6_1a 0) (p0_6_1k 0) (p0_6_1n 0) (p0_6_1w 0)), (oX9 (p0_6_1a 1 0) (p0_6_1a 1) (p0_6_1k 1) (p0_6_1n 1) (p0_6_1w 1)), (oX9 (p0_6_1a 2 0) (p0_6_1a 2) (p0_6_1k 2) (p0_6_1n 2) (p0_6_1w 2)), (oX9 (p0_6_1a 3 0) (p0_6_1a 3) (p0_6_1k 3) (p0_6_1n 3) (p0_6_1w 3)), (oX9 (p0_6_1a 4 0) (p0_6_1a 4) (p0_6_1k 4) (p0_6_1n 4) (p0_6_1w 4)), (oX9 (p0_6_1a 5 0) (p0_6_1a 5) (p0_6_1k 5) (p0_6_1n 5) (p0_6_1w 5)), (oX6 (p0a 5) p0_4a p0_4k p0_4w p0_4l), [((p0_6a 2), .inl (p0_6_1c, 6, .inr (.inr (.inr (.inr (fun i => some (p0_6_1a i 0)))))))]] : List va_W)) := hD
            obtain ⟨w32, ew32, hrun⟩ := let9 hrun
            rw [← ew32] at hP hD
            refine lv_goto (tgt := 353) hx hb dX3_moveInCode_254 (by decide) ?_
            exact J353 w32 _ _ _ hrun hP hD hK hS (lv_sub hl [] rfl)
          · refine W.eq (g2 := F0 m 223 ls [.ref (p0_6_1a 5 0)]) rfl ?_
            refine va_get (D := (dC, dI)) (ci := 3) (v := .ref ((p0_6_1a 5) 3)) (C := RX9) (T := TX9) (N := 6) hx hb hts i_X9 hown hK hP 50 rfl rfl 2 (by decide) (hts _ qw918) (fun _ h9 => h9) rfl dX3_moveInCode_223 ?_
            refine lv_aload_n hx hb dX3_moveInCode_226 rfl (lv_at hl 7 rfl) ?_
            refine va_get (D := (dC, dI)) (ci := 10) (v := .ref (p0a 12)) (C := RX3) (T := TX3) (N := 20) hx hb hts i_X3 hown hK hP 0 rfl rfl 11 (by decide) (hts _ qw915) (fun _ h9 => h9) rfl dX3_moveInCode_227 ?_
            refine lv_iload hx hb dX3_moveInCode_230 (lv_at hl 0 rfl) ?_
            obtain ⟨hq29, hrun⟩ := chk9 hrun
            refine va_iald hx hb hK hP 4 3 rfl rfl (ixb_in hq29) dX3_moveInCode_232 ?_
            refine lv_iconst (v := 1) hx hb dX3_moveInCode_233 (by decide) ?_
            refine lv_isub hx hb dX3_moveInCode_234 ?_
            obtain ⟨hq30, hrun⟩ := chk9 hrun
            refine va_iald hx hb hK hP 52 44 rfl rfl (ixb_in hq30) dX3_moveInCode_235 ?_
            refine lv_istore (lv' := [(8, .int (((p0_6_1w 5) 3) (nn ((((o_23.2) 12) (nn (((o_23.2) 0 9) - 1))) - 1)))), (7, .int (((o_23.2) 0 9) - 1)), (6, .int (w9 16 (nn ((((p0w 0 9) - 1) * 320) + (((p0_6_1w 1) 4) (nn (p0w 12 (nn ((p0w 0 9) - 1))))))))), (5, .int (((p0_6_1w 1) 4) (nn (p0w 12 (nn ((p0w 0 9) - 1)))))), (4, .int (((p0w 0 9) - 1) * 320)), (3, .int (p0w 12 (nn ((p0w 0 9) - 1)))), (2, .ref (p0_6_1a 1 0)), (1, .int ((p0w 0 9) - 1)), (0, .ref (p0a 0))]) hx hb dX3_moveInCode_236 hl (by decide) rfl (fun ls hl => ?_)
            refine lv_aload_n hx hb dX3_moveInCode_238 rfl (lv_at hl 8 rfl) ?_
            refine va_get (D := (dC, dI)) (ci := 10) (v := .ref (p0a 16)) (C := RX3) (T := TX3) (N := 20) hx hb hts i_X3 hown hK hP 0 rfl rfl 15 (by decide) (hts _ qw906) (fun _ h9 => h9) rfl dX3_moveInCode_239 ?_
            refine lv_iload hx hb dX3_moveInCode_242 (lv_at hl 1 rfl) ?_
            refine lv_sipush (v := 320) hx hb dX3_moveInCode_244 (by decide) ?_
            refine lv_imul hx hb dX3_moveInCode_247 ?_
            refine lv_iload hx hb dX3_moveInCode_248 (lv_at hl 0 rfl) ?_
            refine lv_iadd hx hb dX3_moveInCode_250 ?_
            refine lv_iload hx hb dX3_moveInCode_251 (lv_at hl 2 rfl) ?_
            obtain ⟨hq31, hrun⟩ := chk9 hrun
            refine va_iast hx hb hK hP hD hS 8 7 rfl rfl (ixb_in hq31) dX3_moveInCode_253 (fun H locs hP hD hS => ?_)
            have hP : va_P (dC, dI) cls (List.flatten ([(oX3 (p0a 0) p0a p0k p0n (upw (o_23.2) 16 (nn (((((o_23.2) 0 9) - 1) * 320) + (((p0_6_1w 5) 3) (nn ((((o_23.2) 12) (nn (((o_23.2) 0 9) - 1))) - 1))))) (w9 16 (nn ((((p0w 0 9) - 1) * 320) + (((p0_6_1w 1) 4) (nn (p0w 12 (nn ((p0w 0 9) - 1)))))))))), (oX0 (p0a 7) p0_6a p0_6k p0_6n p0_6w), (oX9 (p0_6_1a 0 0) (p0_6_1a 0) (p0_6_1k 0) (p0_6_1n 0) (p0_6_1w 0)), (oX9 (p0_6_1a 1 0) (p0_6_1a 1) (p0_6_1k 1) (p0_6_1n 1) (p0_6_1w 1)), (oX9 (p0_6_1a 2 0) (p0_6_1a 2) (p0_6_1k 2) (p0_6_1n 2) (p0_6_1w 2)), (oX9 (p0_6_1a 3 0) (p0_6_1a 3) (p0_6_1k 3) (p0_6_1n 3) (p0_6_1w 3)), (oX9 (p0_6_1a 4 0) (p0_6_1a 4) (p0_6_1k 4) (p0_6_1n 4) (p0_6_1w 4)), (oX9 (p0_6_1a 5 0) (p0_6_1a 5) (p0_6_1k 5) (p0_6_1n 5) (p0_6_1w 5)), (oX6 (p0a 5) p0_4a p0_4k p0_4w p0_4l), [((p0_6a 2), .inl (p0_6_1c, 6, .inr (.inr (.inr (.inr (fun i => some (p0_6_1a i 0)))))))]] : List va_W)) H := hP
            have hD : va_D A (List.flatten ([(oX3 (p0a 0) p0a p0k p0n (upw (o_23.2) 16 (nn (((((o_23.2) 0 9) - 1) * 320) + (((p0_6_1w 5) 3) (nn ((((o_23.2) 12) (nn (((o_23.2) 0 9) - 1))) - 1))))) (w9 16 (nn ((((p0w 0 9) - 1) * 320) + (((p0_6_1w 1) 4) (nn (p0w 12 (nn ((p0w 0 9) - 1)))))))))), (oX0 (p0a 7) p0_6a p0_6k p0_6n p0_6w), (oX9 (p0_6_1a 0 0) (p0_6_1a 0) (p0_6_1k 0) (p0_6_1n 0) (p0_6_1w 0)), (oX9 (p0_6_1a 1 0) (p0_6_1a 1) (p0_6_1k 1) (p0_6_1n 1) (p0_6_1w 1)), (oX9 (p0_6_1a 2 0) (p0_6_1a 2) (p0_6_1k 2) (p0_6_1n 2) (p0_6_1w 2)), (oX9 (p0_6_1a 3 0) (p0_6_1a 3) (p0_6_1k 3) (p0_6_1n 3) (p0_6_1w 3)), (oX9 (p0_6_1a 4 0) (p0_6_1a 4) (p0_6_1k 4) (p0_6_1n 4) (p0_6_1w 4)), (oX9 (p0_6_1a 5 0) (p0_6_1a 5) (p0_6_1k 5) (p0_6_1n 5) (p0_6_1w 5)), (oX6 (p0a 5) p0_4a p0_4k p0_4w p0_4l), [((p0_6a 2), .inl (p0_6_1c, 6, .inr (.inr (.inr (.inr (fun i => some (p0_6_1a i 0)))))))]] : List va_W)) := hD
            obtain ⟨w32, ew32, hrun⟩ := let9 hrun
            rw [← ew32] at hP hD
            refine lv_goto (tgt := 353) hx hb dX3_moveInCode_254 (by decide) ?_
            exact J353 w32 _ _ _ hrun hP hD hK hS (lv_sub hl [] rfl)
      rcases br9 hrun with ⟨hc33, hrun⟩ | ⟨hc33, hrun⟩
      · refine lv_tableIn (off := 189) (tgt := 257) hx hb dX3_moveInCode_68 (by rw [hc33]; decide) (by rw [hc33]; decide) (by rw [hc33]; rfl) (by decide) ?_
        refine lv_aload_n hx hb dX3_moveInCode_257 rfl (lv_at hl 5 rfl) ?_
        refine va_get (D := (dC, dI)) (ci := 10) (v := .ref (p0a 16)) (C := RX3) (T := TX3) (N := 20) hx hb hts i_X3 hown hK hP 0 rfl rfl 15 (by decide) (hts _ qw906) (fun _ h9 => h9) rfl dX3_moveInCode_258 ?_
        refine lv_iload hx hb dX3_moveInCode_261 (lv_at hl 1 rfl) ?_
        refine lv_aload_n hx hb dX3_moveInCode_263 rfl (lv_at hl 3 rfl) ?_
        refine va_get (D := (dC, dI)) (ci := 3) (v := .ref ((p0_6_1a 1) 3)) (C := RX9) (T := TX9) (N := 6) hx hb hts i_X9 hown hK hP 26 rfl rfl 2 (by decide) (hts _ qw918) (fun _ h9 => h9) rfl dX3_moveInCode_264 ?_
        refine lv_iload_n hx hb dX3_moveInCode_267 rfl (lv_at hl 2 rfl) ?_
        obtain ⟨hq34, hrun⟩ := chk9 hrun
        refine va_iald hx hb hK hP 28 24 rfl rfl (ixb_in hq34) dX3_moveInCode_268 ?_
        refine lv_iadd hx hb dX3_moveInCode_269 ?_
        refine lv_aload_n hx hb dX3_moveInCode_270 rfl (lv_at hl 5 rfl) ?_
        refine va_get (D := (dC, dI)) (ci := 10) (v := .ref (p0a 16)) (C := RX3) (T := TX3) (N := 20) hx hb hts i_X3 hown hK hP 0 rfl rfl 15 (by decide) (hts _ qw906) (fun _ h9 => h9) rfl dX3_moveInCode_271 ?_
        refine lv_iload hx hb dX3_moveInCode_274 (lv_at hl 1 rfl) ?_
        refine lv_iload hx hb dX3_moveInCode_276 (lv_at hl 0 rfl) ?_
        refine lv_iadd hx hb dX3_moveInCode_278 ?_
        obtain ⟨hq35, hrun⟩ := chk9 hrun
        refine va_iald hx hb hK hP 8 7 rfl rfl (ixb_in hq35) dX3_moveInCode_279 ?_
        obtain ⟨hq36, hrun⟩ := chk9 hrun
        refine va_iast hx hb hK hP hD hS 8 7 rfl rfl (ixb_in hq36) dX3_moveInCode_280 (fun H locs hP hD hS => ?_)
        have hP : va_P (dC, dI) cls (List.flatten ([(oX3 (p0a 0) p0a p0k p0n (upw w9 16 (nn ((((p0w 0 9) - 1) * 320) + (((p0_6_1w 1) 3) (nn (p0w 12 (nn ((p0w 0 9) - 1))))))) (w9 16 (nn ((((p0w 0 9) - 1) * 320) + (((p0_6_1w 1) 4) (nn (p0w 12 (nn ((p0w 0 9) - 1)))))))))), (oX0 (p0a 7) p0_6a p0_6k p0_6n p0_6w), (oX9 (p0_6_1a 0 0) (p0_6_1a 0) (p0_6_1k 0) (p0_6_1n 0) (p0_6_1w 0)), (oX9 (p0_6_1a 1 0) (p0_6_1a 1) (p0_6_1k 1) (p0_6_1n 1) (p0_6_1w 1)), (oX9 (p0_6_1a 2 0) (p0_6_1a 2) (p0_6_1k 2) (p0_6_1n 2) (p0_6_1w 2)), (oX9 (p0_6_1a 3 0) (p0_6_1a 3) (p0_6_1k 3) (p0_6_1n 3) (p0_6_1w 3)), (oX9 (p0_6_1a 4 0) (p0_6_1a 4) (p0_6_1k 4) (p0_6_1n 4) (p0_6_1w 4)), (oX9 (p0_6_1a 5 0) (p0_6_1a 5) (p0_6_1k 5) (p0_6_1n 5) (p0_6_1w 5)), (oX6 (p0a 5) p0_4a p0_4k p0_4w p0_4l), [((p0_6a 2), .inl (p0_6_1c, 6, .inr (.inr (.inr (.inr (fun i => some (p0_6_1a i 0)))))))]] : List va_W)) H := hP
        have hD : va_D A (List.flatten ([(oX3 (p0a 0) p0a p0k p0n (upw w9 16 (nn ((((p0w 0 9) - 1) * 320) + (((p0_6_1w 1) 3) (nn (p0w 12 (nn ((p0w 0 9) - 1))))))) (w9 16 (nn ((((p0w 0 9) - 1) * 320) + (((p0_6_1w 1) 4) (nn (p0w 12 (nn ((p0w 0 9) - 1)))))))))), (oX0 (p0a 7) p0_6a p0_6k p0_6n p0_6w), (oX9 (p0_6_1a 0 0) (p0_6_1a 0) (p0_6_1k 0) (p0_6_1n 0) (p0_6_1w 0)), (oX9 (p0_6_1a 1 0) (p0_6_1a 1) (p0_6_1k 1) (p0_6_1n 1) (p0_6_1w 1)), (oX9 (p0_6_1a 2 0) (p0_6_1a 2) (p0_6_1k 2) (p0_6_1n 2) (p0_6_1w 2)), (oX9 (p0_6_1a 3 0) (p0_6_1a 3) (p0_6_1k 3) (p0_6_1n 3) (p0_6_1w 3)), (oX9 (p0_6_1a 4 0) (p0_6_1a 4) (p0_6_1k 4) (p0_6_1n 4) (p0_6_1w 4)), (oX9 (p0_6_1a 5 0) (p0_6_1a 5) (p0_6_1k 5) (p0_6_1n 5) (p0_6_1w 5)), (oX6 (p0a 5) p0_4a p0_4k p0_4w p0_4l), [((p0_6a 2), .inl (p0_6_1c, 6, .inr (.inr (.inr (.inr (fun i => some (p0_6_1a i 0)))))))]] : List va_W)) := hD
        obtain ⟨w37, ew37, hrun⟩ := let9 hrun
        rw [← ew37] at hP hD
        refine lv_goto (tgt := 353) hx hb dX3_moveInCode_281 (by decide) ?_
        exact J353 w37 _ _ _ hrun hP hD hK hS (lv_sub hl [] rfl)
      rcases br9 hrun with ⟨hc38, hrun⟩ | ⟨hc38, hrun⟩
      · refine lv_tableIn (off := 216) (tgt := 284) hx hb dX3_moveInCode_68 (by rw [hc38]; decide) (by rw [hc38]; decide) (by rw [hc38]; rfl) (by decide) ?_
        refine lv_aload_n hx hb dX3_moveInCode_284 rfl (lv_at hl 5 rfl) ?_
        refine va_get (D := (dC, dI)) (ci := 10) (v := .ref (p0a 16)) (C := RX3) (T := TX3) (N := 20) hx hb hts i_X3 hown hK hP 0 rfl rfl 15 (by decide) (hts _ qw906) (fun _ h9 => h9) rfl dX3_moveInCode_285 ?_
        refine lv_iload hx hb dX3_moveInCode_288 (lv_at hl 1 rfl) ?_
        refine lv_aload_n hx hb dX3_moveInCode_290 rfl (lv_at hl 3 rfl) ?_
        refine va_get (D := (dC, dI)) (ci := 3) (v := .ref ((p0_6_1a 1) 3)) (C := RX9) (T := TX9) (N := 6) hx hb hts i_X9 hown hK hP 26 rfl rfl 2 (by decide) (hts _ qw918) (fun _ h9 => h9) rfl dX3_moveInCode_291 ?_
        refine lv_iload_n hx hb dX3_moveInCode_294 rfl (lv_at hl 2 rfl) ?_
        obtain ⟨hq39, hrun⟩ := chk9 hrun
        refine va_iald hx hb hK hP 28 24 rfl rfl (ixb_in hq39) dX3_moveInCode_295 ?_
        refine lv_iadd hx hb dX3_moveInCode_296 ?_
        refine lv_aload_n hx hb dX3_moveInCode_297 rfl (lv_at hl 5 rfl) ?_
        refine va_get (D := (dC, dI)) (ci := 10) (v := .ref (p0a 17)) (C := RX3) (T := TX3) (N := 20) hx hb hts i_X3 hown hK hP 0 rfl rfl 16 (by decide) (hts _ qw935) (fun _ h9 => h9) rfl dX3_moveInCode_298 ?_
        refine lv_iload_n hx hb dX3_moveInCode_301 rfl (lv_at hl 4 rfl) ?_
        refine lv_aload_n hx hb dX3_moveInCode_302 rfl (lv_at hl 5 rfl) ?_
        refine va_get (D := (dC, dI)) (ci := 10) (v := .int (w9 0 17)) (C := RX3) (T := TX3) (N := 20) hx hb hts i_X3 hown hK hP 0 rfl rfl 17 (by decide) (hts _ qw936) (fun _ h9 => h9) rfl dX3_moveInCode_303 ?_
        refine lv_imul hx hb dX3_moveInCode_306 ?_
        refine lv_iload hx hb dX3_moveInCode_307 (lv_at hl 0 rfl) ?_
        refine lv_iadd hx hb dX3_moveInCode_309 ?_
        obtain ⟨hq40, hrun⟩ := chk9 hrun
        refine va_iald hx hb hK hP 9 8 rfl rfl (ixb_in hq40) dX3_moveInCode_310 ?_
        obtain ⟨hq41, hrun⟩ := chk9 hrun
        refine va_iast hx hb hK hP hD hS 8 7 rfl rfl (ixb_in hq41) dX3_moveInCode_311 (fun H locs hP hD hS => ?_)
        have hP : va_P (dC, dI) cls (List.flatten ([(oX3 (p0a 0) p0a p0k p0n (upw w9 16 (nn ((((p0w 0 9) - 1) * 320) + (((p0_6_1w 1) 3) (nn (p0w 12 (nn ((p0w 0 9) - 1))))))) (w9 17 (nn ((((p0w 0 9) - 1) * (w9 0 17)) + (((p0_6_1w 1) 4) (nn (p0w 12 (nn ((p0w 0 9) - 1)))))))))), (oX0 (p0a 7) p0_6a p0_6k p0_6n p0_6w), (oX9 (p0_6_1a 0 0) (p0_6_1a 0) (p0_6_1k 0) (p0_6_1n 0) (p0_6_1w 0)), (oX9 (p0_6_1a 1 0) (p0_6_1a 1) (p0_6_1k 1) (p0_6_1n 1) (p0_6_1w 1)), (oX9 (p0_6_1a 2 0) (p0_6_1a 2) (p0_6_1k 2) (p0_6_1n 2) (p0_6_1w 2)), (oX9 (p0_6_1a 3 0) (p0_6_1a 3) (p0_6_1k 3) (p0_6_1n 3) (p0_6_1w 3)), (oX9 (p0_6_1a 4 0) (p0_6_1a 4) (p0_6_1k 4) (p0_6_1n 4) (p0_6_1w 4)), (oX9 (p0_6_1a 5 0) (p0_6_1a 5) (p0_6_1k 5) (p0_6_1n 5) (p0_6_1w 5)), (oX6 (p0a 5) p0_4a p0_4k p0_4w p0_4l), [((p0_6a 2), .inl (p0_6_1c, 6, .inr (.inr (.inr (.inr (fun i => some (p0_6_1a i 0)))))))]] : List va_W)) H := hP
        have hD : va_D A (List.flatten ([(oX3 (p0a 0) p0a p0k p0n (upw w9 16 (nn ((((p0w 0 9) - 1) * 320) + (((p0_6_1w 1) 3) (nn (p0w 12 (nn ((p0w 0 9) - 1))))))) (w9 17 (nn ((((p0w 0 9) - 1) * (w9 0 17)) + (((p0_6_1w 1) 4) (nn (p0w 12 (nn ((p0w 0 9) - 1)))))))))), (oX0 (p0a 7) p0_6a p0_6k p0_6n p0_6w), (oX9 (p0_6_1a 0 0) (p0_6_1a 0) (p0_6_1k 0) (p0_6_1n 0) (p0_6_1w 0)), (oX9 (p0_6_1a 1 0) (p0_6_1a 1) (p0_6_1k 1) (p0_6_1n 1) (p0_6_1w 1)), (oX9 (p0_6_1a 2 0) (p0_6_1a 2) (p0_6_1k 2) (p0_6_1n 2) (p0_6_1w 2)), (oX9 (p0_6_1a 3 0) (p0_6_1a 3) (p0_6_1k 3) (p0_6_1n 3) (p0_6_1w 3)), (oX9 (p0_6_1a 4 0) (p0_6_1a 4) (p0_6_1k 4) (p0_6_1n 4) (p0_6_1w 4)), (oX9 (p0_6_1a 5 0) (p0_6_1a 5) (p0_6_1k 5) (p0_6_1n 5) (p0_6_1w 5)), (oX6 (p0a 5) p0_4a p0_4k p0_4w p0_4l), [((p0_6a 2), .inl (p0_6_1c, 6, .inr (.inr (.inr (.inr (fun i => some (p0_6_1a i 0)))))))]] : List va_W)) := hD
        obtain ⟨w42, ew42, hrun⟩ := let9 hrun
        rw [← ew42] at hP hD
        refine lv_goto (tgt := 353) hx hb dX3_moveInCode_312 (by decide) ?_
        exact J353 w42 _ _ _ hrun hP hD hK hS (lv_sub hl [] rfl)
      rcases br9 hrun with ⟨hc43, hrun⟩ | ⟨hc43, hrun⟩
      · refine lv_tableIn (off := 247) (tgt := 315) hx hb dX3_moveInCode_68 (by rw [hc43]; decide) (by rw [hc43]; decide) (by rw [hc43]; rfl) (by decide) ?_
        refine lv_aload_n hx hb dX3_moveInCode_315 rfl (lv_at hl 5 rfl) ?_
        refine va_get (D := (dC, dI)) (ci := 10) (v := .ref (p0a 17)) (C := RX3) (T := TX3) (N := 20) hx hb hts i_X3 hown hK hP 0 rfl rfl 16 (by decide) (hts _ qw935) (fun _ h9 => h9) rfl dX3_moveInCode_316 ?_
        refine lv_iload_n hx hb dX3_moveInCode_319 rfl (lv_at hl 4 rfl) ?_
        refine lv_aload_n hx hb dX3_moveInCode_320 rfl (lv_at hl 5 rfl) ?_
        refine va_get (D := (dC, dI)) (ci := 10) (v := .int (w9 0 17)) (C := RX3) (T := TX3) (N := 20) hx hb hts i_X3 hown hK hP 0 rfl rfl 17 (by decide) (hts _ qw936) (fun _ h9 => h9) rfl dX3_moveInCode_321 ?_
        refine lv_imul hx hb dX3_moveInCode_324 ?_
        refine lv_aload_n hx hb dX3_moveInCode_325 rfl (lv_at hl 3 rfl) ?_
        refine va_get (D := (dC, dI)) (ci := 3) (v := .ref ((p0_6_1a 1) 5)) (C := RX9) (T := TX9) (N := 6) hx hb hts i_X9 hown hK hP 26 rfl rfl 4 (by decide) (hts _ qw967) (fun _ h9 => h9) rfl dX3_moveInCode_326 ?_
        refine lv_iload_n hx hb dX3_moveInCode_329 rfl (lv_at hl 2 rfl) ?_
        obtain ⟨hq44, hrun⟩ := chk9 hrun
        refine va_iald hx hb hK hP 30 26 rfl rfl (ixb_in hq44) dX3_moveInCode_330 ?_
        refine lv_iadd hx hb dX3_moveInCode_331 ?_
        refine lv_aload_n hx hb dX3_moveInCode_332 rfl (lv_at hl 5 rfl) ?_
        refine va_get (D := (dC, dI)) (ci := 10) (v := .ref (p0a 16)) (C := RX3) (T := TX3) (N := 20) hx hb hts i_X3 hown hK hP 0 rfl rfl 15 (by decide) (hts _ qw906) (fun _ h9 => h9) rfl dX3_moveInCode_333 ?_
        refine lv_iload hx hb dX3_moveInCode_336 (lv_at hl 1 rfl) ?_
        refine lv_iload hx hb dX3_moveInCode_338 (lv_at hl 0 rfl) ?_
        refine lv_iadd hx hb dX3_moveInCode_340 ?_
        obtain ⟨hq45, hrun⟩ := chk9 hrun
        refine va_iald hx hb hK hP 8 7 rfl rfl (ixb_in hq45) dX3_moveInCode_341 ?_
        obtain ⟨hq46, hrun⟩ := chk9 hrun
        refine va_iast hx hb hK hP hD hS 9 8 rfl rfl (ixb_in hq46) dX3_moveInCode_342 (fun H locs hP hD hS => ?_)
        have hP : va_P (dC, dI) cls (List.flatten ([(oX3 (p0a 0) p0a p0k p0n (upw w9 17 (nn ((((p0w 0 9) - 1) * (w9 0 17)) + (((p0_6_1w 1) 5) (nn (p0w 12 (nn ((p0w 0 9) - 1))))))) (w9 16 (nn ((((p0w 0 9) - 1) * 320) + (((p0_6_1w 1) 4) (nn (p0w 12 (nn ((p0w 0 9) - 1)))))))))), (oX0 (p0a 7) p0_6a p0_6k p0_6n p0_6w), (oX9 (p0_6_1a 0 0) (p0_6_1a 0) (p0_6_1k 0) (p0_6_1n 0) (p0_6_1w 0)), (oX9 (p0_6_1a 1 0) (p0_6_1a 1) (p0_6_1k 1) (p0_6_1n 1) (p0_6_1w 1)), (oX9 (p0_6_1a 2 0) (p0_6_1a 2) (p0_6_1k 2) (p0_6_1n 2) (p0_6_1w 2)), (oX9 (p0_6_1a 3 0) (p0_6_1a 3) (p0_6_1k 3) (p0_6_1n 3) (p0_6_1w 3)), (oX9 (p0_6_1a 4 0) (p0_6_1a 4) (p0_6_1k 4) (p0_6_1n 4) (p0_6_1w 4)), (oX9 (p0_6_1a 5 0) (p0_6_1a 5) (p0_6_1k 5) (p0_6_1n 5) (p0_6_1w 5)), (oX6 (p0a 5) p0_4a p0_4k p0_4w p0_4l), [((p0_6a 2), .inl (p0_6_1c, 6, .inr (.inr (.inr (.inr (fun i => some (p0_6_1a i 0)))))))]] : List va_W)) H := hP
        have hD : va_D A (List.flatten ([(oX3 (p0a 0) p0a p0k p0n (upw w9 17 (nn ((((p0w 0 9) - 1) * (w9 0 17)) + (((p0_6_1w 1) 5) (nn (p0w 12 (nn ((p0w 0 9) - 1))))))) (w9 16 (nn ((((p0w 0 9) - 1) * 320) + (((p0_6_1w 1) 4) (nn (p0w 12 (nn ((p0w 0 9) - 1)))))))))), (oX0 (p0a 7) p0_6a p0_6k p0_6n p0_6w), (oX9 (p0_6_1a 0 0) (p0_6_1a 0) (p0_6_1k 0) (p0_6_1n 0) (p0_6_1w 0)), (oX9 (p0_6_1a 1 0) (p0_6_1a 1) (p0_6_1k 1) (p0_6_1n 1) (p0_6_1w 1)), (oX9 (p0_6_1a 2 0) (p0_6_1a 2) (p0_6_1k 2) (p0_6_1n 2) (p0_6_1w 2)), (oX9 (p0_6_1a 3 0) (p0_6_1a 3) (p0_6_1k 3) (p0_6_1n 3) (p0_6_1w 3)), (oX9 (p0_6_1a 4 0) (p0_6_1a 4) (p0_6_1k 4) (p0_6_1n 4) (p0_6_1w 4)), (oX9 (p0_6_1a 5 0) (p0_6_1a 5) (p0_6_1k 5) (p0_6_1n 5) (p0_6_1w 5)), (oX6 (p0a 5) p0_4a p0_4k p0_4w p0_4l), [((p0_6a 2), .inl (p0_6_1c, 6, .inr (.inr (.inr (.inr (fun i => some (p0_6_1a i 0)))))))]] : List va_W)) := hD
        obtain ⟨w47, ew47, hrun⟩ := let9 hrun
        rw [← ew47] at hP hD
        refine lv_goto (tgt := 353) hx hb dX3_moveInCode_343 (by decide) ?_
        exact J353 w47 _ _ _ hrun hP hD hK hS (lv_sub hl [] rfl)
      rcases br9 hrun with ⟨hc48, hrun⟩ | ⟨hc48, hrun⟩
      · refine lv_tableIn (off := 83) (tgt := 151) hx hb dX3_moveInCode_68 (by rw [hc48]; decide) (by rw [hc48]; decide) (by rw [hc48]; rfl) (by decide) ?_
        refine lv_aload_n hx hb dX3_moveInCode_151 rfl (lv_at hl 5 rfl) ?_
        refine va_get (D := (dC, dI)) (ci := 10) (v := .ref (p0a 16)) (C := RX3) (T := TX3) (N := 20) hx hb hts i_X3 hown hK hP 0 rfl rfl 15 (by decide) (hts _ qw906) (fun _ h9 => h9) rfl dX3_moveInCode_152 ?_
        refine lv_iload hx hb dX3_moveInCode_155 (lv_at hl 1 rfl) ?_
        refine lv_iload hx hb dX3_moveInCode_157 (lv_at hl 0 rfl) ?_
        refine lv_iadd hx hb dX3_moveInCode_159 ?_
        obtain ⟨hq49, hrun⟩ := chk9 hrun
        refine va_iald hx hb hK hP 8 7 rfl rfl (ixb_in hq49) dX3_moveInCode_160 ?_
        rcases br9 hrun with ⟨hc50, hrun⟩ | ⟨hc50, hrun⟩
        · refine lv_if_ne (tgt := 353) hx hb dX3_moveInCode_161 (by decide) (fun c => absurd hc50 c) (fun _ => ?_)
          refine lv_aload_n hx hb dX3_moveInCode_164 rfl (lv_at hl 5 rfl) ?_
          refine va_get (D := (dC, dI)) (ci := 10) (v := .ref (p0a 12)) (C := RX3) (T := TX3) (N := 20) hx hb hts i_X3 hown hK hP 0 rfl rfl 11 (by decide) (hts _ qw915) (fun _ h9 => h9) rfl dX3_moveInCode_165 ?_
          refine lv_iload_n hx hb dX3_moveInCode_168 rfl (lv_at hl 4 rfl) ?_
          refine lv_aload_n hx hb dX3_moveInCode_169 rfl (lv_at hl 3 rfl) ?_
          refine va_get (D := (dC, dI)) (ci := 3) (v := .ref ((p0_6_1a 1) 5)) (C := RX9) (T := TX9) (N := 6) hx hb hts i_X9 hown hK hP 26 rfl rfl 4 (by decide) (hts _ qw967) (fun _ h9 => h9) rfl dX3_moveInCode_170 ?_
          refine lv_iload_n hx hb dX3_moveInCode_173 rfl (lv_at hl 2 rfl) ?_
          obtain ⟨hq51, hrun⟩ := chk9 hrun
          refine va_iald hx hb hK hP 30 26 rfl rfl (ixb_in hq51) dX3_moveInCode_174 ?_
          obtain ⟨hq52, hrun⟩ := chk9 hrun
          refine va_iast hx hb hK hP hD hS 4 3 rfl rfl (ixb_in hq52) dX3_moveInCode_175 (fun H locs hP hD hS => ?_)
          have hP : va_P (dC, dI) cls (List.flatten ([(oX3 (p0a 0) p0a p0k p0n (upw w9 12 (nn ((p0w 0 9) - 1)) (((p0_6_1w 1) 5) (nn (p0w 12 (nn ((p0w 0 9) - 1))))))), (oX0 (p0a 7) p0_6a p0_6k p0_6n p0_6w), (oX9 (p0_6_1a 0 0) (p0_6_1a 0) (p0_6_1k 0) (p0_6_1n 0) (p0_6_1w 0)), (oX9 (p0_6_1a 1 0) (p0_6_1a 1) (p0_6_1k 1) (p0_6_1n 1) (p0_6_1w 1)), (oX9 (p0_6_1a 2 0) (p0_6_1a 2) (p0_6_1k 2) (p0_6_1n 2) (p0_6_1w 2)), (oX9 (p0_6_1a 3 0) (p0_6_1a 3) (p0_6_1k 3) (p0_6_1n 3) (p0_6_1w 3)), (oX9 (p0_6_1a 4 0) (p0_6_1a 4) (p0_6_1k 4) (p0_6_1n 4) (p0_6_1w 4)), (oX9 (p0_6_1a 5 0) (p0_6_1a 5) (p0_6_1k 5) (p0_6_1n 5) (p0_6_1w 5)), (oX6 (p0a 5) p0_4a p0_4k p0_4w p0_4l), [((p0_6a 2), .inl (p0_6_1c, 6, .inr (.inr (.inr (.inr (fun i => some (p0_6_1a i 0)))))))]] : List va_W)) H := hP
          have hD : va_D A (List.flatten ([(oX3 (p0a 0) p0a p0k p0n (upw w9 12 (nn ((p0w 0 9) - 1)) (((p0_6_1w 1) 5) (nn (p0w 12 (nn ((p0w 0 9) - 1))))))), (oX0 (p0a 7) p0_6a p0_6k p0_6n p0_6w), (oX9 (p0_6_1a 0 0) (p0_6_1a 0) (p0_6_1k 0) (p0_6_1n 0) (p0_6_1w 0)), (oX9 (p0_6_1a 1 0) (p0_6_1a 1) (p0_6_1k 1) (p0_6_1n 1) (p0_6_1w 1)), (oX9 (p0_6_1a 2 0) (p0_6_1a 2) (p0_6_1k 2) (p0_6_1n 2) (p0_6_1w 2)), (oX9 (p0_6_1a 3 0) (p0_6_1a 3) (p0_6_1k 3) (p0_6_1n 3) (p0_6_1w 3)), (oX9 (p0_6_1a 4 0) (p0_6_1a 4) (p0_6_1k 4) (p0_6_1n 4) (p0_6_1w 4)), (oX9 (p0_6_1a 5 0) (p0_6_1a 5) (p0_6_1k 5) (p0_6_1n 5) (p0_6_1w 5)), (oX6 (p0a 5) p0_4a p0_4k p0_4w p0_4l), [((p0_6a 2), .inl (p0_6_1c, 6, .inr (.inr (.inr (.inr (fun i => some (p0_6_1a i 0)))))))]] : List va_W)) := hD
          obtain ⟨w53, ew53, hrun⟩ := let9 hrun
          rw [← ew53] at hP hD
          refine lv_goto (tgt := 353) hx hb dX3_moveInCode_176 (by decide) ?_
          exact J353 w53 _ _ _ hrun hP hD hK hS (lv_sub hl [] rfl)
        · refine lv_if_ne (tgt := 353) hx hb dX3_moveInCode_161 (by decide) (fun _ => ?_) (fun c => absurd c hc50)
          exact J353 w9 _ _ _ hrun hP hD hK hS (lv_sub hl [] rfl)
      refine lv_tableOut (tgt := 346) hx hb dX3_moveInCode_68 (show Int32.toInt (((p0_6_1w 1) 2) (nn (p0w 12 (nn ((p0w 0 9) - 1))))) < 22 ∨ (28 : Int) < Int32.toInt (((p0_6_1w 1) 2) (nn (p0w 12 (nn ((p0w 0 9) - 1))))) from by have g0 := lv_neT hc12 (show Int32.toInt 22 = 22 by decide); have g1 := lv_neT hc15 (show Int32.toInt 23 = 23 by decide); have g2 := lv_neT hc21 (show Int32.toInt 24 = 24 by decide); have g3 := lv_neT hc33 (show Int32.toInt 25 = 25 by decide); have g4 := lv_neT hc38 (show Int32.toInt 26 = 26 by decide); have g5 := lv_neT hc43 (show Int32.toInt 27 = 27 by decide); have g6 := lv_neT hc48 (show Int32.toInt 28 = 28 by decide); omega) (by decide) ?_
      refine lv_aload_n hx hb dX3_moveInCode_346 rfl (lv_at hl 5 rfl) ?_
      refine lv_aload_n hx hb dX3_moveInCode_347 rfl (lv_at hl 3 rfl) ?_
      refine lv_iload_n hx hb dX3_moveInCode_348 rfl (lv_at hl 4 rfl) ?_
      refine lv_iload_n hx hb dX3_moveInCode_349 rfl (lv_at hl 2 rfl) ?_
      obtain ⟨o_54, hc_54, hrun⟩ := bnd9 hrun
      have hPx : va_P (dC, dI) cls ((List.flatten ([(oX3 (p0a 0) p0a p0k p0n w9), (oX9 (p0_6_1a 1 0) (p0_6_1a 1) (p0_6_1k 1) (p0_6_1n 1) (p0_6_1w 1)), (oX6 (p0a 5) p0_4a p0_4k p0_4w p0_4l)] : List va_W)) ++ (List.flatten ([(oX0 (p0a 7) p0_6a p0_6k p0_6n p0_6w), (oX9 (p0_6_1a 0 0) (p0_6_1a 0) (p0_6_1k 0) (p0_6_1n 0) (p0_6_1w 0)), (oX9 (p0_6_1a 2 0) (p0_6_1a 2) (p0_6_1k 2) (p0_6_1n 2) (p0_6_1w 2)), (oX9 (p0_6_1a 3 0) (p0_6_1a 3) (p0_6_1k 3) (p0_6_1n 3) (p0_6_1w 3)), (oX9 (p0_6_1a 4 0) (p0_6_1a 4) (p0_6_1k 4) (p0_6_1n 4) (p0_6_1w 4)), (oX9 (p0_6_1a 5 0) (p0_6_1a 5) (p0_6_1k 5) (p0_6_1n 5) (p0_6_1w 5)), [((p0_6a 2), .inl (p0_6_1c, 6, .inr (.inr (.inr (.inr (fun i => some (p0_6_1a i 0)))))))]] : List va_W))) H := vP_fa (vP_perm hP (bP (((List.Perm.refl _)).trans (((((((((((List.Perm.refl _)).cons _).trans (List.Perm.swap _ _ _))).cons _).trans (List.Perm.swap _ _ _))).trans (((((((((((((((((((((List.Perm.refl _)).cons _).trans (List.Perm.swap _ _ _))).cons _).trans (List.Perm.swap _ _ _))).cons _).trans (List.Perm.swap _ _ _))).cons _).trans (List.Perm.swap _ _ _))).cons _).trans (List.Perm.swap _ _ _))).cons _).trans (List.Perm.swap _ _ _))).cons _))).cons _))))
      have hDx : va_D A ((List.flatten ([(oX3 (p0a 0) p0a p0k p0n w9), (oX9 (p0_6_1a 1 0) (p0_6_1a 1) (p0_6_1k 1) (p0_6_1n 1) (p0_6_1w 1)), (oX6 (p0a 5) p0_4a p0_4k p0_4w p0_4l)] : List va_W)) ++ (List.flatten ([(oX0 (p0a 7) p0_6a p0_6k p0_6n p0_6w), (oX9 (p0_6_1a 0 0) (p0_6_1a 0) (p0_6_1k 0) (p0_6_1n 0) (p0_6_1w 0)), (oX9 (p0_6_1a 2 0) (p0_6_1a 2) (p0_6_1k 2) (p0_6_1n 2) (p0_6_1w 2)), (oX9 (p0_6_1a 3 0) (p0_6_1a 3) (p0_6_1k 3) (p0_6_1n 3) (p0_6_1w 3)), (oX9 (p0_6_1a 4 0) (p0_6_1a 4) (p0_6_1k 4) (p0_6_1n 4) (p0_6_1w 4)), (oX9 (p0_6_1a 5 0) (p0_6_1a 5) (p0_6_1k 5) (p0_6_1n 5) (p0_6_1w 5)), [((p0_6a 2), .inl (p0_6_1c, 6, .inr (.inr (.inr (.inr (fun i => some (p0_6_1a i 0)))))))]] : List va_W))) := vD_fa (vD_perm hD (bP (((List.Perm.refl _)).trans (((((((((((List.Perm.refl _)).cons _).trans (List.Perm.swap _ _ _))).cons _).trans (List.Perm.swap _ _ _))).trans (((((((((((((((((((((List.Perm.refl _)).cons _).trans (List.Perm.swap _ _ _))).cons _).trans (List.Perm.swap _ _ _))).cons _).trans (List.Perm.swap _ _ _))).cons _).trans (List.Perm.swap _ _ _))).cons _).trans (List.Perm.swap _ _ _))).cons _).trans (List.Perm.swap _ _ _))).cons _))).cons _))))
      have hKx : va_K (dC, dI) cls ((List.flatten ([(tX3 p0k), (tX9 (p0_6_1k 1)), (tX6 p0_4k)] : List (List (ClassId × FieldType)))) ++ (List.flatten ([(tX0 p0_6k), (tX9 (p0_6_1k 0)), (tX9 (p0_6_1k 2)), (tX9 (p0_6_1k 3)), (tX9 (p0_6_1k 4)), (tX9 (p0_6_1k 5)), [(p0_6_1c, .object RX9)]] : List (List (ClassId × FieldType))))) s := vK_fa (vK_perm hK (bP (((List.Perm.refl _)).trans (((((((((((List.Perm.refl _)).cons _).trans (List.Perm.swap _ _ _))).cons _).trans (List.Perm.swap _ _ _))).trans (((((((((((((((((((((List.Perm.refl _)).cons _).trans (List.Perm.swap _ _ _))).cons _).trans (List.Perm.swap _ _ _))).cons _).trans (List.Perm.swap _ _ _))).cons _).trans (List.Perm.swap _ _ _))).cons _).trans (List.Perm.swap _ _ _))).cons _).trans (List.Perm.swap _ _ _))).cons _))).cons _))))
      have hPc := vP_l hPx
      have hDc := vD_l hDx
      have hKc := vK_l hKx
      have hFc := vfree hDx hS hA
      refine va_callv (va_runV (As := [.ref (p0_6_1a 1 0), .int ((p0w 0 9) - 1), .int (p0w 12 (nn ((p0w 0 9) - 1)))]) (rest := []) ⟨hx, hb, hml, hown, hts⟩ (kX3_moveLine l dC dI (p0a := p0a) (p0k := p0k) (p0n := p0n) (p0w := w9) (p1a := (st0 (p0_6_1a 1 0) (p0_6_1a 1))) (p1k := (p0_6_1k 1)) (p1n := (p0_6_1n 1)) (p1w := (p0_6_1w 1)) (p2 := ((p0w 0 9) - 1)) (p3 := (p0w 12 (nn ((p0w 0 9) - 1)))) (p0_4a := p0_4a) (p0_4k := p0_4k) (p0_4w := p0_4w) (p0_4l := p0_4l) (sz := _) (o := o_54) (hrun := hc_54)) (cwV 3 hts (gi_V qw990 qw991 qw992 qw903 (gi_z qw989)) rfl rfl rfl (by decide +kernel) ⟨Nat.le_of_ble_eq_true rfl, Nat.le_of_ble_eq_true rfl⟩) ⟨PRE.blind, va_recv hKc hPc (ci := 10) (q0 := 0) rfl rfl, PRE.of hE hS hFc hPc hKc hDc⟩ rfl rfl hl.1 rfl (lv_room (Nat.le_of_ble_eq_true rfl)) dX3_moveInCode_350 ⟨(Nat.le_of_ble_eq_true rfl), (Nat.le_of_ble_eq_true rfl)⟩) hS (fun q _ h => hFc q h) hFc (fun u t H locs ht hvm hw hB hz1 hk1 hS => ?_)
      obtain ⟨b1, b2, b3⟩ := hB
      rw [ht] at b1
      obtain ⟨hP, hD, hK⟩ := JOINC (wc := (List.flatten ([(oX3 (p0a 0) p0a p0k p0n w9), (oX9 (p0_6_1a 1 0) (p0_6_1a 1) (p0_6_1k 1) (p0_6_1n 1) (p0_6_1w 1)), (oX6 (p0a 5) p0_4a p0_4k p0_4w p0_4l)] : List va_W))) (wr := (List.flatten ([(oX0 (p0a 7) p0_6a p0_6k p0_6n p0_6w), (oX9 (p0_6_1a 0 0) (p0_6_1a 0) (p0_6_1k 0) (p0_6_1n 0) (p0_6_1w 0)), (oX9 (p0_6_1a 2 0) (p0_6_1a 2) (p0_6_1k 2) (p0_6_1n 2) (p0_6_1w 2)), (oX9 (p0_6_1a 3 0) (p0_6_1a 3) (p0_6_1k 3) (p0_6_1n 3) (p0_6_1w 3)), (oX9 (p0_6_1a 4 0) (p0_6_1a 4) (p0_6_1k 4) (p0_6_1n 4) (p0_6_1w 4)), (oX9 (p0_6_1a 5 0) (p0_6_1a 5) (p0_6_1k 5) (p0_6_1n 5) (p0_6_1w 5)), [((p0_6a 2), .inl (p0_6_1c, 6, .inr (.inr (.inr (.inr (fun i => some (p0_6_1a i 0)))))))]] : List va_W))) (w1 := (List.flatten ([(oX3 (p0a 0) p0a p0k p0n o_54), (oX9 (p0_6_1a 1 0) (p0_6_1a 1) (p0_6_1k 1) (p0_6_1n 1) (p0_6_1w 1)), (oX6 (p0a 5) p0_4a p0_4k p0_4w p0_4l)] : List va_W))) (t1 := (List.flatten ([(tX3 p0k), (tX9 (p0_6_1k 1)), (tX6 p0_4k)] : List (List (ClassId × FieldType))))) hPx hDx hKx hk1 hFc b1 (va_K.moved hvm.symm b2) b3
      have hP : va_P (dC, dI) cls (List.flatten ([(oX3 (p0a 0) p0a p0k p0n o_54), (oX0 (p0a 7) p0_6a p0_6k p0_6n p0_6w), (oX9 (p0_6_1a 0 0) (p0_6_1a 0) (p0_6_1k 0) (p0_6_1n 0) (p0_6_1w 0)), (oX9 (p0_6_1a 1 0) (p0_6_1a 1) (p0_6_1k 1) (p0_6_1n 1) (p0_6_1w 1)), (oX9 (p0_6_1a 2 0) (p0_6_1a 2) (p0_6_1k 2) (p0_6_1n 2) (p0_6_1w 2)), (oX9 (p0_6_1a 3 0) (p0_6_1a 3) (p0_6_1k 3) (p0_6_1n 3) (p0_6_1w 3)), (oX9 (p0_6_1a 4 0) (p0_6_1a 4) (p0_6_1k 4) (p0_6_1n 4) (p0_6_1w 4)), (oX9 (p0_6_1a 5 0) (p0_6_1a 5) (p0_6_1k 5) (p0_6_1n 5) (p0_6_1w 5)), (oX6 (p0a 5) p0_4a p0_4k p0_4w p0_4l), [((p0_6a 2), .inl (p0_6_1c, 6, .inr (.inr (.inr (.inr (fun i => some (p0_6_1a i 0)))))))]] : List va_W)) H := vP_perm (vP_fb hP) (bP (((List.Perm.refl _)).trans (((((((((((List.Perm.refl _)).cons _).trans (List.Perm.swap _ _ _))).cons _).trans (List.Perm.swap _ _ _))).trans (((((((((((List.Perm.refl _)).cons _).trans (List.Perm.swap _ _ _))).cons _).trans (List.Perm.swap _ _ _))).trans (((((List.Perm.refl _)).trans ((((((((List.Perm.refl _)).cons _).trans (List.Perm.swap _ _ _))).trans ((((((((List.Perm.refl _)).cons _).trans (List.Perm.swap _ _ _))).trans ((((((((List.Perm.refl _)).cons _).trans (List.Perm.swap _ _ _))).trans ((((((List.Perm.refl _)).cons _).trans (List.Perm.swap _ _ _))).cons _))).cons _))).cons _))).cons _))).cons _))).cons _))).cons _)))
      have hD : va_D A (List.flatten ([(oX3 (p0a 0) p0a p0k p0n o_54), (oX0 (p0a 7) p0_6a p0_6k p0_6n p0_6w), (oX9 (p0_6_1a 0 0) (p0_6_1a 0) (p0_6_1k 0) (p0_6_1n 0) (p0_6_1w 0)), (oX9 (p0_6_1a 1 0) (p0_6_1a 1) (p0_6_1k 1) (p0_6_1n 1) (p0_6_1w 1)), (oX9 (p0_6_1a 2 0) (p0_6_1a 2) (p0_6_1k 2) (p0_6_1n 2) (p0_6_1w 2)), (oX9 (p0_6_1a 3 0) (p0_6_1a 3) (p0_6_1k 3) (p0_6_1n 3) (p0_6_1w 3)), (oX9 (p0_6_1a 4 0) (p0_6_1a 4) (p0_6_1k 4) (p0_6_1n 4) (p0_6_1w 4)), (oX9 (p0_6_1a 5 0) (p0_6_1a 5) (p0_6_1k 5) (p0_6_1n 5) (p0_6_1w 5)), (oX6 (p0a 5) p0_4a p0_4k p0_4w p0_4l), [((p0_6a 2), .inl (p0_6_1c, 6, .inr (.inr (.inr (.inr (fun i => some (p0_6_1a i 0)))))))]] : List va_W)) := vD_perm (vD_fb hD) (bP (((List.Perm.refl _)).trans (((((((((((List.Perm.refl _)).cons _).trans (List.Perm.swap _ _ _))).cons _).trans (List.Perm.swap _ _ _))).trans (((((((((((List.Perm.refl _)).cons _).trans (List.Perm.swap _ _ _))).cons _).trans (List.Perm.swap _ _ _))).trans (((((List.Perm.refl _)).trans ((((((((List.Perm.refl _)).cons _).trans (List.Perm.swap _ _ _))).trans ((((((((List.Perm.refl _)).cons _).trans (List.Perm.swap _ _ _))).trans ((((((((List.Perm.refl _)).cons _).trans (List.Perm.swap _ _ _))).trans ((((((List.Perm.refl _)).cons _).trans (List.Perm.swap _ _ _))).cons _))).cons _))).cons _))).cons _))).cons _))).cons _))).cons _)))
      have hK : va_K (dC, dI) cls (List.flatten ([(tX3 p0k), (tX0 p0_6k), (tX9 (p0_6_1k 0)), (tX9 (p0_6_1k 1)), (tX9 (p0_6_1k 2)), (tX9 (p0_6_1k 3)), (tX9 (p0_6_1k 4)), (tX9 (p0_6_1k 5)), (tX6 p0_4k), [(p0_6_1c, .object RX9)]] : List (List (ClassId × FieldType)))) s := vK_perm (vK_fb hK) (bP (((List.Perm.refl _)).trans (((((((((((List.Perm.refl _)).cons _).trans (List.Perm.swap _ _ _))).cons _).trans (List.Perm.swap _ _ _))).trans (((((((((((List.Perm.refl _)).cons _).trans (List.Perm.swap _ _ _))).cons _).trans (List.Perm.swap _ _ _))).trans (((((List.Perm.refl _)).trans ((((((((List.Perm.refl _)).cons _).trans (List.Perm.swap _ _ _))).trans ((((((((List.Perm.refl _)).cons _).trans (List.Perm.swap _ _ _))).trans ((((((((List.Perm.refl _)).cons _).trans (List.Perm.swap _ _ _))).trans ((((((List.Perm.refl _)).cons _).trans (List.Perm.swap _ _ _))).cons _))).cons _))).cons _))).cons _))).cons _))).cons _))).cons _)))
      exact J353 o_54 _ _ _ hrun hP hD hK hS (lv_sub hl [] rfl)
  · refine W.eq (g2 := F0 m 21 ls [.ref (p0_6_1a 2 0)]) rfl ?_
    refine lv_astore_n (lv' := [(2, .ref (p0_6_1a 2 0)), (1, .int ((p0w 0 9) - 1)), (0, .ref (p0a 0))]) hx hb dX3_moveInCode_21 rfl hl (by decide) rfl (fun ls hl => ?_)
    refine lv_aload_n hx hb dX3_moveInCode_22 rfl (lv_at hl 2 rfl) ?_
    refine va_get (D := (dC, dI)) (ci := 10) (v := .ref (p0a 12)) (C := RX3) (T := TX3) (N := 20) hx hb hts i_X3 hown hK hP 0 rfl rfl 11 (by decide) (hts _ qw915) (fun _ h9 => h9) rfl dX3_moveInCode_23 ?_
    refine lv_iload_n hx hb dX3_moveInCode_26 rfl (lv_at hl 1 rfl) ?_
    obtain ⟨hq4, hrun⟩ := chk9 hrun
    refine va_iald hx hb hK hP 4 3 rfl rfl (ixb_in hq4) dX3_moveInCode_27 ?_
    refine lv_istore_n (lv' := [(3, .int (p0w 12 (nn ((p0w 0 9) - 1)))), (2, .ref (p0_6_1a 2 0)), (1, .int ((p0w 0 9) - 1)), (0, .ref (p0a 0))]) hx hb dX3_moveInCode_28 rfl hl (by decide) rfl (fun ls hl => ?_)
    refine lv_aload_n hx hb dX3_moveInCode_29 rfl (lv_at hl 3 rfl) ?_
    refine lv_iconst (v := 1) hx hb dX3_moveInCode_30 (by decide) ?_
    obtain ⟨o_5, hc_5, hrun⟩ := bnd9 hrun
    have hPx : va_P (dC, dI) cls ((List.flatten ([(oX3 (p0a 0) p0a p0k p0n p0w)] : List va_W)) ++ (List.flatten ([(oX0 (p0a 7) p0_6a p0_6k p0_6n p0_6w), (oX9 (p0_6_1a 0 0) (p0_6_1a 0) (p0_6_1k 0) (p0_6_1n 0) (p0_6_1w 0)), (oX9 (p0_6_1a 1 0) (p0_6_1a 1) (p0_6_1k 1) (p0_6_1n 1) (p0_6_1w 1)), (oX9 (p0_6_1a 2 0) (p0_6_1a 2) (p0_6_1k 2) (p0_6_1n 2) (p0_6_1w 2)), (oX9 (p0_6_1a 3 0) (p0_6_1a 3) (p0_6_1k 3) (p0_6_1n 3) (p0_6_1w 3)), (oX9 (p0_6_1a 4 0) (p0_6_1a 4) (p0_6_1k 4) (p0_6_1n 4) (p0_6_1w 4)), (oX9 (p0_6_1a 5 0) (p0_6_1a 5) (p0_6_1k 5) (p0_6_1n 5) (p0_6_1w 5)), (oX6 (p0a 5) p0_4a p0_4k p0_4w p0_4l), [((p0_6a 2), .inl (p0_6_1c, 6, .inr (.inr (.inr (.inr (fun i => some (p0_6_1a i 0)))))))]] : List va_W))) H := vP_fa (vP_perm hP (bP (List.Perm.refl _)))
    have hDx : va_D A ((List.flatten ([(oX3 (p0a 0) p0a p0k p0n p0w)] : List va_W)) ++ (List.flatten ([(oX0 (p0a 7) p0_6a p0_6k p0_6n p0_6w), (oX9 (p0_6_1a 0 0) (p0_6_1a 0) (p0_6_1k 0) (p0_6_1n 0) (p0_6_1w 0)), (oX9 (p0_6_1a 1 0) (p0_6_1a 1) (p0_6_1k 1) (p0_6_1n 1) (p0_6_1w 1)), (oX9 (p0_6_1a 2 0) (p0_6_1a 2) (p0_6_1k 2) (p0_6_1n 2) (p0_6_1w 2)), (oX9 (p0_6_1a 3 0) (p0_6_1a 3) (p0_6_1k 3) (p0_6_1n 3) (p0_6_1w 3)), (oX9 (p0_6_1a 4 0) (p0_6_1a 4) (p0_6_1k 4) (p0_6_1n 4) (p0_6_1w 4)), (oX9 (p0_6_1a 5 0) (p0_6_1a 5) (p0_6_1k 5) (p0_6_1n 5) (p0_6_1w 5)), (oX6 (p0a 5) p0_4a p0_4k p0_4w p0_4l), [((p0_6a 2), .inl (p0_6_1c, 6, .inr (.inr (.inr (.inr (fun i => some (p0_6_1a i 0)))))))]] : List va_W))) := vD_fa (vD_perm hD (bP (List.Perm.refl _)))
    have hKx : va_K (dC, dI) cls ((List.flatten ([(tX3 p0k)] : List (List (ClassId × FieldType)))) ++ (List.flatten ([(tX0 p0_6k), (tX9 (p0_6_1k 0)), (tX9 (p0_6_1k 1)), (tX9 (p0_6_1k 2)), (tX9 (p0_6_1k 3)), (tX9 (p0_6_1k 4)), (tX9 (p0_6_1k 5)), (tX6 p0_4k), [(p0_6_1c, .object RX9)]] : List (List (ClassId × FieldType))))) s := vK_fa (vK_perm hK (bP (List.Perm.refl _)))
    have hPc := vP_l hPx
    have hDc := vD_l hDx
    have hKc := vK_l hKx
    have hFc := vfree hDx hS hA
    refine va_calli (va_runV (As := [.int 1]) (rest := []) ⟨hx, hb, hml, hown, hts⟩ (kX3_tick l dC dI (p0a := p0a) (p0k := p0k) (p0n := p0n) (p0w := p0w) (p1 := 1) (sz := _) (o := o_5) (hrun := hc_5)) (cwV 1 hts (gi_V qw939 qw940 qw941 qw903 (gi_z qw938)) rfl rfl rfl (by decide +kernel) ⟨Nat.le_of_ble_eq_true rfl, Nat.le_of_ble_eq_true rfl⟩) ⟨PRE.blind, va_recv hKc hPc (ci := 10) (q0 := 0) rfl rfl, PRE.of hE hS hFc hPc hKc hDc⟩ rfl rfl hl.1 rfl (lv_room (Nat.le_of_ble_eq_true rfl)) dX3_moveInCode_31 ⟨(Nat.le_of_ble_eq_true rfl), (Nat.le_of_ble_eq_true rfl)⟩) hS (fun q _ h => hFc q h) hFc (fun r6 u t H locs ht hvm hw hB hz1 hk1 hS => ?_)
    obtain ⟨b1, b2, b3⟩ := hB
    rw [ht] at b1
    obtain ⟨hP, hD, hK⟩ := JOINC (wc := (List.flatten ([(oX3 (p0a 0) p0a p0k p0n p0w)] : List va_W))) (wr := (List.flatten ([(oX0 (p0a 7) p0_6a p0_6k p0_6n p0_6w), (oX9 (p0_6_1a 0 0) (p0_6_1a 0) (p0_6_1k 0) (p0_6_1n 0) (p0_6_1w 0)), (oX9 (p0_6_1a 1 0) (p0_6_1a 1) (p0_6_1k 1) (p0_6_1n 1) (p0_6_1w 1)), (oX9 (p0_6_1a 2 0) (p0_6_1a 2) (p0_6_1k 2) (p0_6_1n 2) (p0_6_1w 2)), (oX9 (p0_6_1a 3 0) (p0_6_1a 3) (p0_6_1k 3) (p0_6_1n 3) (p0_6_1w 3)), (oX9 (p0_6_1a 4 0) (p0_6_1a 4) (p0_6_1k 4) (p0_6_1n 4) (p0_6_1w 4)), (oX9 (p0_6_1a 5 0) (p0_6_1a 5) (p0_6_1k 5) (p0_6_1n 5) (p0_6_1w 5)), (oX6 (p0a 5) p0_4a p0_4k p0_4w p0_4l), [((p0_6a 2), .inl (p0_6_1c, 6, .inr (.inr (.inr (.inr (fun i => some (p0_6_1a i 0)))))))]] : List va_W))) (w1 := (List.flatten ([(oX3 (p0a 0) p0a p0k p0n (o_5.2))] : List va_W))) (t1 := (List.flatten ([(tX3 p0k)] : List (List (ClassId × FieldType))))) hPx hDx hKx hk1 hFc b1 (va_K.moved hvm.symm b2) b3
    have hP : va_P (dC, dI) cls (List.flatten ([(oX3 (p0a 0) p0a p0k p0n (o_5.2)), (oX0 (p0a 7) p0_6a p0_6k p0_6n p0_6w), (oX9 (p0_6_1a 0 0) (p0_6_1a 0) (p0_6_1k 0) (p0_6_1n 0) (p0_6_1w 0)), (oX9 (p0_6_1a 1 0) (p0_6_1a 1) (p0_6_1k 1) (p0_6_1n 1) (p0_6_1w 1)), (oX9 (p0_6_1a 2 0) (p0_6_1a 2) (p0_6_1k 2) (p0_6_1n 2) (p0_6_1w 2)), (oX9 (p0_6_1a 3 0) (p0_6_1a 3) (p0_6_1k 3) (p0_6_1n 3) (p0_6_1w 3)), (oX9 (p0_6_1a 4 0) (p0_6_1a 4) (p0_6_1k 4) (p0_6_1n 4) (p0_6_1w 4)), (oX9 (p0_6_1a 5 0) (p0_6_1a 5) (p0_6_1k 5) (p0_6_1n 5) (p0_6_1w 5)), (oX6 (p0a 5) p0_4a p0_4k p0_4w p0_4l), [((p0_6a 2), .inl (p0_6_1c, 6, .inr (.inr (.inr (.inr (fun i => some (p0_6_1a i 0)))))))]] : List va_W)) H := vP_perm (vP_fb hP) (bP (List.Perm.refl _))
    have hD : va_D A (List.flatten ([(oX3 (p0a 0) p0a p0k p0n (o_5.2)), (oX0 (p0a 7) p0_6a p0_6k p0_6n p0_6w), (oX9 (p0_6_1a 0 0) (p0_6_1a 0) (p0_6_1k 0) (p0_6_1n 0) (p0_6_1w 0)), (oX9 (p0_6_1a 1 0) (p0_6_1a 1) (p0_6_1k 1) (p0_6_1n 1) (p0_6_1w 1)), (oX9 (p0_6_1a 2 0) (p0_6_1a 2) (p0_6_1k 2) (p0_6_1n 2) (p0_6_1w 2)), (oX9 (p0_6_1a 3 0) (p0_6_1a 3) (p0_6_1k 3) (p0_6_1n 3) (p0_6_1w 3)), (oX9 (p0_6_1a 4 0) (p0_6_1a 4) (p0_6_1k 4) (p0_6_1n 4) (p0_6_1w 4)), (oX9 (p0_6_1a 5 0) (p0_6_1a 5) (p0_6_1k 5) (p0_6_1n 5) (p0_6_1w 5)), (oX6 (p0a 5) p0_4a p0_4k p0_4w p0_4l), [((p0_6a 2), .inl (p0_6_1c, 6, .inr (.inr (.inr (.inr (fun i => some (p0_6_1a i 0)))))))]] : List va_W)) := vD_perm (vD_fb hD) (bP (List.Perm.refl _))
    have hK : va_K (dC, dI) cls (List.flatten ([(tX3 p0k), (tX0 p0_6k), (tX9 (p0_6_1k 0)), (tX9 (p0_6_1k 1)), (tX9 (p0_6_1k 2)), (tX9 (p0_6_1k 3)), (tX9 (p0_6_1k 4)), (tX9 (p0_6_1k 5)), (tX6 p0_4k), [(p0_6_1c, .object RX9)]] : List (List (ClassId × FieldType)))) s := vK_perm (vK_fb hK) (bP (List.Perm.refl _))
    obtain rfl : r6 = (o_5.1) := hw
    rcases br9 hrun with ⟨hc7, hrun⟩ | ⟨hc7, hrun⟩
    · refine lv_if_ne (tgt := 38) hx hb dX3_moveInCode_34 (by decide) (fun c => absurd hc7 c) (fun _ => ?_)
      have ho9 : (o_5.2) = o := Option.some.inj hrun
      have hP9 : va_P (dC, dI) cls (List.flatten ([(oX3 (p0a 0) p0a p0k p0n o), (oX0 (p0a 7) p0_6a p0_6k p0_6n p0_6w), (oX9 (p0_6_1a 0 0) (p0_6_1a 0) (p0_6_1k 0) (p0_6_1n 0) (p0_6_1w 0)), (oX9 (p0_6_1a 1 0) (p0_6_1a 1) (p0_6_1k 1) (p0_6_1n 1) (p0_6_1w 1)), (oX9 (p0_6_1a 2 0) (p0_6_1a 2) (p0_6_1k 2) (p0_6_1n 2) (p0_6_1w 2)), (oX9 (p0_6_1a 3 0) (p0_6_1a 3) (p0_6_1k 3) (p0_6_1n 3) (p0_6_1w 3)), (oX9 (p0_6_1a 4 0) (p0_6_1a 4) (p0_6_1k 4) (p0_6_1n 4) (p0_6_1w 4)), (oX9 (p0_6_1a 5 0) (p0_6_1a 5) (p0_6_1k 5) (p0_6_1n 5) (p0_6_1w 5)), (oX6 (p0a 5) p0_4a p0_4k p0_4w p0_4l), [((p0_6a 2), .inl (p0_6_1c, 6, .inr (.inr (.inr (.inr (fun i => some (p0_6_1a i 0)))))))]] : List va_W)) H := by first | exact hP | (rw [← ho9]; exact hP)
      have hD9 : va_D A (List.flatten ([(oX3 (p0a 0) p0a p0k p0n o), (oX0 (p0a 7) p0_6a p0_6k p0_6n p0_6w), (oX9 (p0_6_1a 0 0) (p0_6_1a 0) (p0_6_1k 0) (p0_6_1n 0) (p0_6_1w 0)), (oX9 (p0_6_1a 1 0) (p0_6_1a 1) (p0_6_1k 1) (p0_6_1n 1) (p0_6_1w 1)), (oX9 (p0_6_1a 2 0) (p0_6_1a 2) (p0_6_1k 2) (p0_6_1n 2) (p0_6_1w 2)), (oX9 (p0_6_1a 3 0) (p0_6_1a 3) (p0_6_1k 3) (p0_6_1n 3) (p0_6_1w 3)), (oX9 (p0_6_1a 4 0) (p0_6_1a 4) (p0_6_1k 4) (p0_6_1n 4) (p0_6_1w 4)), (oX9 (p0_6_1a 5 0) (p0_6_1a 5) (p0_6_1k 5) (p0_6_1n 5) (p0_6_1w 5)), (oX6 (p0a 5) p0_4a p0_4k p0_4w p0_4l), [((p0_6a 2), .inl (p0_6_1c, 6, .inr (.inr (.inr (.inr (fun i => some (p0_6_1a i 0)))))))]] : List va_W)) := by first | exact hD | (rw [← ho9]; exact hD)
      subst hQ
      exact W.vret hx hb hr (fun t ht hW => ⟨⟨(), rfl, trivial, ⟨by rw [ht]; exact hP9, va_K.moved hW.alike hK, hD9⟩⟩, hS.F ht⟩) hS.2.2 dX3_moveInCode_37
    · refine lv_if_ne (tgt := 38) hx hb dX3_moveInCode_34 (by decide) (fun _ => ?_) (fun c => absurd c hc7)
      refine lv_aload_n hx hb dX3_moveInCode_38 rfl (lv_at hl 3 rfl) ?_
      refine va_get (D := (dC, dI)) (ci := 10) (v := .ref (p0a 12)) (C := RX3) (T := TX3) (N := 20) hx hb hts i_X3 hown hK hP 0 rfl rfl 11 (by decide) (hts _ qw915) (fun _ h9 => h9) rfl dX3_moveInCode_39 ?_
      refine lv_iload_n hx hb dX3_moveInCode_42 rfl (lv_at hl 2 rfl) ?_
      refine lv_iload_n hx hb dX3_moveInCode_43 rfl (lv_at hl 0 rfl) ?_
      refine lv_iconst (v := 1) hx hb dX3_moveInCode_44 (by decide) ?_
      refine lv_iadd hx hb dX3_moveInCode_45 ?_
      obtain ⟨hq8, hrun⟩ := chk9 hrun
      refine va_iast hx hb hK hP hD hS 4 3 rfl rfl (ixb_in hq8) dX3_moveInCode_46 (fun H locs hP hD hS => ?_)
      have hP : va_P (dC, dI) cls (List.flatten ([(oX3 (p0a 0) p0a p0k p0n (upw (o_5.2) 12 (nn ((p0w 0 9) - 1)) ((p0w 12 (nn ((p0w 0 9) - 1))) + 1))), (oX0 (p0a 7) p0_6a p0_6k p0_6n p0_6w), (oX9 (p0_6_1a 0 0) (p0_6_1a 0) (p0_6_1k 0) (p0_6_1n 0) (p0_6_1w 0)), (oX9 (p0_6_1a 1 0) (p0_6_1a 1) (p0_6_1k 1) (p0_6_1n 1) (p0_6_1w 1)), (oX9 (p0_6_1a 2 0) (p0_6_1a 2) (p0_6_1k 2) (p0_6_1n 2) (p0_6_1w 2)), (oX9 (p0_6_1a 3 0) (p0_6_1a 3) (p0_6_1k 3) (p0_6_1n 3) (p0_6_1w 3)), (oX9 (p0_6_1a 4 0) (p0_6_1a 4) (p0_6_1k 4) (p0_6_1n 4) (p0_6_1w 4)), (oX9 (p0_6_1a 5 0) (p0_6_1a 5) (p0_6_1k 5) (p0_6_1n 5) (p0_6_1w 5)), (oX6 (p0a 5) p0_4a p0_4k p0_4w p0_4l), [((p0_6a 2), .inl (p0_6_1c, 6, .inr (.inr (.inr (.inr (fun i => some (p0_6_1a i 0)))))))]] : List va_W)) H := hP
      have hD : va_D A (List.flatten ([(oX3 (p0a 0) p0a p0k p0n (upw (o_5.2) 12 (nn ((p0w 0 9) - 1)) ((p0w 12 (nn ((p0w 0 9) - 1))) + 1))), (oX0 (p0a 7) p0_6a p0_6k p0_6n p0_6w), (oX9 (p0_6_1a 0 0) (p0_6_1a 0) (p0_6_1k 0) (p0_6_1n 0) (p0_6_1w 0)), (oX9 (p0_6_1a 1 0) (p0_6_1a 1) (p0_6_1k 1) (p0_6_1n 1) (p0_6_1w 1)), (oX9 (p0_6_1a 2 0) (p0_6_1a 2) (p0_6_1k 2) (p0_6_1n 2) (p0_6_1w 2)), (oX9 (p0_6_1a 3 0) (p0_6_1a 3) (p0_6_1k 3) (p0_6_1n 3) (p0_6_1w 3)), (oX9 (p0_6_1a 4 0) (p0_6_1a 4) (p0_6_1k 4) (p0_6_1n 4) (p0_6_1w 4)), (oX9 (p0_6_1a 5 0) (p0_6_1a 5) (p0_6_1k 5) (p0_6_1n 5) (p0_6_1w 5)), (oX6 (p0a 5) p0_4a p0_4k p0_4w p0_4l), [((p0_6a 2), .inl (p0_6_1c, 6, .inr (.inr (.inr (.inr (fun i => some (p0_6_1a i 0)))))))]] : List va_W)) := hD
      obtain ⟨w9, ew9, hrun⟩ := let9 hrun
      rw [← ew9] at hP hD
      refine lv_iload_n hx hb dX3_moveInCode_47 rfl (lv_at hl 2 rfl) ?_
      refine lv_sipush (v := 320) hx hb dX3_moveInCode_48 (by decide) ?_
      refine lv_imul hx hb dX3_moveInCode_51 ?_
      refine lv_istore (lv' := [(4, .int (((p0w 0 9) - 1) * 320)), (3, .int (p0w 12 (nn ((p0w 0 9) - 1)))), (2, .ref (p0_6_1a 2 0)), (1, .int ((p0w 0 9) - 1)), (0, .ref (p0a 0))]) hx hb dX3_moveInCode_52 hl (by decide) rfl (fun ls hl => ?_)
      refine lv_aload_n hx hb dX3_moveInCode_54 rfl (lv_at hl 2 rfl) ?_
      refine va_get (D := (dC, dI)) (ci := 3) (v := .ref ((p0_6_1a 2) 4)) (C := RX9) (T := TX9) (N := 6) hx hb hts i_X9 hown hK hP 32 rfl rfl 3 (by decide) (hts _ qw954) (fun _ h9 => h9) rfl dX3_moveInCode_55 ?_
      refine lv_iload_n hx hb dX3_moveInCode_58 rfl (lv_at hl 1 rfl) ?_
      obtain ⟨hq10, hrun⟩ := chk9 hrun
      refine va_iald hx hb hK hP 35 30 rfl rfl (ixb_in hq10) dX3_moveInCode_59 ?_
      refine lv_istore (lv' := [(5, .int (((p0_6_1w 2) 4) (nn (p0w 12 (nn ((p0w 0 9) - 1)))))), (4, .int (((p0w 0 9) - 1) * 320)), (3, .int (p0w 12 (nn ((p0w 0 9) - 1)))), (2, .ref (p0_6_1a 2 0)), (1, .int ((p0w 0 9) - 1)), (0, .ref (p0a 0))]) hx hb dX3_moveInCode_60 hl (by decide) rfl (fun ls hl => ?_)
      refine lv_aload_n hx hb dX3_moveInCode_62 rfl (lv_at hl 3 rfl) ?_
      refine va_get (D := (dC, dI)) (ci := 3) (v := .ref ((p0_6_1a 2) 2)) (C := RX9) (T := TX9) (N := 6) hx hb hts i_X9 hown hK hP 32 rfl rfl 1 (by decide) (hts _ qw953) (fun _ h9 => h9) rfl dX3_moveInCode_63 ?_
      refine lv_iload_n hx hb dX3_moveInCode_66 rfl (lv_at hl 2 rfl) ?_
      obtain ⟨hq11, hrun⟩ := chk9 hrun
      refine va_iald hx hb hK hP 33 28 rfl rfl (ixb_in hq11) dX3_moveInCode_67 ?_
      have J353 : ∀ (p0w_353 : ST) (H : Heap) (locs : List Loc) (ls : Array Slot), (fX3_moveInCode_J353 p0w_353) = some o → va_P (dC, dI) cls (List.flatten ([(oX3 (p0a 0) p0a p0k p0n p0w_353), (oX0 (p0a 7) p0_6a p0_6k p0_6n p0_6w), (oX9 (p0_6_1a 0 0) (p0_6_1a 0) (p0_6_1k 0) (p0_6_1n 0) (p0_6_1w 0)), (oX9 (p0_6_1a 1 0) (p0_6_1a 1) (p0_6_1k 1) (p0_6_1n 1) (p0_6_1w 1)), (oX9 (p0_6_1a 2 0) (p0_6_1a 2) (p0_6_1k 2) (p0_6_1n 2) (p0_6_1w 2)), (oX9 (p0_6_1a 3 0) (p0_6_1a 3) (p0_6_1k 3) (p0_6_1n 3) (p0_6_1w 3)), (oX9 (p0_6_1a 4 0) (p0_6_1a 4) (p0_6_1k 4) (p0_6_1n 4) (p0_6_1w 4)), (oX9 (p0_6_1a 5 0) (p0_6_1a 5) (p0_6_1k 5) (p0_6_1n 5) (p0_6_1w 5)), (oX6 (p0a 5) p0_4a p0_4k p0_4w p0_4l), [((p0_6a 2), .inl (p0_6_1c, 6, .inr (.inr (.inr (.inr (fun i => some (p0_6_1a i 0)))))))]] : List va_W)) H → va_D A (List.flatten ([(oX3 (p0a 0) p0a p0k p0n p0w_353), (oX0 (p0a 7) p0_6a p0_6k p0_6n p0_6w), (oX9 (p0_6_1a 0 0) (p0_6_1a 0) (p0_6_1k 0) (p0_6_1n 0) (p0_6_1w 0)), (oX9 (p0_6_1a 1 0) (p0_6_1a 1) (p0_6_1k 1) (p0_6_1n 1) (p0_6_1w 1)), (oX9 (p0_6_1a 2 0) (p0_6_1a 2) (p0_6_1k 2) (p0_6_1n 2) (p0_6_1w 2)), (oX9 (p0_6_1a 3 0) (p0_6_1a 3) (p0_6_1k 3) (p0_6_1n 3) (p0_6_1w 3)), (oX9 (p0_6_1a 4 0) (p0_6_1a 4) (p0_6_1k 4) (p0_6_1n 4) (p0_6_1w 4)), (oX9 (p0_6_1a 5 0) (p0_6_1a 5) (p0_6_1k 5) (p0_6_1n 5) (p0_6_1w 5)), (oX6 (p0a 5) p0_4a p0_4k p0_4w p0_4l), [((p0_6a 2), .inl (p0_6_1c, 6, .inr (.inr (.inr (.inr (fun i => some (p0_6_1a i 0)))))))]] : List va_W)) → va_K (dC, dI) cls (List.flatten ([(tX3 p0k), (tX0 p0_6k), (tX9 (p0_6_1k 0)), (tX9 (p0_6_1k 1)), (tX9 (p0_6_1k 2)), (tX9 (p0_6_1k 3)), (tX9 (p0_6_1k 4)), (tX9 (p0_6_1k 5)), (tX6 p0_4k), [(p0_6_1c, .object RX9)]] : List (List (ClassId × FieldType)))) s → va_S A s.heap H locs → lv_has ls 9 [] → W p l e ({ frames := 5, cells := 0, slots := 0, locals := 120 } : Room) s m ([.ref (p0a 0)] : List Value).toArray below meth c H locs 0 0 Q (F0 m 353 ls []) := by
        intro p0w_353 H locs ls hrun hP hD hK hS hl 
        unfold fX3_moveInCode_J353 at hrun
        have ho9 : p0w_353 = o := Option.some.inj hrun
        have hP9 : va_P (dC, dI) cls (List.flatten ([(oX3 (p0a 0) p0a p0k p0n o), (oX0 (p0a 7) p0_6a p0_6k p0_6n p0_6w), (oX9 (p0_6_1a 0 0) (p0_6_1a 0) (p0_6_1k 0) (p0_6_1n 0) (p0_6_1w 0)), (oX9 (p0_6_1a 1 0) (p0_6_1a 1) (p0_6_1k 1) (p0_6_1n 1) (p0_6_1w 1)), (oX9 (p0_6_1a 2 0) (p0_6_1a 2) (p0_6_1k 2) (p0_6_1n 2) (p0_6_1w 2)), (oX9 (p0_6_1a 3 0) (p0_6_1a 3) (p0_6_1k 3) (p0_6_1n 3) (p0_6_1w 3)), (oX9 (p0_6_1a 4 0) (p0_6_1a 4) (p0_6_1k 4) (p0_6_1n 4) (p0_6_1w 4)), (oX9 (p0_6_1a 5 0) (p0_6_1a 5) (p0_6_1k 5) (p0_6_1n 5) (p0_6_1w 5)), (oX6 (p0a 5) p0_4a p0_4k p0_4w p0_4l), [((p0_6a 2), .inl (p0_6_1c, 6, .inr (.inr (.inr (.inr (fun i => some (p0_6_1a i 0)))))))]] : List va_W)) H := by first | exact hP | (rw [← ho9]; exact hP)
        have hD9 : va_D A (List.flatten ([(oX3 (p0a 0) p0a p0k p0n o), (oX0 (p0a 7) p0_6a p0_6k p0_6n p0_6w), (oX9 (p0_6_1a 0 0) (p0_6_1a 0) (p0_6_1k 0) (p0_6_1n 0) (p0_6_1w 0)), (oX9 (p0_6_1a 1 0) (p0_6_1a 1) (p0_6_1k 1) (p0_6_1n 1) (p0_6_1w 1)), (oX9 (p0_6_1a 2 0) (p0_6_1a 2) (p0_6_1k 2) (p0_6_1n 2) (p0_6_1w 2)), (oX9 (p0_6_1a 3 0) (p0_6_1a 3) (p0_6_1k 3) (p0_6_1n 3) (p0_6_1w 3)), (oX9 (p0_6_1a 4 0) (p0_6_1a 4) (p0_6_1k 4) (p0_6_1n 4) (p0_6_1w 4)), (oX9 (p0_6_1a 5 0) (p0_6_1a 5) (p0_6_1k 5) (p0_6_1n 5) (p0_6_1w 5)), (oX6 (p0a 5) p0_4a p0_4k p0_4w p0_4l), [((p0_6a 2), .inl (p0_6_1c, 6, .inr (.inr (.inr (.inr (fun i => some (p0_6_1a i 0)))))))]] : List va_W)) := by first | exact hD | (rw [← ho9]; exact hD)
        subst hQ
        exact W.vret hx hb hr (fun t ht hW => ⟨⟨(), rfl, trivial, ⟨by rw [ht]; exact hP9, va_K.moved hW.alike hK, hD9⟩⟩, hS.F ht⟩) hS.2.2 dX3_moveInCode_353
      rcases br9 hrun with ⟨hc12, hrun⟩ | ⟨hc12, hrun⟩
      · refine lv_tableIn (off := 44) (tgt := 112) hx hb dX3_moveInCode_68 (by rw [hc12]; decide) (by rw [hc12]; decide) (by rw [hc12]; rfl) (by decide) ?_
        refine lv_aload_n hx hb dX3_moveInCode_112 rfl (lv_at hl 5 rfl) ?_
        refine va_get (D := (dC, dI)) (ci := 10) (v := .ref (p0a 12)) (C := RX3) (T := TX3) (N := 20) hx hb hts i_X3 hown hK hP 0 rfl rfl 11 (by decide) (hts _ qw915) (fun _ h9 => h9) rfl dX3_moveInCode_113 ?_
        refine lv_iload_n hx hb dX3_moveInCode_116 rfl (lv_at hl 4 rfl) ?_
        refine lv_iload hx hb dX3_moveInCode_117 (lv_at hl 0 rfl) ?_
        obtain ⟨hq13, hrun⟩ := chk9 hrun
        refine va_iast hx hb hK hP hD hS 4 3 rfl rfl (ixb_in hq13) dX3_moveInCode_119 (fun H locs hP hD hS => ?_)
        have hP : va_P (dC, dI) cls (List.flatten ([(oX3 (p0a 0) p0a p0k p0n (upw w9 12 (nn ((p0w 0 9) - 1)) (((p0_6_1w 2) 4) (nn (p0w 12 (nn ((p0w 0 9) - 1))))))), (oX0 (p0a 7) p0_6a p0_6k p0_6n p0_6w), (oX9 (p0_6_1a 0 0) (p0_6_1a 0) (p0_6_1k 0) (p0_6_1n 0) (p0_6_1w 0)), (oX9 (p0_6_1a 1 0) (p0_6_1a 1) (p0_6_1k 1) (p0_6_1n 1) (p0_6_1w 1)), (oX9 (p0_6_1a 2 0) (p0_6_1a 2) (p0_6_1k 2) (p0_6_1n 2) (p0_6_1w 2)), (oX9 (p0_6_1a 3 0) (p0_6_1a 3) (p0_6_1k 3) (p0_6_1n 3) (p0_6_1w 3)), (oX9 (p0_6_1a 4 0) (p0_6_1a 4) (p0_6_1k 4) (p0_6_1n 4) (p0_6_1w 4)), (oX9 (p0_6_1a 5 0) (p0_6_1a 5) (p0_6_1k 5) (p0_6_1n 5) (p0_6_1w 5)), (oX6 (p0a 5) p0_4a p0_4k p0_4w p0_4l), [((p0_6a 2), .inl (p0_6_1c, 6, .inr (.inr (.inr (.inr (fun i => some (p0_6_1a i 0)))))))]] : List va_W)) H := hP
        have hD : va_D A (List.flatten ([(oX3 (p0a 0) p0a p0k p0n (upw w9 12 (nn ((p0w 0 9) - 1)) (((p0_6_1w 2) 4) (nn (p0w 12 (nn ((p0w 0 9) - 1))))))), (oX0 (p0a 7) p0_6a p0_6k p0_6n p0_6w), (oX9 (p0_6_1a 0 0) (p0_6_1a 0) (p0_6_1k 0) (p0_6_1n 0) (p0_6_1w 0)), (oX9 (p0_6_1a 1 0) (p0_6_1a 1) (p0_6_1k 1) (p0_6_1n 1) (p0_6_1w 1)), (oX9 (p0_6_1a 2 0) (p0_6_1a 2) (p0_6_1k 2) (p0_6_1n 2) (p0_6_1w 2)), (oX9 (p0_6_1a 3 0) (p0_6_1a 3) (p0_6_1k 3) (p0_6_1n 3) (p0_6_1w 3)), (oX9 (p0_6_1a 4 0) (p0_6_1a 4) (p0_6_1k 4) (p0_6_1n 4) (p0_6_1w 4)), (oX9 (p0_6_1a 5 0) (p0_6_1a 5) (p0_6_1k 5) (p0_6_1n 5) (p0_6_1w 5)), (oX6 (p0a 5) p0_4a p0_4k p0_4w p0_4l), [((p0_6a 2), .inl (p0_6_1c, 6, .inr (.inr (.inr (.inr (fun i => some (p0_6_1a i 0)))))))]] : List va_W)) := hD
        obtain ⟨w14, ew14, hrun⟩ := let9 hrun
        rw [← ew14] at hP hD
        refine lv_goto (tgt := 353) hx hb dX3_moveInCode_120 (by decide) ?_
        exact J353 w14 _ _ _ hrun hP hD hK hS (lv_sub hl [] rfl)
      rcases br9 hrun with ⟨hc15, hrun⟩ | ⟨hc15, hrun⟩
      · refine lv_tableIn (off := 55) (tgt := 123) hx hb dX3_moveInCode_68 (by rw [hc15]; decide) (by rw [hc15]; decide) (by rw [hc15]; rfl) (by decide) ?_
        refine lv_aload_n hx hb dX3_moveInCode_123 rfl (lv_at hl 5 rfl) ?_
        refine va_get (D := (dC, dI)) (ci := 10) (v := .ref (p0a 16)) (C := RX3) (T := TX3) (N := 20) hx hb hts i_X3 hown hK hP 0 rfl rfl 15 (by decide) (hts _ qw906) (fun _ h9 => h9) rfl dX3_moveInCode_124 ?_
        refine lv_iload hx hb dX3_moveInCode_127 (lv_at hl 1 rfl) ?_
        refine lv_iload hx hb dX3_moveInCode_129 (lv_at hl 0 rfl) ?_
        refine lv_iadd hx hb dX3_moveInCode_131 ?_
        obtain ⟨hq16, hrun⟩ := chk9 hrun
        refine va_iald hx hb hK hP 8 7 rfl rfl (ixb_in hq16) dX3_moveInCode_132 ?_
        rcases br9 hrun with ⟨hc17, hrun⟩ | ⟨hc17, hrun⟩
        · refine lv_if_eq (tgt := 353) hx hb dX3_moveInCode_133 (by decide) (fun _ => ?_) (fun c => absurd hc17 c)
          exact J353 w9 _ _ _ hrun hP hD hK hS (lv_sub hl [] rfl)
        · refine lv_if_eq (tgt := 353) hx hb dX3_moveInCode_133 (by decide) (fun c => absurd c hc17) (fun _ => ?_)
          refine lv_aload_n hx hb dX3_moveInCode_136 rfl (lv_at hl 5 rfl) ?_
          refine va_get (D := (dC, dI)) (ci := 10) (v := .ref (p0a 12)) (C := RX3) (T := TX3) (N := 20) hx hb hts i_X3 hown hK hP 0 rfl rfl 11 (by decide) (hts _ qw915) (fun _ h9 => h9) rfl dX3_moveInCode_137 ?_
          refine lv_iload_n hx hb dX3_moveInCode_140 rfl (lv_at hl 4 rfl) ?_
          refine lv_aload_n hx hb dX3_moveInCode_141 rfl (lv_at hl 3 rfl) ?_
          refine va_get (D := (dC, dI)) (ci := 3) (v := .ref ((p0_6_1a 2) 5)) (C := RX9) (T := TX9) (N := 6) hx hb hts i_X9 hown hK hP 32 rfl rfl 4 (by decide) (hts _ qw967) (fun _ h9 => h9) rfl dX3_moveInCode_142 ?_
          refine lv_iload_n hx hb dX3_moveInCode_145 rfl (lv_at hl 2 rfl) ?_
          obtain ⟨hq18, hrun⟩ := chk9 hrun
          refine va_iald hx hb hK hP 36 31 rfl rfl (ixb_in hq18) dX3_moveInCode_146 ?_
          obtain ⟨hq19, hrun⟩ := chk9 hrun
          refine va_iast hx hb hK hP hD hS 4 3 rfl rfl (ixb_in hq19) dX3_moveInCode_147 (fun H locs hP hD hS => ?_)
          have hP : va_P (dC, dI) cls (List.flatten ([(oX3 (p0a 0) p0a p0k p0n (upw w9 12 (nn ((p0w 0 9) - 1)) (((p0_6_1w 2) 5) (nn (p0w 12 (nn ((p0w 0 9) - 1))))))), (oX0 (p0a 7) p0_6a p0_6k p0_6n p0_6w), (oX9 (p0_6_1a 0 0) (p0_6_1a 0) (p0_6_1k 0) (p0_6_1n 0) (p0_6_1w 0)), (oX9 (p0_6_1a 1 0) (p0_6_1a 1) (p0_6_1k 1) (p0_6_1n 1) (p0_6_1w 1)), (oX9 (p0_6_1a 2 0) (p0_6_1a 2) (p0_6_1k 2) (p0_6_1n 2) (p0_6_1w 2)), (oX9 (p0_6_1a 3 0) (p0_6_1a 3) (p0_6_1k 3) (p0_6_1n 3) (p0_6_1w 3)), (oX9 (p0_6_1a 4 0) (p0_6_1a 4) (p0_6_1k 4) (p0_6_1n 4) (p0_6_1w 4)), (oX9 (p0_6_1a 5 0) (p0_6_1a 5) (p0_6_1k 5) (p0_6_1n 5) (p0_6_1w 5)), (oX6 (p0a 5) p0_4a p0_4k p0_4w p0_4l), [((p0_6a 2), .inl (p0_6_1c, 6, .inr (.inr (.inr (.inr (fun i => some (p0_6_1a i 0)))))))]] : List va_W)) H := hP
          have hD : va_D A (List.flatten ([(oX3 (p0a 0) p0a p0k p0n (upw w9 12 (nn ((p0w 0 9) - 1)) (((p0_6_1w 2) 5) (nn (p0w 12 (nn ((p0w 0 9) - 1))))))), (oX0 (p0a 7) p0_6a p0_6k p0_6n p0_6w), (oX9 (p0_6_1a 0 0) (p0_6_1a 0) (p0_6_1k 0) (p0_6_1n 0) (p0_6_1w 0)), (oX9 (p0_6_1a 1 0) (p0_6_1a 1) (p0_6_1k 1) (p0_6_1n 1) (p0_6_1w 1)), (oX9 (p0_6_1a 2 0) (p0_6_1a 2) (p0_6_1k 2) (p0_6_1n 2) (p0_6_1w 2)), (oX9 (p0_6_1a 3 0) (p0_6_1a 3) (p0_6_1k 3) (p0_6_1n 3) (p0_6_1w 3)), (oX9 (p0_6_1a 4 0) (p0_6_1a 4) (p0_6_1k 4) (p0_6_1n 4) (p0_6_1w 4)), (oX9 (p0_6_1a 5 0) (p0_6_1a 5) (p0_6_1k 5) (p0_6_1n 5) (p0_6_1w 5)), (oX6 (p0a 5) p0_4a p0_4k p0_4w p0_4l), [((p0_6a 2), .inl (p0_6_1c, 6, .inr (.inr (.inr (.inr (fun i => some (p0_6_1a i 0)))))))]] : List va_W)) := hD
          obtain ⟨w20, ew20, hrun⟩ := let9 hrun
          rw [← ew20] at hP hD
          refine lv_goto (tgt := 353) hx hb dX3_moveInCode_148 (by decide) ?_
          exact J353 w20 _ _ _ hrun hP hD hK hS (lv_sub hl [] rfl)
      rcases br9 hrun with ⟨hc21, hrun⟩ | ⟨hc21, hrun⟩
      · refine lv_tableIn (off := 111) (tgt := 179) hx hb dX3_moveInCode_68 (by rw [hc21]; decide) (by rw [hc21]; decide) (by rw [hc21]; rfl) (by decide) ?_
        refine lv_aload_n hx hb dX3_moveInCode_179 rfl (lv_at hl 5 rfl) ?_
        refine va_get (D := (dC, dI)) (ci := 10) (v := .ref (p0a 16)) (C := RX3) (T := TX3) (N := 20) hx hb hts i_X3 hown hK hP 0 rfl rfl 15 (by decide) (hts _ qw906) (fun _ h9 => h9) rfl dX3_moveInCode_180 ?_
        refine lv_iload hx hb dX3_moveInCode_183 (lv_at hl 1 rfl) ?_
        refine lv_iload hx hb dX3_moveInCode_185 (lv_at hl 0 rfl) ?_
        refine lv_iadd hx hb dX3_moveInCode_187 ?_
        obtain ⟨hq22, hrun⟩ := chk9 hrun
        refine va_iald hx hb hK hP 8 7 rfl rfl (ixb_in hq22) dX3_moveInCode_188 ?_
        refine lv_istore (lv' := [(6, .int (w9 16 (nn ((((p0w 0 9) - 1) * 320) + (((p0_6_1w 2) 4) (nn (p0w 12 (nn ((p0w 0 9) - 1))))))))), (5, .int (((p0_6_1w 2) 4) (nn (p0w 12 (nn ((p0w 0 9) - 1)))))), (4, .int (((p0w 0 9) - 1) * 320)), (3, .int (p0w 12 (nn ((p0w 0 9) - 1)))), (2, .ref (p0_6_1a 2 0)), (1, .int ((p0w 0 9) - 1)), (0, .ref (p0a 0))]) hx hb dX3_moveInCode_189 hl (by decide) rfl (fun ls hl => ?_)
        refine lv_aload_n hx hb dX3_moveInCode_191 rfl (lv_at hl 6 rfl) ?_
        refine lv_iload hx hb dX3_moveInCode_192 (lv_at hl 0 rfl) ?_
        obtain ⟨o_23, hc_23, hrun⟩ := bnd9 hrun
        have hPx : va_P (dC, dI) cls ((List.flatten ([(oX3 (p0a 0) p0a p0k p0n w9)] : List va_W)) ++ (List.flatten ([(oX0 (p0a 7) p0_6a p0_6k p0_6n p0_6w), (oX9 (p0_6_1a 0 0) (p0_6_1a 0) (p0_6_1k 0) (p0_6_1n 0) (p0_6_1w 0)), (oX9 (p0_6_1a 1 0) (p0_6_1a 1) (p0_6_1k 1) (p0_6_1n 1) (p0_6_1w 1)), (oX9 (p0_6_1a 2 0) (p0_6_1a 2) (p0_6_1k 2) (p0_6_1n 2) (p0_6_1w 2)), (oX9 (p0_6_1a 3 0) (p0_6_1a 3) (p0_6_1k 3) (p0_6_1n 3) (p0_6_1w 3)), (oX9 (p0_6_1a 4 0) (p0_6_1a 4) (p0_6_1k 4) (p0_6_1n 4) (p0_6_1w 4)), (oX9 (p0_6_1a 5 0) (p0_6_1a 5) (p0_6_1k 5) (p0_6_1n 5) (p0_6_1w 5)), (oX6 (p0a 5) p0_4a p0_4k p0_4w p0_4l), [((p0_6a 2), .inl (p0_6_1c, 6, .inr (.inr (.inr (.inr (fun i => some (p0_6_1a i 0)))))))]] : List va_W))) H := vP_fa (vP_perm hP (bP (List.Perm.refl _)))
        have hDx : va_D A ((List.flatten ([(oX3 (p0a 0) p0a p0k p0n w9)] : List va_W)) ++ (List.flatten ([(oX0 (p0a 7) p0_6a p0_6k p0_6n p0_6w), (oX9 (p0_6_1a 0 0) (p0_6_1a 0) (p0_6_1k 0) (p0_6_1n 0) (p0_6_1w 0)), (oX9 (p0_6_1a 1 0) (p0_6_1a 1) (p0_6_1k 1) (p0_6_1n 1) (p0_6_1w 1)), (oX9 (p0_6_1a 2 0) (p0_6_1a 2) (p0_6_1k 2) (p0_6_1n 2) (p0_6_1w 2)), (oX9 (p0_6_1a 3 0) (p0_6_1a 3) (p0_6_1k 3) (p0_6_1n 3) (p0_6_1w 3)), (oX9 (p0_6_1a 4 0) (p0_6_1a 4) (p0_6_1k 4) (p0_6_1n 4) (p0_6_1w 4)), (oX9 (p0_6_1a 5 0) (p0_6_1a 5) (p0_6_1k 5) (p0_6_1n 5) (p0_6_1w 5)), (oX6 (p0a 5) p0_4a p0_4k p0_4w p0_4l), [((p0_6a 2), .inl (p0_6_1c, 6, .inr (.inr (.inr (.inr (fun i => some (p0_6_1a i 0)))))))]] : List va_W))) := vD_fa (vD_perm hD (bP (List.Perm.refl _)))
        have hKx : va_K (dC, dI) cls ((List.flatten ([(tX3 p0k)] : List (List (ClassId × FieldType)))) ++ (List.flatten ([(tX0 p0_6k), (tX9 (p0_6_1k 0)), (tX9 (p0_6_1k 1)), (tX9 (p0_6_1k 2)), (tX9 (p0_6_1k 3)), (tX9 (p0_6_1k 4)), (tX9 (p0_6_1k 5)), (tX6 p0_4k), [(p0_6_1c, .object RX9)]] : List (List (ClassId × FieldType))))) s := vK_fa (vK_perm hK (bP (List.Perm.refl _)))
        have hPc := vP_l hPx
        have hDc := vD_l hDx
        have hKc := vK_l hKx
        have hFc := vfree hDx hS hA
        refine va_calli (va_runV (As := [.int (w9 16 (nn ((((p0w 0 9) - 1) * 320) + (((p0_6_1w 2) 4) (nn (p0w 12 (nn ((p0w 0 9) - 1))))))))]) (rest := []) ⟨hx, hb, hml, hown, hts⟩ (kX3_close l dC dI (p0a := p0a) (p0k := p0k) (p0n := p0n) (p0w := w9) (p1 := (w9 16 (nn ((((p0w 0 9) - 1) * 320) + (((p0_6_1w 2) 4) (nn (p0w 12 (nn ((p0w 0 9) - 1))))))))) (sz := _) (o := o_23) (hrun := hc_23)) (cwV 1 hts (gi_V qw909 qw910 qw911 qw903 (gi_z qw908)) rfl rfl rfl (by decide +kernel) ⟨Nat.le_of_ble_eq_true rfl, Nat.le_of_ble_eq_true rfl⟩) ⟨PRE.blind, va_recv hKc hPc (ci := 10) (q0 := 0) rfl rfl, PRE.of hE hS hFc hPc hKc hDc⟩ rfl rfl hl.1 rfl (lv_room (Nat.le_of_ble_eq_true rfl)) dX3_moveInCode_194 ⟨(Nat.le_of_ble_eq_true rfl), (Nat.le_of_ble_eq_true rfl)⟩) hS (fun q _ h => hFc q h) hFc (fun r24 u t H locs ht hvm hw hB hz1 hk1 hS => ?_)
        obtain ⟨b1, b2, b3⟩ := hB
        rw [ht] at b1
        obtain ⟨hP, hD, hK⟩ := JOINC (wc := (List.flatten ([(oX3 (p0a 0) p0a p0k p0n w9)] : List va_W))) (wr := (List.flatten ([(oX0 (p0a 7) p0_6a p0_6k p0_6n p0_6w), (oX9 (p0_6_1a 0 0) (p0_6_1a 0) (p0_6_1k 0) (p0_6_1n 0) (p0_6_1w 0)), (oX9 (p0_6_1a 1 0) (p0_6_1a 1) (p0_6_1k 1) (p0_6_1n 1) (p0_6_1w 1)), (oX9 (p0_6_1a 2 0) (p0_6_1a 2) (p0_6_1k 2) (p0_6_1n 2) (p0_6_1w 2)), (oX9 (p0_6_1a 3 0) (p0_6_1a 3) (p0_6_1k 3) (p0_6_1n 3) (p0_6_1w 3)), (oX9 (p0_6_1a 4 0) (p0_6_1a 4) (p0_6_1k 4) (p0_6_1n 4) (p0_6_1w 4)), (oX9 (p0_6_1a 5 0) (p0_6_1a 5) (p0_6_1k 5) (p0_6_1n 5) (p0_6_1w 5)), (oX6 (p0a 5) p0_4a p0_4k p0_4w p0_4l), [((p0_6a 2), .inl (p0_6_1c, 6, .inr (.inr (.inr (.inr (fun i => some (p0_6_1a i 0)))))))]] : List va_W))) (w1 := (List.flatten ([(oX3 (p0a 0) p0a p0k p0n (o_23.2))] : List va_W))) (t1 := (List.flatten ([(tX3 p0k)] : List (List (ClassId × FieldType))))) hPx hDx hKx hk1 hFc b1 (va_K.moved hvm.symm b2) b3
        have hP : va_P (dC, dI) cls (List.flatten ([(oX3 (p0a 0) p0a p0k p0n (o_23.2)), (oX0 (p0a 7) p0_6a p0_6k p0_6n p0_6w), (oX9 (p0_6_1a 0 0) (p0_6_1a 0) (p0_6_1k 0) (p0_6_1n 0) (p0_6_1w 0)), (oX9 (p0_6_1a 1 0) (p0_6_1a 1) (p0_6_1k 1) (p0_6_1n 1) (p0_6_1w 1)), (oX9 (p0_6_1a 2 0) (p0_6_1a 2) (p0_6_1k 2) (p0_6_1n 2) (p0_6_1w 2)), (oX9 (p0_6_1a 3 0) (p0_6_1a 3) (p0_6_1k 3) (p0_6_1n 3) (p0_6_1w 3)), (oX9 (p0_6_1a 4 0) (p0_6_1a 4) (p0_6_1k 4) (p0_6_1n 4) (p0_6_1w 4)), (oX9 (p0_6_1a 5 0) (p0_6_1a 5) (p0_6_1k 5) (p0_6_1n 5) (p0_6_1w 5)), (oX6 (p0a 5) p0_4a p0_4k p0_4w p0_4l), [((p0_6a 2), .inl (p0_6_1c, 6, .inr (.inr (.inr (.inr (fun i => some (p0_6_1a i 0)))))))]] : List va_W)) H := vP_perm (vP_fb hP) (bP (List.Perm.refl _))
        have hD : va_D A (List.flatten ([(oX3 (p0a 0) p0a p0k p0n (o_23.2)), (oX0 (p0a 7) p0_6a p0_6k p0_6n p0_6w), (oX9 (p0_6_1a 0 0) (p0_6_1a 0) (p0_6_1k 0) (p0_6_1n 0) (p0_6_1w 0)), (oX9 (p0_6_1a 1 0) (p0_6_1a 1) (p0_6_1k 1) (p0_6_1n 1) (p0_6_1w 1)), (oX9 (p0_6_1a 2 0) (p0_6_1a 2) (p0_6_1k 2) (p0_6_1n 2) (p0_6_1w 2)), (oX9 (p0_6_1a 3 0) (p0_6_1a 3) (p0_6_1k 3) (p0_6_1n 3) (p0_6_1w 3)), (oX9 (p0_6_1a 4 0) (p0_6_1a 4) (p0_6_1k 4) (p0_6_1n 4) (p0_6_1w 4)), (oX9 (p0_6_1a 5 0) (p0_6_1a 5) (p0_6_1k 5) (p0_6_1n 5) (p0_6_1w 5)), (oX6 (p0a 5) p0_4a p0_4k p0_4w p0_4l), [((p0_6a 2), .inl (p0_6_1c, 6, .inr (.inr (.inr (.inr (fun i => some (p0_6_1a i 0)))))))]] : List va_W)) := vD_perm (vD_fb hD) (bP (List.Perm.refl _))
        have hK : va_K (dC, dI) cls (List.flatten ([(tX3 p0k), (tX0 p0_6k), (tX9 (p0_6_1k 0)), (tX9 (p0_6_1k 1)), (tX9 (p0_6_1k 2)), (tX9 (p0_6_1k 3)), (tX9 (p0_6_1k 4)), (tX9 (p0_6_1k 5)), (tX6 p0_4k), [(p0_6_1c, .object RX9)]] : List (List (ClassId × FieldType)))) s := vK_perm (vK_fb hK) (bP (List.Perm.refl _))
        obtain rfl : r24 = (o_23.1) := hw
        rcases br9 hrun with ⟨hc25, hrun⟩ | ⟨hc25, hrun⟩
        · refine lv_if_eq (tgt := 353) hx hb dX3_moveInCode_197 (by decide) (fun _ => ?_) (fun c => absurd hc25 c)
          exact J353 (o_23.2) _ _ _ hrun hP hD hK hS (lv_sub hl [] rfl)
        · refine lv_if_eq (tgt := 353) hx hb dX3_moveInCode_197 (by decide) (fun c => absurd c hc25) (fun _ => ?_)
          refine lv_aload_n hx hb dX3_moveInCode_200 rfl (lv_at hl 6 rfl) ?_
          refine va_get (D := (dC, dI)) (ci := 10) (v := .int ((o_23.2) 0 9)) (C := RX3) (T := TX3) (N := 20) hx hb hts i_X3 hown hK hP 0 rfl rfl 9 (by decide) (hts _ qw897) (fun _ h9 => h9) rfl dX3_moveInCode_201 ?_
          refine lv_iconst (v := 1) hx hb dX3_moveInCode_204 (by decide) ?_
          refine lv_isub hx hb dX3_moveInCode_205 ?_
          refine lv_istore (lv' := [(7, .int (((o_23.2) 0 9) - 1)), (6, .int (w9 16 (nn ((((p0w 0 9) - 1) * 320) + (((p0_6_1w 2) 4) (nn (p0w 12 (nn ((p0w 0 9) - 1))))))))), (5, .int (((p0_6_1w 2) 4) (nn (p0w 12 (nn ((p0w 0 9) - 1)))))), (4, .int (((p0w 0 9) - 1) * 320)), (3, .int (p0w 12 (nn ((p0w 0 9) - 1)))), (2, .ref (p0_6_1a 2 0)), (1, .int ((p0w 0 9) - 1)), (0, .ref (p0a 0))]) hx hb dX3_moveInCode_206 hl (by decide) rfl (fun ls hl => ?_)
          refine lv_aload_n hx hb dX3_moveInCode_208 rfl (lv_at hl 7 rfl) ?_
          refine va_get (D := (dC, dI)) (ci := 10) (v := .ref (p0a 7)) (C := RX3) (T := TX3) (N := 20) hx hb hts i_X3 hown hK hP 0 rfl rfl 6 (by decide) (hts _ qw946) (fun _ h9 => h9) rfl dX3_moveInCode_209 ?_
          refine va_get (D := (dC, dI)) (ci := 8) (v := .ref (p0_6a 2)) (C := RX0) (T := TX0) (N := 17) hx hb hts i_X0 hown hK hP 11 rfl rfl 1 (by decide) (hts _ qw988) (fun _ h9 => h9) rfl dX3_moveInCode_212 ?_
          refine lv_aload_n hx hb dX3_moveInCode_215 rfl (lv_at hl 7 rfl) ?_
          refine va_get (D := (dC, dI)) (ci := 10) (v := .ref (p0a 11)) (C := RX3) (T := TX3) (N := 20) hx hb hts i_X3 hown hK hP 0 rfl rfl 10 (by decide) (hts _ qw913) (fun _ h9 => h9) rfl dX3_moveInCode_216 ?_
          refine lv_iload hx hb dX3_moveInCode_219 (lv_at hl 0 rfl) ?_
          obtain ⟨hq26, hrun⟩ := chk9 hrun
          refine va_iald hx hb hK hP 3 2 rfl rfl (ixb_in hq26) dX3_moveInCode_221 ?_
          obtain ⟨hq27, hrun⟩ := chk9 hrun
          refine va_aldq hx hb hK hP 67 58 rfl rfl (ixb_in hq27) dX3_moveInCode_222 ?_
          obtain ⟨i28, ei28, hrun⟩ := let9 hrun
          have hi_i28 : i28 < 6 := by rw [ei28]; exact ixb_lt hq27
          have es_i28 : Int32.toNatClampNeg (((o_23.2) 11) (nn (((o_23.2) 0 9) - 1))) = i28 := ei28.symm
          rw [es_i28]
          clear ei28
          rcases lt6 hi_i28 with rfl | rfl | rfl | rfl | rfl | rfl
          · refine W.eq (g2 := F0 m 223 ls [.ref (p0_6_1a 0 0)]) rfl ?_
            refine va_get (D := (dC, dI)) (ci := 3) (v := .ref ((p0_6_1a 0) 3)) (C := RX9) (T := TX9) (N := 6) hx hb hts i_X9 hown hK hP 20 rfl rfl 2 (by decide) (hts _ qw918) (fun _ h9 => h9) rfl dX3_moveInCode_223 ?_
            refine lv_aload_n hx hb dX3_moveInCode_226 rfl (lv_at hl 7 rfl) ?_
            refine va_get (D := (dC, dI)) (ci := 10) (v := .ref (p0a 12)) (C := RX3) (T := TX3) (N := 20) hx hb hts i_X3 hown hK hP 0 rfl rfl 11 (by decide) (hts _ qw915) (fun _ h9 => h9) rfl dX3_moveInCode_227 ?_
            refine lv_iload hx hb dX3_moveInCode_230 (lv_at hl 0 rfl) ?_
            obtain ⟨hq29, hrun⟩ := chk9 hrun
            refine va_iald hx hb hK hP 4 3 rfl rfl (ixb_in hq29) dX3_moveInCode_232 ?_
            refine lv_iconst (v := 1) hx hb dX3_moveInCode_233 (by decide) ?_
            refine lv_isub hx hb dX3_moveInCode_234 ?_
            obtain ⟨hq30, hrun⟩ := chk9 hrun
            refine va_iald hx hb hK hP 22 19 rfl rfl (ixb_in hq30) dX3_moveInCode_235 ?_
            refine lv_istore (lv' := [(8, .int (((p0_6_1w 0) 3) (nn ((((o_23.2) 12) (nn (((o_23.2) 0 9) - 1))) - 1)))), (7, .int (((o_23.2) 0 9) - 1)), (6, .int (w9 16 (nn ((((p0w 0 9) - 1) * 320) + (((p0_6_1w 2) 4) (nn (p0w 12 (nn ((p0w 0 9) - 1))))))))), (5, .int (((p0_6_1w 2) 4) (nn (p0w 12 (nn ((p0w 0 9) - 1)))))), (4, .int (((p0w 0 9) - 1) * 320)), (3, .int (p0w 12 (nn ((p0w 0 9) - 1)))), (2, .ref (p0_6_1a 2 0)), (1, .int ((p0w 0 9) - 1)), (0, .ref (p0a 0))]) hx hb dX3_moveInCode_236 hl (by decide) rfl (fun ls hl => ?_)
            refine lv_aload_n hx hb dX3_moveInCode_238 rfl (lv_at hl 8 rfl) ?_
            refine va_get (D := (dC, dI)) (ci := 10) (v := .ref (p0a 16)) (C := RX3) (T := TX3) (N := 20) hx hb hts i_X3 hown hK hP 0 rfl rfl 15 (by decide) (hts _ qw906) (fun _ h9 => h9) rfl dX3_moveInCode_239 ?_
            refine lv_iload hx hb dX3_moveInCode_242 (lv_at hl 1 rfl) ?_
            refine lv_sipush (v := 320) hx hb dX3_moveInCode_244 (by decide) ?_
            refine lv_imul hx hb dX3_moveInCode_247 ?_
            refine lv_iload hx hb dX3_moveInCode_248 (lv_at hl 0 rfl) ?_
            refine lv_iadd hx hb dX3_moveInCode_250 ?_
            refine lv_iload hx hb dX3_moveInCode_251 (lv_at hl 2 rfl) ?_
            obtain ⟨hq31, hrun⟩ := chk9 hrun
            refine va_iast hx hb hK hP hD hS 8 7 rfl rfl (ixb_in hq31) dX3_moveInCode_253 (fun H locs hP hD hS => ?_)
            have hP : va_P (dC, dI) cls (List.flatten ([(oX3 (p0a 0) p0a p0k p0n (upw (o_23.2) 16 (nn (((((o_23.2) 0 9) - 1) * 320) + (((p0_6_1w 0) 3) (nn ((((o_23.2) 12) (nn (((o_23.2) 0 9) - 1))) - 1))))) (w9 16 (nn ((((p0w 0 9) - 1) * 320) + (((p0_6_1w 2) 4) (nn (p0w 12 (nn ((p0w 0 9) - 1)))))))))), (oX0 (p0a 7) p0_6a p0_6k p0_6n p0_6w), (oX9 (p0_6_1a 0 0) (p0_6_1a 0) (p0_6_1k 0) (p0_6_1n 0) (p0_6_1w 0)), (oX9 (p0_6_1a 1 0) (p0_6_1a 1) (p0_6_1k 1) (p0_6_1n 1) (p0_6_1w 1)), (oX9 (p0_6_1a 2 0) (p0_6_1a 2) (p0_6_1k 2) (p0_6_1n 2) (p0_6_1w 2)), (oX9 (p0_6_1a 3 0) (p0_6_1a 3) (p0_6_1k 3) (p0_6_1n 3) (p0_6_1w 3)), (oX9 (p0_6_1a 4 0) (p0_6_1a 4) (p0_6_1k 4) (p0_6_1n 4) (p0_6_1w 4)), (oX9 (p0_6_1a 5 0) (p0_6_1a 5) (p0_6_1k 5) (p0_6_1n 5) (p0_6_1w 5)), (oX6 (p0a 5) p0_4a p0_4k p0_4w p0_4l), [((p0_6a 2), .inl (p0_6_1c, 6, .inr (.inr (.inr (.inr (fun i => some (p0_6_1a i 0)))))))]] : List va_W)) H := hP
            have hD : va_D A (List.flatten ([(oX3 (p0a 0) p0a p0k p0n (upw (o_23.2) 16 (nn (((((o_23.2) 0 9) - 1) * 320) + (((p0_6_1w 0) 3) (nn ((((o_23.2) 12) (nn (((o_23.2) 0 9) - 1))) - 1))))) (w9 16 (nn ((((p0w 0 9) - 1) * 320) + (((p0_6_1w 2) 4) (nn (p0w 12 (nn ((p0w 0 9) - 1)))))))))), (oX0 (p0a 7) p0_6a p0_6k p0_6n p0_6w), (oX9 (p0_6_1a 0 0) (p0_6_1a 0) (p0_6_1k 0) (p0_6_1n 0) (p0_6_1w 0)), (oX9 (p0_6_1a 1 0) (p0_6_1a 1) (p0_6_1k 1) (p0_6_1n 1) (p0_6_1w 1)), (oX9 (p0_6_1a 2 0) (p0_6_1a 2) (p0_6_1k 2) (p0_6_1n 2) (p0_6_1w 2)), (oX9 (p0_6_1a 3 0) (p0_6_1a 3) (p0_6_1k 3) (p0_6_1n 3) (p0_6_1w 3)), (oX9 (p0_6_1a 4 0) (p0_6_1a 4) (p0_6_1k 4) (p0_6_1n 4) (p0_6_1w 4)), (oX9 (p0_6_1a 5 0) (p0_6_1a 5) (p0_6_1k 5) (p0_6_1n 5) (p0_6_1w 5)), (oX6 (p0a 5) p0_4a p0_4k p0_4w p0_4l), [((p0_6a 2), .inl (p0_6_1c, 6, .inr (.inr (.inr (.inr (fun i => some (p0_6_1a i 0)))))))]] : List va_W)) := hD
            obtain ⟨w32, ew32, hrun⟩ := let9 hrun
            rw [← ew32] at hP hD
            refine lv_goto (tgt := 353) hx hb dX3_moveInCode_254 (by decide) ?_
            exact J353 w32 _ _ _ hrun hP hD hK hS (lv_sub hl [] rfl)
          · refine W.eq (g2 := F0 m 223 ls [.ref (p0_6_1a 1 0)]) rfl ?_
            refine va_get (D := (dC, dI)) (ci := 3) (v := .ref ((p0_6_1a 1) 3)) (C := RX9) (T := TX9) (N := 6) hx hb hts i_X9 hown hK hP 26 rfl rfl 2 (by decide) (hts _ qw918) (fun _ h9 => h9) rfl dX3_moveInCode_223 ?_
            refine lv_aload_n hx hb dX3_moveInCode_226 rfl (lv_at hl 7 rfl) ?_
            refine va_get (D := (dC, dI)) (ci := 10) (v := .ref (p0a 12)) (C := RX3) (T := TX3) (N := 20) hx hb hts i_X3 hown hK hP 0 rfl rfl 11 (by decide) (hts _ qw915) (fun _ h9 => h9) rfl dX3_moveInCode_227 ?_
            refine lv_iload hx hb dX3_moveInCode_230 (lv_at hl 0 rfl) ?_
            obtain ⟨hq29, hrun⟩ := chk9 hrun
            refine va_iald hx hb hK hP 4 3 rfl rfl (ixb_in hq29) dX3_moveInCode_232 ?_
            refine lv_iconst (v := 1) hx hb dX3_moveInCode_233 (by decide) ?_
            refine lv_isub hx hb dX3_moveInCode_234 ?_
            obtain ⟨hq30, hrun⟩ := chk9 hrun
            refine va_iald hx hb hK hP 28 24 rfl rfl (ixb_in hq30) dX3_moveInCode_235 ?_
            refine lv_istore (lv' := [(8, .int (((p0_6_1w 1) 3) (nn ((((o_23.2) 12) (nn (((o_23.2) 0 9) - 1))) - 1)))), (7, .int (((o_23.2) 0 9) - 1)), (6, .int (w9 16 (nn ((((p0w 0 9) - 1) * 320) + (((p0_6_1w 2) 4) (nn (p0w 12 (nn ((p0w 0 9) - 1))))))))), (5, .int (((p0_6_1w 2) 4) (nn (p0w 12 (nn ((p0w 0 9) - 1)))))), (4, .int (((p0w 0 9) - 1) * 320)), (3, .int (p0w 12 (nn ((p0w 0 9) - 1)))), (2, .ref (p0_6_1a 2 0)), (1, .int ((p0w 0 9) - 1)), (0, .ref (p0a 0))]) hx hb dX3_moveInCode_236 hl (by decide) rfl (fun ls hl => ?_)
            refine lv_aload_n hx hb dX3_moveInCode_238 rfl (lv_at hl 8 rfl) ?_
            refine va_get (D := (dC, dI)) (ci := 10) (v := .ref (p0a 16)) (C := RX3) (T := TX3) (N := 20) hx hb hts i_X3 hown hK hP 0 rfl rfl 15 (by decide) (hts _ qw906) (fun _ h9 => h9) rfl dX3_moveInCode_239 ?_
            refine lv_iload hx hb dX3_moveInCode_242 (lv_at hl 1 rfl) ?_
            refine lv_sipush (v := 320) hx hb dX3_moveInCode_244 (by decide) ?_
            refine lv_imul hx hb dX3_moveInCode_247 ?_
            refine lv_iload hx hb dX3_moveInCode_248 (lv_at hl 0 rfl) ?_
            refine lv_iadd hx hb dX3_moveInCode_250 ?_
            refine lv_iload hx hb dX3_moveInCode_251 (lv_at hl 2 rfl) ?_
            obtain ⟨hq31, hrun⟩ := chk9 hrun
            refine va_iast hx hb hK hP hD hS 8 7 rfl rfl (ixb_in hq31) dX3_moveInCode_253 (fun H locs hP hD hS => ?_)
            have hP : va_P (dC, dI) cls (List.flatten ([(oX3 (p0a 0) p0a p0k p0n (upw (o_23.2) 16 (nn (((((o_23.2) 0 9) - 1) * 320) + (((p0_6_1w 1) 3) (nn ((((o_23.2) 12) (nn (((o_23.2) 0 9) - 1))) - 1))))) (w9 16 (nn ((((p0w 0 9) - 1) * 320) + (((p0_6_1w 2) 4) (nn (p0w 12 (nn ((p0w 0 9) - 1)))))))))), (oX0 (p0a 7) p0_6a p0_6k p0_6n p0_6w), (oX9 (p0_6_1a 0 0) (p0_6_1a 0) (p0_6_1k 0) (p0_6_1n 0) (p0_6_1w 0)), (oX9 (p0_6_1a 1 0) (p0_6_1a 1) (p0_6_1k 1) (p0_6_1n 1) (p0_6_1w 1)), (oX9 (p0_6_1a 2 0) (p0_6_1a 2) (p0_6_1k 2) (p0_6_1n 2) (p0_6_1w 2)), (oX9 (p0_6_1a 3 0) (p0_6_1a 3) (p0_6_1k 3) (p0_6_1n 3) (p0_6_1w 3)), (oX9 (p0_6_1a 4 0) (p0_6_1a 4) (p0_6_1k 4) (p0_6_1n 4) (p0_6_1w 4)), (oX9 (p0_6_1a 5 0) (p0_6_1a 5) (p0_6_1k 5) (p0_6_1n 5) (p0_6_1w 5)), (oX6 (p0a 5) p0_4a p0_4k p0_4w p0_4l), [((p0_6a 2), .inl (p0_6_1c, 6, .inr (.inr (.inr (.inr (fun i => some (p0_6_1a i 0)))))))]] : List va_W)) H := hP
            have hD : va_D A (List.flatten ([(oX3 (p0a 0) p0a p0k p0n (upw (o_23.2) 16 (nn (((((o_23.2) 0 9) - 1) * 320) + (((p0_6_1w 1) 3) (nn ((((o_23.2) 12) (nn (((o_23.2) 0 9) - 1))) - 1))))) (w9 16 (nn ((((p0w 0 9) - 1) * 320) + (((p0_6_1w 2) 4) (nn (p0w 12 (nn ((p0w 0 9) - 1)))))))))), (oX0 (p0a 7) p0_6a p0_6k p0_6n p0_6w), (oX9 (p0_6_1a 0 0) (p0_6_1a 0) (p0_6_1k 0) (p0_6_1n 0) (p0_6_1w 0)), (oX9 (p0_6_1a 1 0) (p0_6_1a 1) (p0_6_1k 1) (p0_6_1n 1) (p0_6_1w 1)), (oX9 (p0_6_1a 2 0) (p0_6_1a 2) (p0_6_1k 2) (p0_6_1n 2) (p0_6_1w 2)), (oX9 (p0_6_1a 3 0) (p0_6_1a 3) (p0_6_1k 3) (p0_6_1n 3) (p0_6_1w 3)), (oX9 (p0_6_1a 4 0) (p0_6_1a 4) (p0_6_1k 4) (p0_6_1n 4) (p0_6_1w 4)), (oX9 (p0_6_1a 5 0) (p0_6_1a 5) (p0_6_1k 5) (p0_6_1n 5) (p0_6_1w 5)), (oX6 (p0a 5) p0_4a p0_4k p0_4w p0_4l), [((p0_6a 2), .inl (p0_6_1c, 6, .inr (.inr (.inr (.inr (fun i => some (p0_6_1a i 0)))))))]] : List va_W)) := hD
            obtain ⟨w32, ew32, hrun⟩ := let9 hrun
            rw [← ew32] at hP hD
            refine lv_goto (tgt := 353) hx hb dX3_moveInCode_254 (by decide) ?_
            exact J353 w32 _ _ _ hrun hP hD hK hS (lv_sub hl [] rfl)
          · refine W.eq (g2 := F0 m 223 ls [.ref (p0_6_1a 2 0)]) rfl ?_
            refine va_get (D := (dC, dI)) (ci := 3) (v := .ref ((p0_6_1a 2) 3)) (C := RX9) (T := TX9) (N := 6) hx hb hts i_X9 hown hK hP 32 rfl rfl 2 (by decide) (hts _ qw918) (fun _ h9 => h9) rfl dX3_moveInCode_223 ?_
            refine lv_aload_n hx hb dX3_moveInCode_226 rfl (lv_at hl 7 rfl) ?_
            refine va_get (D := (dC, dI)) (ci := 10) (v := .ref (p0a 12)) (C := RX3) (T := TX3) (N := 20) hx hb hts i_X3 hown hK hP 0 rfl rfl 11 (by decide) (hts _ qw915) (fun _ h9 => h9) rfl dX3_moveInCode_227 ?_
            refine lv_iload hx hb dX3_moveInCode_230 (lv_at hl 0 rfl) ?_
            obtain ⟨hq29, hrun⟩ := chk9 hrun
            refine va_iald hx hb hK hP 4 3 rfl rfl (ixb_in hq29) dX3_moveInCode_232 ?_
            refine lv_iconst (v := 1) hx hb dX3_moveInCode_233 (by decide) ?_
            refine lv_isub hx hb dX3_moveInCode_234 ?_
            obtain ⟨hq30, hrun⟩ := chk9 hrun
            refine va_iald hx hb hK hP 34 29 rfl rfl (ixb_in hq30) dX3_moveInCode_235 ?_
            refine lv_istore (lv' := [(8, .int (((p0_6_1w 2) 3) (nn ((((o_23.2) 12) (nn (((o_23.2) 0 9) - 1))) - 1)))), (7, .int (((o_23.2) 0 9) - 1)), (6, .int (w9 16 (nn ((((p0w 0 9) - 1) * 320) + (((p0_6_1w 2) 4) (nn (p0w 12 (nn ((p0w 0 9) - 1))))))))), (5, .int (((p0_6_1w 2) 4) (nn (p0w 12 (nn ((p0w 0 9) - 1)))))), (4, .int (((p0w 0 9) - 1) * 320)), (3, .int (p0w 12 (nn ((p0w 0 9) - 1)))), (2, .ref (p0_6_1a 2 0)), (1, .int ((p0w 0 9) - 1)), (0, .ref (p0a 0))]) hx hb dX3_moveInCode_236 hl (by decide) rfl (fun ls hl => ?_)
            refine lv_aload_n hx hb dX3_moveInCode_238 rfl (lv_at hl 8 rfl) ?_
            refine va_get (D := (dC, dI)) (ci := 10) (v := .ref (p0a 16)) (C := RX3) (T := TX3) (N := 20) hx hb hts i_X3 hown hK hP 0 rfl rfl 15 (by decide) (hts _ qw906) (fun _ h9 => h9) rfl dX3_moveInCode_239 ?_
            refine lv_iload hx hb dX3_moveInCode_242 (lv_at hl 1 rfl) ?_
            refine lv_sipush (v := 320) hx hb dX3_moveInCode_244 (by decide) ?_
            refine lv_imul hx hb dX3_moveInCode_247 ?_
            refine lv_iload hx hb dX3_moveInCode_248 (lv_at hl 0 rfl) ?_
            refine lv_iadd hx hb dX3_moveInCode_250 ?_
            refine lv_iload hx hb dX3_moveInCode_251 (lv_at hl 2 rfl) ?_
            obtain ⟨hq31, hrun⟩ := chk9 hrun
            refine va_iast hx hb hK hP hD hS 8 7 rfl rfl (ixb_in hq31) dX3_moveInCode_253 (fun H locs hP hD hS => ?_)
            have hP : va_P (dC, dI) cls (List.flatten ([(oX3 (p0a 0) p0a p0k p0n (upw (o_23.2) 16 (nn (((((o_23.2) 0 9) - 1) * 320) + (((p0_6_1w 2) 3) (nn ((((o_23.2) 12) (nn (((o_23.2) 0 9) - 1))) - 1))))) (w9 16 (nn ((((p0w 0 9) - 1) * 320) + (((p0_6_1w 2) 4) (nn (p0w 12 (nn ((p0w 0 9) - 1)))))))))), (oX0 (p0a 7) p0_6a p0_6k p0_6n p0_6w), (oX9 (p0_6_1a 0 0) (p0_6_1a 0) (p0_6_1k 0) (p0_6_1n 0) (p0_6_1w 0)), (oX9 (p0_6_1a 1 0) (p0_6_1a 1) (p0_6_1k 1) (p0_6_1n 1) (p0_6_1w 1)), (oX9 (p0_6_1a 2 0) (p0_6_1a 2) (p0_6_1k 2) (p0_6_1n 2) (p0_6_1w 2)), (oX9 (p0_6_1a 3 0) (p0_6_1a 3) (p0_6_1k 3) (p0_6_1n 3) (p0_6_1w 3)), (oX9 (p0_6_1a 4 0) (p0_6_1a 4) (p0_6_1k 4) (p0_6_1n 4) (p0_6_1w 4)), (oX9 (p0_6_1a 5 0) (p0_6_1a 5) (p0_6_1k 5) (p0_6_1n 5) (p0_6_1w 5)), (oX6 (p0a 5) p0_4a p0_4k p0_4w p0_4l), [((p0_6a 2), .inl (p0_6_1c, 6, .inr (.inr (.inr (.inr (fun i => some (p0_6_1a i 0)))))))]] : List va_W)) H := hP
            have hD : va_D A (List.flatten ([(oX3 (p0a 0) p0a p0k p0n (upw (o_23.2) 16 (nn (((((o_23.2) 0 9) - 1) * 320) + (((p0_6_1w 2) 3) (nn ((((o_23.2) 12) (nn (((o_23.2) 0 9) - 1))) - 1))))) (w9 16 (nn ((((p0w 0 9) - 1) * 320) + (((p0_6_1w 2) 4) (nn (p0w 12 (nn ((p0w 0 9) - 1)))))))))), (oX0 (p0a 7) p0_6a p0_6k p0_6n p0_6w), (oX9 (p0_6_1a 0 0) (p0_6_1a 0) (p0_6_1k 0) (p0_6_1n 0) (p0_6_1w 0)), (oX9 (p0_6_1a 1 0) (p0_6_1a 1) (p0_6_1k 1) (p0_6_1n 1) (p0_6_1w 1)), (oX9 (p0_6_1a 2 0) (p0_6_1a 2) (p0_6_1k 2) (p0_6_1n 2) (p0_6_1w 2)), (oX9 (p0_6_1a 3 0) (p0_6_1a 3) (p0_6_1k 3) (p0_6_1n 3) (p0_6_1w 3)), (oX9 (p0_6_1a 4 0) (p0_6_1a 4) (p0_6_1k 4) (p0_6_1n 4) (p0_6_1w 4)), (oX9 (p0_6_1a 5 0) (p0_6_1a 5) (p0_6_1k 5) (p0_6_1n 5) (p0_6_1w 5)), (oX6 (p0a 5) p0_4a p0_4k p0_4w p0_4l), [((p0_6a 2), .inl (p0_6_1c, 6, .inr (.inr (.inr (.inr (fun i => some (p0_6_1a i 0)))))))]] : List va_W)) := hD
            obtain ⟨w32, ew32, hrun⟩ := let9 hrun
            rw [← ew32] at hP hD
            refine lv_goto (tgt := 353) hx hb dX3_moveInCode_254 (by decide) ?_
            exact J353 w32 _ _ _ hrun hP hD hK hS (lv_sub hl [] rfl)
          · refine W.eq (g2 := F0 m 223 ls [.ref (p0_6_1a 3 0)]) rfl ?_
            refine va_get (D := (dC, dI)) (ci := 3) (v := .ref ((p0_6_1a 3) 3)) (C := RX9) (T := TX9) (N := 6) hx hb hts i_X9 hown hK hP 38 rfl rfl 2 (by decide) (hts _ qw918) (fun _ h9 => h9) rfl dX3_moveInCode_223 ?_
            refine lv_aload_n hx hb dX3_moveInCode_226 rfl (lv_at hl 7 rfl) ?_
            refine va_get (D := (dC, dI)) (ci := 10) (v := .ref (p0a 12)) (C := RX3) (T := TX3) (N := 20) hx hb hts i_X3 hown hK hP 0 rfl rfl 11 (by decide) (hts _ qw915) (fun _ h9 => h9) rfl dX3_moveInCode_227 ?_
            refine lv_iload hx hb dX3_moveInCode_230 (lv_at hl 0 rfl) ?_
            obtain ⟨hq29, hrun⟩ := chk9 hrun
            refine va_iald hx hb hK hP 4 3 rfl rfl (ixb_in hq29) dX3_moveInCode_232 ?_
            refine lv_iconst (v := 1) hx hb dX3_moveInCode_233 (by decide) ?_
            refine lv_isub hx hb dX3_moveInCode_234 ?_
            obtain ⟨hq30, hrun⟩ := chk9 hrun
            refine va_iald hx hb hK hP 40 34 rfl rfl (ixb_in hq30) dX3_moveInCode_235 ?_
            refine lv_istore (lv' := [(8, .int (((p0_6_1w 3) 3) (nn ((((o_23.2) 12) (nn (((o_23.2) 0 9) - 1))) - 1)))), (7, .int (((o_23.2) 0 9) - 1)), (6, .int (w9 16 (nn ((((p0w 0 9) - 1) * 320) + (((p0_6_1w 2) 4) (nn (p0w 12 (nn ((p0w 0 9) - 1))))))))), (5, .int (((p0_6_1w 2) 4) (nn (p0w 12 (nn ((p0w 0 9) - 1)))))), (4, .int (((p0w 0 9) - 1) * 320)), (3, .int (p0w 12 (nn ((p0w 0 9) - 1)))), (2, .ref (p0_6_1a 2 0)), (1, .int ((p0w 0 9) - 1)), (0, .ref (p0a 0))]) hx hb dX3_moveInCode_236 hl (by decide) rfl (fun ls hl => ?_)
            refine lv_aload_n hx hb dX3_moveInCode_238 rfl (lv_at hl 8 rfl) ?_
            refine va_get (D := (dC, dI)) (ci := 10) (v := .ref (p0a 16)) (C := RX3) (T := TX3) (N := 20) hx hb hts i_X3 hown hK hP 0 rfl rfl 15 (by decide) (hts _ qw906) (fun _ h9 => h9) rfl dX3_moveInCode_239 ?_
            refine lv_iload hx hb dX3_moveInCode_242 (lv_at hl 1 rfl) ?_
            refine lv_sipush (v := 320) hx hb dX3_moveInCode_244 (by decide) ?_
            refine lv_imul hx hb dX3_moveInCode_247 ?_
            refine lv_iload hx hb dX3_moveInCode_248 (lv_at hl 0 rfl) ?_
            refine lv_iadd hx hb dX3_moveInCode_250 ?_
            refine lv_iload hx hb dX3_moveInCode_251 (lv_at hl 2 rfl) ?_
            obtain ⟨hq31, hrun⟩ := chk9 hrun
            refine va_iast hx hb hK hP hD hS 8 7 rfl rfl (ixb_in hq31) dX3_moveInCode_253 (fun H locs hP hD hS => ?_)
            have hP : va_P (dC, dI) cls (List.flatten ([(oX3 (p0a 0) p0a p0k p0n (upw (o_23.2) 16 (nn (((((o_23.2) 0 9) - 1) * 320) + (((p0_6_1w 3) 3) (nn ((((o_23.2) 12) (nn (((o_23.2) 0 9) - 1))) - 1))))) (w9 16 (nn ((((p0w 0 9) - 1) * 320) + (((p0_6_1w 2) 4) (nn (p0w 12 (nn ((p0w 0 9) - 1)))))))))), (oX0 (p0a 7) p0_6a p0_6k p0_6n p0_6w), (oX9 (p0_6_1a 0 0) (p0_6_1a 0) (p0_6_1k 0) (p0_6_1n 0) (p0_6_1w 0)), (oX9 (p0_6_1a 1 0) (p0_6_1a 1) (p0_6_1k 1) (p0_6_1n 1) (p0_6_1w 1)), (oX9 (p0_6_1a 2 0) (p0_6_1a 2) (p0_6_1k 2) (p0_6_1n 2) (p0_6_1w 2)), (oX9 (p0_6_1a 3 0) (p0_6_1a 3) (p0_6_1k 3) (p0_6_1n 3) (p0_6_1w 3)), (oX9 (p0_6_1a 4 0) (p0_6_1a 4) (p0_6_1k 4) (p0_6_1n 4) (p0_6_1w 4)), (oX9 (p0_6_1a 5 0) (p0_6_1a 5) (p0_6_1k 5) (p0_6_1n 5) (p0_6_1w 5)), (oX6 (p0a 5) p0_4a p0_4k p0_4w p0_4l), [((p0_6a 2), .inl (p0_6_1c, 6, .inr (.inr (.inr (.inr (fun i => some (p0_6_1a i 0)))))))]] : List va_W)) H := hP
            have hD : va_D A (List.flatten ([(oX3 (p0a 0) p0a p0k p0n (upw (o_23.2) 16 (nn (((((o_23.2) 0 9) - 1) * 320) + (((p0_6_1w 3) 3) (nn ((((o_23.2) 12) (nn (((o_23.2) 0 9) - 1))) - 1))))) (w9 16 (nn ((((p0w 0 9) - 1) * 320) + (((p0_6_1w 2) 4) (nn (p0w 12 (nn ((p0w 0 9) - 1)))))))))), (oX0 (p0a 7) p0_6a p0_6k p0_6n p0_6w), (oX9 (p0_6_1a 0 0) (p0_6_1a 0) (p0_6_1k 0) (p0_6_1n 0) (p0_6_1w 0)), (oX9 (p0_6_1a 1 0) (p0_6_1a 1) (p0_6_1k 1) (p0_6_1n 1) (p0_6_1w 1)), (oX9 (p0_6_1a 2 0) (p0_6_1a 2) (p0_6_1k 2) (p0_6_1n 2) (p0_6_1w 2)), (oX9 (p0_6_1a 3 0) (p0_6_1a 3) (p0_6_1k 3) (p0_6_1n 3) (p0_6_1w 3)), (oX9 (p0_6_1a 4 0) (p0_6_1a 4) (p0_6_1k 4) (p0_6_1n 4) (p0_6_1w 4)), (oX9 (p0_6_1a 5 0) (p0_6_1a 5) (p0_6_1k 5) (p0_6_1n 5) (p0_6_1w 5)), (oX6 (p0a 5) p0_4a p0_4k p0_4w p0_4l), [((p0_6a 2), .inl (p0_6_1c, 6, .inr (.inr (.inr (.inr (fun i => some (p0_6_1a i 0)))))))]] : List va_W)) := hD
            obtain ⟨w32, ew32, hrun⟩ := let9 hrun
            rw [← ew32] at hP hD
            refine lv_goto (tgt := 353) hx hb dX3_moveInCode_254 (by decide) ?_
            exact J353 w32 _ _ _ hrun hP hD hK hS (lv_sub hl [] rfl)
          · refine W.eq (g2 := F0 m 223 ls [.ref (p0_6_1a 4 0)]) rfl ?_
            refine va_get (D := (dC, dI)) (ci := 3) (v := .ref ((p0_6_1a 4) 3)) (C := RX9) (T := TX9) (N := 6) hx hb hts i_X9 hown hK hP 44 rfl rfl 2 (by decide) (hts _ qw918) (fun _ h9 => h9) rfl dX3_moveInCode_223 ?_
            refine lv_aload_n hx hb dX3_moveInCode_226 rfl (lv_at hl 7 rfl) ?_
            refine va_get (D := (dC, dI)) (ci := 10) (v := .ref (p0a 12)) (C := RX3) (T := TX3) (N := 20) hx hb hts i_X3 hown hK hP 0 rfl rfl 11 (by decide) (hts _ qw915) (fun _ h9 => h9) rfl dX3_moveInCode_227 ?_
            refine lv_iload hx hb dX3_moveInCode_230 (lv_at hl 0 rfl) ?_
            obtain ⟨hq29, hrun⟩ := chk9 hrun
            refine va_iald hx hb hK hP 4 3 rfl rfl (ixb_in hq29) dX3_moveInCode_232 ?_
            refine lv_iconst (v := 1) hx hb dX3_moveInCode_233 (by decide) ?_
            refine lv_isub hx hb dX3_moveInCode_234 ?_
            obtain ⟨hq30, hrun⟩ := chk9 hrun
            refine va_iald hx hb hK hP 46 39 rfl rfl (ixb_in hq30) dX3_moveInCode_235 ?_
            refine lv_istore (lv' := [(8, .int (((p0_6_1w 4) 3) (nn ((((o_23.2) 12) (nn (((o_23.2) 0 9) - 1))) - 1)))), (7, .int (((o_23.2) 0 9) - 1)), (6, .int (w9 16 (nn ((((p0w 0 9) - 1) * 320) + (((p0_6_1w 2) 4) (nn (p0w 12 (nn ((p0w 0 9) - 1))))))))), (5, .int (((p0_6_1w 2) 4) (nn (p0w 12 (nn ((p0w 0 9) - 1)))))), (4, .int (((p0w 0 9) - 1) * 320)), (3, .int (p0w 12 (nn ((p0w 0 9) - 1)))), (2, .ref (p0_6_1a 2 0)), (1, .int ((p0w 0 9) - 1)), (0, .ref (p0a 0))]) hx hb dX3_moveInCode_236 hl (by decide) rfl (fun ls hl => ?_)
            refine lv_aload_n hx hb dX3_moveInCode_238 rfl (lv_at hl 8 rfl) ?_
            refine va_get (D := (dC, dI)) (ci := 10) (v := .ref (p0a 16)) (C := RX3) (T := TX3) (N := 20) hx hb hts i_X3 hown hK hP 0 rfl rfl 15 (by decide) (hts _ qw906) (fun _ h9 => h9) rfl dX3_moveInCode_239 ?_
            refine lv_iload hx hb dX3_moveInCode_242 (lv_at hl 1 rfl) ?_
            refine lv_sipush (v := 320) hx hb dX3_moveInCode_244 (by decide) ?_
            refine lv_imul hx hb dX3_moveInCode_247 ?_
            refine lv_iload hx hb dX3_moveInCode_248 (lv_at hl 0 rfl) ?_
            refine lv_iadd hx hb dX3_moveInCode_250 ?_
            refine lv_iload hx hb dX3_moveInCode_251 (lv_at hl 2 rfl) ?_
            obtain ⟨hq31, hrun⟩ := chk9 hrun
            refine va_iast hx hb hK hP hD hS 8 7 rfl rfl (ixb_in hq31) dX3_moveInCode_253 (fun H locs hP hD hS => ?_)
            have hP : va_P (dC, dI) cls (List.flatten ([(oX3 (p0a 0) p0a p0k p0n (upw (o_23.2) 16 (nn (((((o_23.2) 0 9) - 1) * 320) + (((p0_6_1w 4) 3) (nn ((((o_23.2) 12) (nn (((o_23.2) 0 9) - 1))) - 1))))) (w9 16 (nn ((((p0w 0 9) - 1) * 320) + (((p0_6_1w 2) 4) (nn (p0w 12 (nn ((p0w 0 9) - 1)))))))))), (oX0 (p0a 7) p0_6a p0_6k p0_6n p0_6w), (oX9 (p0_6_1a 0 0) (p0_6_1a 0) (p0_6_1k 0) (p0_6_1n 0) (p0_6_1w 0)), (oX9 (p0_6_1a 1 0) (p0_6_1a 1) (p0_6_1k 1) (p0_6_1n 1) (p0_6_1w 1)), (oX9 (p0_6_1a 2 0) (p0_6_1a 2) (p0_6_1k 2) (p0_6_1n 2) (p0_6_1w 2)), (oX9 (p0_6_1a 3 0) (p0_6_1a 3) (p0_6_1k 3) (p0_6_1n 3) (p0_6_1w 3)), (oX9 (p0_6_1a 4 0) (p0_6_1a 4) (p0_6_1k 4) (p0_6_1n 4) (p0_6_1w 4)), (oX9 (p0_6_1a 5 0) (p0_6_1a 5) (p0_6_1k 5) (p0_6_1n 5) (p0_6_1w 5)), (oX6 (p0a 5) p0_4a p0_4k p0_4w p0_4l), [((p0_6a 2), .inl (p0_6_1c, 6, .inr (.inr (.inr (.inr (fun i => some (p0_6_1a i 0)))))))]] : List va_W)) H := hP
            have hD : va_D A (List.flatten ([(oX3 (p0a 0) p0a p0k p0n (upw (o_23.2) 16 (nn (((((o_23.2) 0 9) - 1) * 320) + (((p0_6_1w 4) 3) (nn ((((o_23.2) 12) (nn (((o_23.2) 0 9) - 1))) - 1))))) (w9 16 (nn ((((p0w 0 9) - 1) * 320) + (((p0_6_1w 2) 4) (nn (p0w 12 (nn ((p0w 0 9) - 1)))))))))), (oX0 (p0a 7) p0_6a p0_6k p0_6n p0_6w), (oX9 (p0_6_1a 0 0) (p0_6_1a 0) (p0_6_1k 0) (p0_6_1n 0) (p0_6_1w 0)), (oX9 (p0_6_1a 1 0) (p0_6_1a 1) (p0_6_1k 1) (p0_6_1n 1) (p0_6_1w 1)), (oX9 (p0_6_1a 2 0) (p0_6_1a 2) (p0_6_1k 2) (p0_6_1n 2) (p0_6_1w 2)), (oX9 (p0_6_1a 3 0) (p0_6_1a 3) (p0_6_1k 3) (p0_6_1n 3) (p0_6_1w 3)), (oX9 (p0_6_1a 4 0) (p0_6_1a 4) (p0_6_1k 4) (p0_6_1n 4) (p0_6_1w 4)), (oX9 (p0_6_1a 5 0) (p0_6_1a 5) (p0_6_1k 5) (p0_6_1n 5) (p0_6_1w 5)), (oX6 (p0a 5) p0_4a p0_4k p0_4w p0_4l), [((p0_6a 2), .inl (p0_6_1c, 6, .inr (.inr (.inr (.inr (fun i => some (p0_6_1a i 0)))))))]] : List va_W)) := hD
            obtain ⟨w32, ew32, hrun⟩ := let9 hrun
            rw [← ew32] at hP hD
            refine lv_goto (tgt := 353) hx hb dX3_moveInCode_254 (by decide) ?_
            exact J353 w32 _ _ _ hrun hP hD hK hS (lv_sub hl [] rfl)
          · refine W.eq (g2 := F0 m 223 ls [.ref (p0_6_1a 5 0)]) rfl ?_
            refine va_get (D := (dC, dI)) (ci := 3) (v := .ref ((p0_6_1a 5) 3)) (C := RX9) (T := TX9) (N := 6) hx hb hts i_X9 hown hK hP 50 rfl rfl 2 (by decide) (hts _ qw918) (fun _ h9 => h9) rfl dX3_moveInCode_223 ?_
            refine lv_aload_n hx hb dX3_moveInCode_226 rfl (lv_at hl 7 rfl) ?_
            refine va_get (D := (dC, dI)) (ci := 10) (v := .ref (p0a 12)) (C := RX3) (T := TX3) (N := 20) hx hb hts i_X3 hown hK hP 0 rfl rfl 11 (by decide) (hts _ qw915) (fun _ h9 => h9) rfl dX3_moveInCode_227 ?_
            refine lv_iload hx hb dX3_moveInCode_230 (lv_at hl 0 rfl) ?_
            obtain ⟨hq29, hrun⟩ := chk9 hrun
            refine va_iald hx hb hK hP 4 3 rfl rfl (ixb_in hq29) dX3_moveInCode_232 ?_
            refine lv_iconst (v := 1) hx hb dX3_moveInCode_233 (by decide) ?_
            refine lv_isub hx hb dX3_moveInCode_234 ?_
            obtain ⟨hq30, hrun⟩ := chk9 hrun
            refine va_iald hx hb hK hP 52 44 rfl rfl (ixb_in hq30) dX3_moveInCode_235 ?_
            refine lv_istore (lv' := [(8, .int (((p0_6_1w 5) 3) (nn ((((o_23.2) 12) (nn (((o_23.2) 0 9) - 1))) - 1)))), (7, .int (((o_23.2) 0 9) - 1)), (6, .int (w9 16 (nn ((((p0w 0 9) - 1) * 320) + (((p0_6_1w 2) 4) (nn (p0w 12 (nn ((p0w 0 9) - 1))))))))), (5, .int (((p0_6_1w 2) 4) (nn (p0w 12 (nn ((p0w 0 9) - 1)))))), (4, .int (((p0w 0 9) - 1) * 320)), (3, .int (p0w 12 (nn ((p0w 0 9) - 1)))), (2, .ref (p0_6_1a 2 0)), (1, .int ((p0w 0 9) - 1)), (0, .ref (p0a 0))]) hx hb dX3_moveInCode_236 hl (by decide) rfl (fun ls hl => ?_)
            refine lv_aload_n hx hb dX3_moveInCode_238 rfl (lv_at hl 8 rfl) ?_
            refine va_get (D := (dC, dI)) (ci := 10) (v := .ref (p0a 16)) (C := RX3) (T := TX3) (N := 20) hx hb hts i_X3 hown hK hP 0 rfl rfl 15 (by decide) (hts _ qw906) (fun _ h9 => h9) rfl dX3_moveInCode_239 ?_
            refine lv_iload hx hb dX3_moveInCode_242 (lv_at hl 1 rfl) ?_
            refine lv_sipush (v := 320) hx hb dX3_moveInCode_244 (by decide) ?_
            refine lv_imul hx hb dX3_moveInCode_247 ?_
            refine lv_iload hx hb dX3_moveInCode_248 (lv_at hl 0 rfl) ?_
            refine lv_iadd hx hb dX3_moveInCode_250 ?_
            refine lv_iload hx hb dX3_moveInCode_251 (lv_at hl 2 rfl) ?_
            obtain ⟨hq31, hrun⟩ := chk9 hrun
            refine va_iast hx hb hK hP hD hS 8 7 rfl rfl (ixb_in hq31) dX3_moveInCode_253 (fun H locs hP hD hS => ?_)
            have hP : va_P (dC, dI) cls (List.flatten ([(oX3 (p0a 0) p0a p0k p0n (upw (o_23.2) 16 (nn (((((o_23.2) 0 9) - 1) * 320) + (((p0_6_1w 5) 3) (nn ((((o_23.2) 12) (nn (((o_23.2) 0 9) - 1))) - 1))))) (w9 16 (nn ((((p0w 0 9) - 1) * 320) + (((p0_6_1w 2) 4) (nn (p0w 12 (nn ((p0w 0 9) - 1)))))))))), (oX0 (p0a 7) p0_6a p0_6k p0_6n p0_6w), (oX9 (p0_6_1a 0 0) (p0_6_1a 0) (p0_6_1k 0) (p0_6_1n 0) (p0_6_1w 0)), (oX9 (p0_6_1a 1 0) (p0_6_1a 1) (p0_6_1k 1) (p0_6_1n 1) (p0_6_1w 1)), (oX9 (p0_6_1a 2 0) (p0_6_1a 2) (p0_6_1k 2) (p0_6_1n 2) (p0_6_1w 2)), (oX9 (p0_6_1a 3 0) (p0_6_1a 3) (p0_6_1k 3) (p0_6_1n 3) (p0_6_1w 3)), (oX9 (p0_6_1a 4 0) (p0_6_1a 4) (p0_6_1k 4) (p0_6_1n 4) (p0_6_1w 4)), (oX9 (p0_6_1a 5 0) (p0_6_1a 5) (p0_6_1k 5) (p0_6_1n 5) (p0_6_1w 5)), (oX6 (p0a 5) p0_4a p0_4k p0_4w p0_4l), [((p0_6a 2), .inl (p0_6_1c, 6, .inr (.inr (.inr (.inr (fun i => some (p0_6_1a i 0)))))))]] : List va_W)) H := hP
            have hD : va_D A (List.flatten ([(oX3 (p0a 0) p0a p0k p0n (upw (o_23.2) 16 (nn (((((o_23.2) 0 9) - 1) * 320) + (((p0_6_1w 5) 3) (nn ((((o_23.2) 12) (nn (((o_23.2) 0 9) - 1))) - 1))))) (w9 16 (nn ((((p0w 0 9) - 1) * 320) + (((p0_6_1w 2) 4) (nn (p0w 12 (nn ((p0w 0 9) - 1)))))))))), (oX0 (p0a 7) p0_6a p0_6k p0_6n p0_6w), (oX9 (p0_6_1a 0 0) (p0_6_1a 0) (p0_6_1k 0) (p0_6_1n 0) (p0_6_1w 0)), (oX9 (p0_6_1a 1 0) (p0_6_1a 1) (p0_6_1k 1) (p0_6_1n 1) (p0_6_1w 1)), (oX9 (p0_6_1a 2 0) (p0_6_1a 2) (p0_6_1k 2) (p0_6_1n 2) (p0_6_1w 2)), (oX9 (p0_6_1a 3 0) (p0_6_1a 3) (p0_6_1k 3) (p0_6_1n 3) (p0_6_1w 3)), (oX9 (p0_6_1a 4 0) (p0_6_1a 4) (p0_6_1k 4) (p0_6_1n 4) (p0_6_1w 4)), (oX9 (p0_6_1a 5 0) (p0_6_1a 5) (p0_6_1k 5) (p0_6_1n 5) (p0_6_1w 5)), (oX6 (p0a 5) p0_4a p0_4k p0_4w p0_4l), [((p0_6a 2), .inl (p0_6_1c, 6, .inr (.inr (.inr (.inr (fun i => some (p0_6_1a i 0)))))))]] : List va_W)) := hD
            obtain ⟨w32, ew32, hrun⟩ := let9 hrun
            rw [← ew32] at hP hD
            refine lv_goto (tgt := 353) hx hb dX3_moveInCode_254 (by decide) ?_
            exact J353 w32 _ _ _ hrun hP hD hK hS (lv_sub hl [] rfl)
      rcases br9 hrun with ⟨hc33, hrun⟩ | ⟨hc33, hrun⟩
      · refine lv_tableIn (off := 189) (tgt := 257) hx hb dX3_moveInCode_68 (by rw [hc33]; decide) (by rw [hc33]; decide) (by rw [hc33]; rfl) (by decide) ?_
        refine lv_aload_n hx hb dX3_moveInCode_257 rfl (lv_at hl 5 rfl) ?_
        refine va_get (D := (dC, dI)) (ci := 10) (v := .ref (p0a 16)) (C := RX3) (T := TX3) (N := 20) hx hb hts i_X3 hown hK hP 0 rfl rfl 15 (by decide) (hts _ qw906) (fun _ h9 => h9) rfl dX3_moveInCode_258 ?_
        refine lv_iload hx hb dX3_moveInCode_261 (lv_at hl 1 rfl) ?_
        refine lv_aload_n hx hb dX3_moveInCode_263 rfl (lv_at hl 3 rfl) ?_
        refine va_get (D := (dC, dI)) (ci := 3) (v := .ref ((p0_6_1a 2) 3)) (C := RX9) (T := TX9) (N := 6) hx hb hts i_X9 hown hK hP 32 rfl rfl 2 (by decide) (hts _ qw918) (fun _ h9 => h9) rfl dX3_moveInCode_264 ?_
        refine lv_iload_n hx hb dX3_moveInCode_267 rfl (lv_at hl 2 rfl) ?_
        obtain ⟨hq34, hrun⟩ := chk9 hrun
        refine va_iald hx hb hK hP 34 29 rfl rfl (ixb_in hq34) dX3_moveInCode_268 ?_
        refine lv_iadd hx hb dX3_moveInCode_269 ?_
        refine lv_aload_n hx hb dX3_moveInCode_270 rfl (lv_at hl 5 rfl) ?_
        refine va_get (D := (dC, dI)) (ci := 10) (v := .ref (p0a 16)) (C := RX3) (T := TX3) (N := 20) hx hb hts i_X3 hown hK hP 0 rfl rfl 15 (by decide) (hts _ qw906) (fun _ h9 => h9) rfl dX3_moveInCode_271 ?_
        refine lv_iload hx hb dX3_moveInCode_274 (lv_at hl 1 rfl) ?_
        refine lv_iload hx hb dX3_moveInCode_276 (lv_at hl 0 rfl) ?_
        refine lv_iadd hx hb dX3_moveInCode_278 ?_
        obtain ⟨hq35, hrun⟩ := chk9 hrun
        refine va_iald hx hb hK hP 8 7 rfl rfl (ixb_in hq35) dX3_moveInCode_279 ?_
        obtain ⟨hq36, hrun⟩ := chk9 hrun
        refine va_iast hx hb hK hP hD hS 8 7 rfl rfl (ixb_in hq36) dX3_moveInCode_280 (fun H locs hP hD hS => ?_)
        have hP : va_P (dC, dI) cls (List.flatten ([(oX3 (p0a 0) p0a p0k p0n (upw w9 16 (nn ((((p0w 0 9) - 1) * 320) + (((p0_6_1w 2) 3) (nn (p0w 12 (nn ((p0w 0 9) - 1))))))) (w9 16 (nn ((((p0w 0 9) - 1) * 320) + (((p0_6_1w 2) 4) (nn (p0w 12 (nn ((p0w 0 9) - 1)))))))))), (oX0 (p0a 7) p0_6a p0_6k p0_6n p0_6w), (oX9 (p0_6_1a 0 0) (p0_6_1a 0) (p0_6_1k 0) (p0_6_1n 0) (p0_6_1w 0)), (oX9 (p0_6_1a 1 0) (p0_6_1a 1) (p0_6_1k 1) (p0_6_1n 1) (p0_6_1w 1)), (oX9 (p0_6_1a 2 0) (p0_6_1a 2) (p0_6_1k 2) (p0_6_1n 2) (p0_6_1w 2)), (oX9 (p0_6_1a 3 0) (p0_6_1a 3) (p0_6_1k 3) (p0_6_1n 3) (p0_6_1w 3)), (oX9 (p0_6_1a 4 0) (p0_6_1a 4) (p0_6_1k 4) (p0_6_1n 4) (p0_6_1w 4)), (oX9 (p0_6_1a 5 0) (p0_6_1a 5) (p0_6_1k 5) (p0_6_1n 5) (p0_6_1w 5)), (oX6 (p0a 5) p0_4a p0_4k p0_4w p0_4l), [((p0_6a 2), .inl (p0_6_1c, 6, .inr (.inr (.inr (.inr (fun i => some (p0_6_1a i 0)))))))]] : List va_W)) H := hP
        have hD : va_D A (List.flatten ([(oX3 (p0a 0) p0a p0k p0n (upw w9 16 (nn ((((p0w 0 9) - 1) * 320) + (((p0_6_1w 2) 3) (nn (p0w 12 (nn ((p0w 0 9) - 1))))))) (w9 16 (nn ((((p0w 0 9) - 1) * 320) + (((p0_6_1w 2) 4) (nn (p0w 12 (nn ((p0w 0 9) - 1)))))))))), (oX0 (p0a 7) p0_6a p0_6k p0_6n p0_6w), (oX9 (p0_6_1a 0 0) (p0_6_1a 0) (p0_6_1k 0) (p0_6_1n 0) (p0_6_1w 0)), (oX9 (p0_6_1a 1 0) (p0_6_1a 1) (p0_6_1k 1) (p0_6_1n 1) (p0_6_1w 1)), (oX9 (p0_6_1a 2 0) (p0_6_1a 2) (p0_6_1k 2) (p0_6_1n 2) (p0_6_1w 2)), (oX9 (p0_6_1a 3 0) (p0_6_1a 3) (p0_6_1k 3) (p0_6_1n 3) (p0_6_1w 3)), (oX9 (p0_6_1a 4 0) (p0_6_1a 4) (p0_6_1k 4) (p0_6_1n 4) (p0_6_1w 4)), (oX9 (p0_6_1a 5 0) (p0_6_1a 5) (p0_6_1k 5) (p0_6_1n 5) (p0_6_1w 5)), (oX6 (p0a 5) p0_4a p0_4k p0_4w p0_4l), [((p0_6a 2), .inl (p0_6_1c, 6, .inr (.inr (.inr (.inr (fun i => some (p0_6_1a i 0)))))))]] : List va_W)) := hD
        obtain ⟨w37, ew37, hrun⟩ := let9 hrun
        rw [← ew37] at hP hD
        refine lv_goto (tgt := 353) hx hb dX3_moveInCode_281 (by decide) ?_
        exact J353 w37 _ _ _ hrun hP hD hK hS (lv_sub hl [] rfl)
      rcases br9 hrun with ⟨hc38, hrun⟩ | ⟨hc38, hrun⟩
      · refine lv_tableIn (off := 216) (tgt := 284) hx hb dX3_moveInCode_68 (by rw [hc38]; decide) (by rw [hc38]; decide) (by rw [hc38]; rfl) (by decide) ?_
        refine lv_aload_n hx hb dX3_moveInCode_284 rfl (lv_at hl 5 rfl) ?_
        refine va_get (D := (dC, dI)) (ci := 10) (v := .ref (p0a 16)) (C := RX3) (T := TX3) (N := 20) hx hb hts i_X3 hown hK hP 0 rfl rfl 15 (by decide) (hts _ qw906) (fun _ h9 => h9) rfl dX3_moveInCode_285 ?_
        refine lv_iload hx hb dX3_moveInCode_288 (lv_at hl 1 rfl) ?_
        refine lv_aload_n hx hb dX3_moveInCode_290 rfl (lv_at hl 3 rfl) ?_
        refine va_get (D := (dC, dI)) (ci := 3) (v := .ref ((p0_6_1a 2) 3)) (C := RX9) (T := TX9) (N := 6) hx hb hts i_X9 hown hK hP 32 rfl rfl 2 (by decide) (hts _ qw918) (fun _ h9 => h9) rfl dX3_moveInCode_291 ?_
        refine lv_iload_n hx hb dX3_moveInCode_294 rfl (lv_at hl 2 rfl) ?_
        obtain ⟨hq39, hrun⟩ := chk9 hrun
        refine va_iald hx hb hK hP 34 29 rfl rfl (ixb_in hq39) dX3_moveInCode_295 ?_
        refine lv_iadd hx hb dX3_moveInCode_296 ?_
        refine lv_aload_n hx hb dX3_moveInCode_297 rfl (lv_at hl 5 rfl) ?_
        refine va_get (D := (dC, dI)) (ci := 10) (v := .ref (p0a 17)) (C := RX3) (T := TX3) (N := 20) hx hb hts i_X3 hown hK hP 0 rfl rfl 16 (by decide) (hts _ qw935) (fun _ h9 => h9) rfl dX3_moveInCode_298 ?_
        refine lv_iload_n hx hb dX3_moveInCode_301 rfl (lv_at hl 4 rfl) ?_
        refine lv_aload_n hx hb dX3_moveInCode_302 rfl (lv_at hl 5 rfl) ?_
        refine va_get (D := (dC, dI)) (ci := 10) (v := .int (w9 0 17)) (C := RX3) (T := TX3) (N := 20) hx hb hts i_X3 hown hK hP 0 rfl rfl 17 (by decide) (hts _ qw936) (fun _ h9 => h9) rfl dX3_moveInCode_303 ?_
        refine lv_imul hx hb dX3_moveInCode_306 ?_
        refine lv_iload hx hb dX3_moveInCode_307 (lv_at hl 0 rfl) ?_
        refine lv_iadd hx hb dX3_moveInCode_309 ?_
        obtain ⟨hq40, hrun⟩ := chk9 hrun
        refine va_iald hx hb hK hP 9 8 rfl rfl (ixb_in hq40) dX3_moveInCode_310 ?_
        obtain ⟨hq41, hrun⟩ := chk9 hrun
        refine va_iast hx hb hK hP hD hS 8 7 rfl rfl (ixb_in hq41) dX3_moveInCode_311 (fun H locs hP hD hS => ?_)
        have hP : va_P (dC, dI) cls (List.flatten ([(oX3 (p0a 0) p0a p0k p0n (upw w9 16 (nn ((((p0w 0 9) - 1) * 320) + (((p0_6_1w 2) 3) (nn (p0w 12 (nn ((p0w 0 9) - 1))))))) (w9 17 (nn ((((p0w 0 9) - 1) * (w9 0 17)) + (((p0_6_1w 2) 4) (nn (p0w 12 (nn ((p0w 0 9) - 1)))))))))), (oX0 (p0a 7) p0_6a p0_6k p0_6n p0_6w), (oX9 (p0_6_1a 0 0) (p0_6_1a 0) (p0_6_1k 0) (p0_6_1n 0) (p0_6_1w 0)), (oX9 (p0_6_1a 1 0) (p0_6_1a 1) (p0_6_1k 1) (p0_6_1n 1) (p0_6_1w 1)), (oX9 (p0_6_1a 2 0) (p0_6_1a 2) (p0_6_1k 2) (p0_6_1n 2) (p0_6_1w 2)), (oX9 (p0_6_1a 3 0) (p0_6_1a 3) (p0_6_1k 3) (p0_6_1n 3) (p0_6_1w 3)), (oX9 (p0_6_1a 4 0) (p0_6_1a 4) (p0_6_1k 4) (p0_6_1n 4) (p0_6_1w 4)), (oX9 (p0_6_1a 5 0) (p0_6_1a 5) (p0_6_1k 5) (p0_6_1n 5) (p0_6_1w 5)), (oX6 (p0a 5) p0_4a p0_4k p0_4w p0_4l), [((p0_6a 2), .inl (p0_6_1c, 6, .inr (.inr (.inr (.inr (fun i => some (p0_6_1a i 0)))))))]] : List va_W)) H := hP
        have hD : va_D A (List.flatten ([(oX3 (p0a 0) p0a p0k p0n (upw w9 16 (nn ((((p0w 0 9) - 1) * 320) + (((p0_6_1w 2) 3) (nn (p0w 12 (nn ((p0w 0 9) - 1))))))) (w9 17 (nn ((((p0w 0 9) - 1) * (w9 0 17)) + (((p0_6_1w 2) 4) (nn (p0w 12 (nn ((p0w 0 9) - 1)))))))))), (oX0 (p0a 7) p0_6a p0_6k p0_6n p0_6w), (oX9 (p0_6_1a 0 0) (p0_6_1a 0) (p0_6_1k 0) (p0_6_1n 0) (p0_6_1w 0)), (oX9 (p0_6_1a 1 0) (p0_6_1a 1) (p0_6_1k 1) (p0_6_1n 1) (p0_6_1w 1)), (oX9 (p0_6_1a 2 0) (p0_6_1a 2) (p0_6_1k 2) (p0_6_1n 2) (p0_6_1w 2)), (oX9 (p0_6_1a 3 0) (p0_6_1a 3) (p0_6_1k 3) (p0_6_1n 3) (p0_6_1w 3)), (oX9 (p0_6_1a 4 0) (p0_6_1a 4) (p0_6_1k 4) (p0_6_1n 4) (p0_6_1w 4)), (oX9 (p0_6_1a 5 0) (p0_6_1a 5) (p0_6_1k 5) (p0_6_1n 5) (p0_6_1w 5)), (oX6 (p0a 5) p0_4a p0_4k p0_4w p0_4l), [((p0_6a 2), .inl (p0_6_1c, 6, .inr (.inr (.inr (.inr (fun i => some (p0_6_1a i 0)))))))]] : List va_W)) := hD
        obtain ⟨w42, ew42, hrun⟩ := let9 hrun
        rw [← ew42] at hP hD
        refine lv_goto (tgt := 353) hx hb dX3_moveInCode_312 (by decide) ?_
        exact J353 w42 _ _ _ hrun hP hD hK hS (lv_sub hl [] rfl)
      rcases br9 hrun with ⟨hc43, hrun⟩ | ⟨hc43, hrun⟩
      · refine lv_tableIn (off := 247) (tgt := 315) hx hb dX3_moveInCode_68 (by rw [hc43]; decide) (by rw [hc43]; decide) (by rw [hc43]; rfl) (by decide) ?_
        refine lv_aload_n hx hb dX3_moveInCode_315 rfl (lv_at hl 5 rfl) ?_
        refine va_get (D := (dC, dI)) (ci := 10) (v := .ref (p0a 17)) (C := RX3) (T := TX3) (N := 20) hx hb hts i_X3 hown hK hP 0 rfl rfl 16 (by decide) (hts _ qw935) (fun _ h9 => h9) rfl dX3_moveInCode_316 ?_
        refine lv_iload_n hx hb dX3_moveInCode_319 rfl (lv_at hl 4 rfl) ?_
        refine lv_aload_n hx hb dX3_moveInCode_320 rfl (lv_at hl 5 rfl) ?_
        refine va_get (D := (dC, dI)) (ci := 10) (v := .int (w9 0 17)) (C := RX3) (T := TX3) (N := 20) hx hb hts i_X3 hown hK hP 0 rfl rfl 17 (by decide) (hts _ qw936) (fun _ h9 => h9) rfl dX3_moveInCode_321 ?_
        refine lv_imul hx hb dX3_moveInCode_324 ?_
        refine lv_aload_n hx hb dX3_moveInCode_325 rfl (lv_at hl 3 rfl) ?_
        refine va_get (D := (dC, dI)) (ci := 3) (v := .ref ((p0_6_1a 2) 5)) (C := RX9) (T := TX9) (N := 6) hx hb hts i_X9 hown hK hP 32 rfl rfl 4 (by decide) (hts _ qw967) (fun _ h9 => h9) rfl dX3_moveInCode_326 ?_
        refine lv_iload_n hx hb dX3_moveInCode_329 rfl (lv_at hl 2 rfl) ?_
        obtain ⟨hq44, hrun⟩ := chk9 hrun
        refine va_iald hx hb hK hP 36 31 rfl rfl (ixb_in hq44) dX3_moveInCode_330 ?_
        refine lv_iadd hx hb dX3_moveInCode_331 ?_
        refine lv_aload_n hx hb dX3_moveInCode_332 rfl (lv_at hl 5 rfl) ?_
        refine va_get (D := (dC, dI)) (ci := 10) (v := .ref (p0a 16)) (C := RX3) (T := TX3) (N := 20) hx hb hts i_X3 hown hK hP 0 rfl rfl 15 (by decide) (hts _ qw906) (fun _ h9 => h9) rfl dX3_moveInCode_333 ?_
        refine lv_iload hx hb dX3_moveInCode_336 (lv_at hl 1 rfl) ?_
        refine lv_iload hx hb dX3_moveInCode_338 (lv_at hl 0 rfl) ?_
        refine lv_iadd hx hb dX3_moveInCode_340 ?_
        obtain ⟨hq45, hrun⟩ := chk9 hrun
        refine va_iald hx hb hK hP 8 7 rfl rfl (ixb_in hq45) dX3_moveInCode_341 ?_
        obtain ⟨hq46, hrun⟩ := chk9 hrun
        refine va_iast hx hb hK hP hD hS 9 8 rfl rfl (ixb_in hq46) dX3_moveInCode_342 (fun H locs hP hD hS => ?_)
        have hP : va_P (dC, dI) cls (List.flatten ([(oX3 (p0a 0) p0a p0k p0n (upw w9 17 (nn ((((p0w 0 9) - 1) * (w9 0 17)) + (((p0_6_1w 2) 5) (nn (p0w 12 (nn ((p0w 0 9) - 1))))))) (w9 16 (nn ((((p0w 0 9) - 1) * 320) + (((p0_6_1w 2) 4) (nn (p0w 12 (nn ((p0w 0 9) - 1)))))))))), (oX0 (p0a 7) p0_6a p0_6k p0_6n p0_6w), (oX9 (p0_6_1a 0 0) (p0_6_1a 0) (p0_6_1k 0) (p0_6_1n 0) (p0_6_1w 0)), (oX9 (p0_6_1a 1 0) (p0_6_1a 1) (p0_6_1k 1) (p0_6_1n 1) (p0_6_1w 1)), (oX9 (p0_6_1a 2 0) (p0_6_1a 2) (p0_6_1k 2) (p0_6_1n 2) (p0_6_1w 2)), (oX9 (p0_6_1a 3 0) (p0_6_1a 3) (p0_6_1k 3) (p0_6_1n 3) (p0_6_1w 3)), (oX9 (p0_6_1a 4 0) (p0_6_1a 4) (p0_6_1k 4) (p0_6_1n 4) (p0_6_1w 4)), (oX9 (p0_6_1a 5 0) (p0_6_1a 5) (p0_6_1k 5) (p0_6_1n 5) (p0_6_1w 5)), (oX6 (p0a 5) p0_4a p0_4k p0_4w p0_4l), [((p0_6a 2), .inl (p0_6_1c, 6, .inr (.inr (.inr (.inr (fun i => some (p0_6_1a i 0)))))))]] : List va_W)) H := hP
        have hD : va_D A (List.flatten ([(oX3 (p0a 0) p0a p0k p0n (upw w9 17 (nn ((((p0w 0 9) - 1) * (w9 0 17)) + (((p0_6_1w 2) 5) (nn (p0w 12 (nn ((p0w 0 9) - 1))))))) (w9 16 (nn ((((p0w 0 9) - 1) * 320) + (((p0_6_1w 2) 4) (nn (p0w 12 (nn ((p0w 0 9) - 1)))))))))), (oX0 (p0a 7) p0_6a p0_6k p0_6n p0_6w), (oX9 (p0_6_1a 0 0) (p0_6_1a 0) (p0_6_1k 0) (p0_6_1n 0) (p0_6_1w 0)), (oX9 (p0_6_1a 1 0) (p0_6_1a 1) (p0_6_1k 1) (p0_6_1n 1) (p0_6_1w 1)), (oX9 (p0_6_1a 2 0) (p0_6_1a 2) (p0_6_1k 2) (p0_6_1n 2) (p0_6_1w 2)), (oX9 (p0_6_1a 3 0) (p0_6_1a 3) (p0_6_1k 3) (p0_6_1n 3) (p0_6_1w 3)), (oX9 (p0_6_1a 4 0) (p0_6_1a 4) (p0_6_1k 4) (p0_6_1n 4) (p0_6_1w 4)), (oX9 (p0_6_1a 5 0) (p0_6_1a 5) (p0_6_1k 5) (p0_6_1n 5) (p0_6_1w 5)), (oX6 (p0a 5) p0_4a p0_4k p0_4w p0_4l), [((p0_6a 2), .inl (p0_6_1c, 6, .inr (.inr (.inr (.inr (fun i => some (p0_6_1a i 0)))))))]] : List va_W)) := hD
        obtain ⟨w47, ew47, hrun⟩ := let9 hrun
        rw [← ew47] at hP hD
        refine lv_goto (tgt := 353) hx hb dX3_moveInCode_343 (by decide) ?_
        exact J353 w47 _ _ _ hrun hP hD hK hS (lv_sub hl [] rfl)
      rcases br9 hrun with ⟨hc48, hrun⟩ | ⟨hc48, hrun⟩
      · refine lv_tableIn (off := 83) (tgt := 151) hx hb dX3_moveInCode_68 (by rw [hc48]; decide) (by rw [hc48]; decide) (by rw [hc48]; rfl) (by decide) ?_
        refine lv_aload_n hx hb dX3_moveInCode_151 rfl (lv_at hl 5 rfl) ?_
        refine va_get (D := (dC, dI)) (ci := 10) (v := .ref (p0a 16)) (C := RX3) (T := TX3) (N := 20) hx hb hts i_X3 hown hK hP 0 rfl rfl 15 (by decide) (hts _ qw906) (fun _ h9 => h9) rfl dX3_moveInCode_152 ?_
        refine lv_iload hx hb dX3_moveInCode_155 (lv_at hl 1 rfl) ?_
        refine lv_iload hx hb dX3_moveInCode_157 (lv_at hl 0 rfl) ?_
        refine lv_iadd hx hb dX3_moveInCode_159 ?_
        obtain ⟨hq49, hrun⟩ := chk9 hrun
        refine va_iald hx hb hK hP 8 7 rfl rfl (ixb_in hq49) dX3_moveInCode_160 ?_
        rcases br9 hrun with ⟨hc50, hrun⟩ | ⟨hc50, hrun⟩
        · refine lv_if_ne (tgt := 353) hx hb dX3_moveInCode_161 (by decide) (fun c => absurd hc50 c) (fun _ => ?_)
          refine lv_aload_n hx hb dX3_moveInCode_164 rfl (lv_at hl 5 rfl) ?_
          refine va_get (D := (dC, dI)) (ci := 10) (v := .ref (p0a 12)) (C := RX3) (T := TX3) (N := 20) hx hb hts i_X3 hown hK hP 0 rfl rfl 11 (by decide) (hts _ qw915) (fun _ h9 => h9) rfl dX3_moveInCode_165 ?_
          refine lv_iload_n hx hb dX3_moveInCode_168 rfl (lv_at hl 4 rfl) ?_
          refine lv_aload_n hx hb dX3_moveInCode_169 rfl (lv_at hl 3 rfl) ?_
          refine va_get (D := (dC, dI)) (ci := 3) (v := .ref ((p0_6_1a 2) 5)) (C := RX9) (T := TX9) (N := 6) hx hb hts i_X9 hown hK hP 32 rfl rfl 4 (by decide) (hts _ qw967) (fun _ h9 => h9) rfl dX3_moveInCode_170 ?_
          refine lv_iload_n hx hb dX3_moveInCode_173 rfl (lv_at hl 2 rfl) ?_
          obtain ⟨hq51, hrun⟩ := chk9 hrun
          refine va_iald hx hb hK hP 36 31 rfl rfl (ixb_in hq51) dX3_moveInCode_174 ?_
          obtain ⟨hq52, hrun⟩ := chk9 hrun
          refine va_iast hx hb hK hP hD hS 4 3 rfl rfl (ixb_in hq52) dX3_moveInCode_175 (fun H locs hP hD hS => ?_)
          have hP : va_P (dC, dI) cls (List.flatten ([(oX3 (p0a 0) p0a p0k p0n (upw w9 12 (nn ((p0w 0 9) - 1)) (((p0_6_1w 2) 5) (nn (p0w 12 (nn ((p0w 0 9) - 1))))))), (oX0 (p0a 7) p0_6a p0_6k p0_6n p0_6w), (oX9 (p0_6_1a 0 0) (p0_6_1a 0) (p0_6_1k 0) (p0_6_1n 0) (p0_6_1w 0)), (oX9 (p0_6_1a 1 0) (p0_6_1a 1) (p0_6_1k 1) (p0_6_1n 1) (p0_6_1w 1)), (oX9 (p0_6_1a 2 0) (p0_6_1a 2) (p0_6_1k 2) (p0_6_1n 2) (p0_6_1w 2)), (oX9 (p0_6_1a 3 0) (p0_6_1a 3) (p0_6_1k 3) (p0_6_1n 3) (p0_6_1w 3)), (oX9 (p0_6_1a 4 0) (p0_6_1a 4) (p0_6_1k 4) (p0_6_1n 4) (p0_6_1w 4)), (oX9 (p0_6_1a 5 0) (p0_6_1a 5) (p0_6_1k 5) (p0_6_1n 5) (p0_6_1w 5)), (oX6 (p0a 5) p0_4a p0_4k p0_4w p0_4l), [((p0_6a 2), .inl (p0_6_1c, 6, .inr (.inr (.inr (.inr (fun i => some (p0_6_1a i 0)))))))]] : List va_W)) H := hP
          have hD : va_D A (List.flatten ([(oX3 (p0a 0) p0a p0k p0n (upw w9 12 (nn ((p0w 0 9) - 1)) (((p0_6_1w 2) 5) (nn (p0w 12 (nn ((p0w 0 9) - 1))))))), (oX0 (p0a 7) p0_6a p0_6k p0_6n p0_6w), (oX9 (p0_6_1a 0 0) (p0_6_1a 0) (p0_6_1k 0) (p0_6_1n 0) (p0_6_1w 0)), (oX9 (p0_6_1a 1 0) (p0_6_1a 1) (p0_6_1k 1) (p0_6_1n 1) (p0_6_1w 1)), (oX9 (p0_6_1a 2 0) (p0_6_1a 2) (p0_6_1k 2) (p0_6_1n 2) (p0_6_1w 2)), (oX9 (p0_6_1a 3 0) (p0_6_1a 3) (p0_6_1k 3) (p0_6_1n 3) (p0_6_1w 3)), (oX9 (p0_6_1a 4 0) (p0_6_1a 4) (p0_6_1k 4) (p0_6_1n 4) (p0_6_1w 4)), (oX9 (p0_6_1a 5 0) (p0_6_1a 5) (p0_6_1k 5) (p0_6_1n 5) (p0_6_1w 5)), (oX6 (p0a 5) p0_4a p0_4k p0_4w p0_4l), [((p0_6a 2), .inl (p0_6_1c, 6, .inr (.inr (.inr (.inr (fun i => some (p0_6_1a i 0)))))))]] : List va_W)) := hD
          obtain ⟨w53, ew53, hrun⟩ := let9 hrun
          rw [← ew53] at hP hD
          refine lv_goto (tgt := 353) hx hb dX3_moveInCode_176 (by decide) ?_
          exact J353 w53 _ _ _ hrun hP hD hK hS (lv_sub hl [] rfl)
        · refine lv_if_ne (tgt := 353) hx hb dX3_moveInCode_161 (by decide) (fun _ => ?_) (fun c => absurd c hc50)
          exact J353 w9 _ _ _ hrun hP hD hK hS (lv_sub hl [] rfl)
      refine lv_tableOut (tgt := 346) hx hb dX3_moveInCode_68 (show Int32.toInt (((p0_6_1w 2) 2) (nn (p0w 12 (nn ((p0w 0 9) - 1))))) < 22 ∨ (28 : Int) < Int32.toInt (((p0_6_1w 2) 2) (nn (p0w 12 (nn ((p0w 0 9) - 1))))) from by have g0 := lv_neT hc12 (show Int32.toInt 22 = 22 by decide); have g1 := lv_neT hc15 (show Int32.toInt 23 = 23 by decide); have g2 := lv_neT hc21 (show Int32.toInt 24 = 24 by decide); have g3 := lv_neT hc33 (show Int32.toInt 25 = 25 by decide); have g4 := lv_neT hc38 (show Int32.toInt 26 = 26 by decide); have g5 := lv_neT hc43 (show Int32.toInt 27 = 27 by decide); have g6 := lv_neT hc48 (show Int32.toInt 28 = 28 by decide); omega) (by decide) ?_
      refine lv_aload_n hx hb dX3_moveInCode_346 rfl (lv_at hl 5 rfl) ?_
      refine lv_aload_n hx hb dX3_moveInCode_347 rfl (lv_at hl 3 rfl) ?_
      refine lv_iload_n hx hb dX3_moveInCode_348 rfl (lv_at hl 4 rfl) ?_
      refine lv_iload_n hx hb dX3_moveInCode_349 rfl (lv_at hl 2 rfl) ?_
      obtain ⟨o_54, hc_54, hrun⟩ := bnd9 hrun
      have hPx : va_P (dC, dI) cls ((List.flatten ([(oX3 (p0a 0) p0a p0k p0n w9), (oX9 (p0_6_1a 2 0) (p0_6_1a 2) (p0_6_1k 2) (p0_6_1n 2) (p0_6_1w 2)), (oX6 (p0a 5) p0_4a p0_4k p0_4w p0_4l)] : List va_W)) ++ (List.flatten ([(oX0 (p0a 7) p0_6a p0_6k p0_6n p0_6w), (oX9 (p0_6_1a 0 0) (p0_6_1a 0) (p0_6_1k 0) (p0_6_1n 0) (p0_6_1w 0)), (oX9 (p0_6_1a 1 0) (p0_6_1a 1) (p0_6_1k 1) (p0_6_1n 1) (p0_6_1w 1)), (oX9 (p0_6_1a 3 0) (p0_6_1a 3) (p0_6_1k 3) (p0_6_1n 3) (p0_6_1w 3)), (oX9 (p0_6_1a 4 0) (p0_6_1a 4) (p0_6_1k 4) (p0_6_1n 4) (p0_6_1w 4)), (oX9 (p0_6_1a 5 0) (p0_6_1a 5) (p0_6_1k 5) (p0_6_1n 5) (p0_6_1w 5)), [((p0_6a 2), .inl (p0_6_1c, 6, .inr (.inr (.inr (.inr (fun i => some (p0_6_1a i 0)))))))]] : List va_W))) H := vP_fa (vP_perm hP (bP (((List.Perm.refl _)).trans ((((((((((((((List.Perm.refl _)).cons _).trans (List.Perm.swap _ _ _))).cons _).trans (List.Perm.swap _ _ _))).cons _).trans (List.Perm.swap _ _ _))).trans (((((((((((((((((((((List.Perm.refl _)).cons _).trans (List.Perm.swap _ _ _))).cons _).trans (List.Perm.swap _ _ _))).cons _).trans (List.Perm.swap _ _ _))).cons _).trans (List.Perm.swap _ _ _))).cons _).trans (List.Perm.swap _ _ _))).cons _).trans (List.Perm.swap _ _ _))).cons _))).cons _))))
      have hDx : va_D A ((List.flatten ([(oX3 (p0a 0) p0a p0k p0n w9), (oX9 (p0_6_1a 2 0) (p0_6_1a 2) (p0_6_1k 2) (p0_6_1n 2) (p0_6_1w 2)), (oX6 (p0a 5) p0_4a p0_4k p0_4w p0_4l)] : List va_W)) ++ (List.flatten ([(oX0 (p0a 7) p0_6a p0_6k p0_6n p0_6w), (oX9 (p0_6_1a 0 0) (p0_6_1a 0) (p0_6_1k 0) (p0_6_1n 0) (p0_6_1w 0)), (oX9 (p0_6_1a 1 0) (p0_6_1a 1) (p0_6_1k 1) (p0_6_1n 1) (p0_6_1w 1)), (oX9 (p0_6_1a 3 0) (p0_6_1a 3) (p0_6_1k 3) (p0_6_1n 3) (p0_6_1w 3)), (oX9 (p0_6_1a 4 0) (p0_6_1a 4) (p0_6_1k 4) (p0_6_1n 4) (p0_6_1w 4)), (oX9 (p0_6_1a 5 0) (p0_6_1a 5) (p0_6_1k 5) (p0_6_1n 5) (p0_6_1w 5)), [((p0_6a 2), .inl (p0_6_1c, 6, .inr (.inr (.inr (.inr (fun i => some (p0_6_1a i 0)))))))]] : List va_W))) := vD_fa (vD_perm hD (bP (((List.Perm.refl _)).trans ((((((((((((((List.Perm.refl _)).cons _).trans (List.Perm.swap _ _ _))).cons _).trans (List.Perm.swap _ _ _))).cons _).trans (List.Perm.swap _ _ _))).trans (((((((((((((((((((((List.Perm.refl _)).cons _).trans (List.Perm.swap _ _ _))).cons _).trans (List.Perm.swap _ _ _))).cons _).trans (List.Perm.swap _ _ _))).cons _).trans (List.Perm.swap _ _ _))).cons _).trans (List.Perm.swap _ _ _))).cons _).trans (List.Perm.swap _ _ _))).cons _))).cons _))))
      have hKx : va_K (dC, dI) cls ((List.flatten ([(tX3 p0k), (tX9 (p0_6_1k 2)), (tX6 p0_4k)] : List (List (ClassId × FieldType)))) ++ (List.flatten ([(tX0 p0_6k), (tX9 (p0_6_1k 0)), (tX9 (p0_6_1k 1)), (tX9 (p0_6_1k 3)), (tX9 (p0_6_1k 4)), (tX9 (p0_6_1k 5)), [(p0_6_1c, .object RX9)]] : List (List (ClassId × FieldType))))) s := vK_fa (vK_perm hK (bP (((List.Perm.refl _)).trans ((((((((((((((List.Perm.refl _)).cons _).trans (List.Perm.swap _ _ _))).cons _).trans (List.Perm.swap _ _ _))).cons _).trans (List.Perm.swap _ _ _))).trans (((((((((((((((((((((List.Perm.refl _)).cons _).trans (List.Perm.swap _ _ _))).cons _).trans (List.Perm.swap _ _ _))).cons _).trans (List.Perm.swap _ _ _))).cons _).trans (List.Perm.swap _ _ _))).cons _).trans (List.Perm.swap _ _ _))).cons _).trans (List.Perm.swap _ _ _))).cons _))).cons _))))
      have hPc := vP_l hPx
      have hDc := vD_l hDx
      have hKc := vK_l hKx
      have hFc := vfree hDx hS hA
      refine va_callv (va_runV (As := [.ref (p0_6_1a 2 0), .int ((p0w 0 9) - 1), .int (p0w 12 (nn ((p0w 0 9) - 1)))]) (rest := []) ⟨hx, hb, hml, hown, hts⟩ (kX3_moveLine l dC dI (p0a := p0a) (p0k := p0k) (p0n := p0n) (p0w := w9) (p1a := (st0 (p0_6_1a 2 0) (p0_6_1a 2))) (p1k := (p0_6_1k 2)) (p1n := (p0_6_1n 2)) (p1w := (p0_6_1w 2)) (p2 := ((p0w 0 9) - 1)) (p3 := (p0w 12 (nn ((p0w 0 9) - 1)))) (p0_4a := p0_4a) (p0_4k := p0_4k) (p0_4w := p0_4w) (p0_4l := p0_4l) (sz := _) (o := o_54) (hrun := hc_54)) (cwV 3 hts (gi_V qw990 qw991 qw992 qw903 (gi_z qw989)) rfl rfl rfl (by decide +kernel) ⟨Nat.le_of_ble_eq_true rfl, Nat.le_of_ble_eq_true rfl⟩) ⟨PRE.blind, va_recv hKc hPc (ci := 10) (q0 := 0) rfl rfl, PRE.of hE hS hFc hPc hKc hDc⟩ rfl rfl hl.1 rfl (lv_room (Nat.le_of_ble_eq_true rfl)) dX3_moveInCode_350 ⟨(Nat.le_of_ble_eq_true rfl), (Nat.le_of_ble_eq_true rfl)⟩) hS (fun q _ h => hFc q h) hFc (fun u t H locs ht hvm hw hB hz1 hk1 hS => ?_)
      obtain ⟨b1, b2, b3⟩ := hB
      rw [ht] at b1
      obtain ⟨hP, hD, hK⟩ := JOINC (wc := (List.flatten ([(oX3 (p0a 0) p0a p0k p0n w9), (oX9 (p0_6_1a 2 0) (p0_6_1a 2) (p0_6_1k 2) (p0_6_1n 2) (p0_6_1w 2)), (oX6 (p0a 5) p0_4a p0_4k p0_4w p0_4l)] : List va_W))) (wr := (List.flatten ([(oX0 (p0a 7) p0_6a p0_6k p0_6n p0_6w), (oX9 (p0_6_1a 0 0) (p0_6_1a 0) (p0_6_1k 0) (p0_6_1n 0) (p0_6_1w 0)), (oX9 (p0_6_1a 1 0) (p0_6_1a 1) (p0_6_1k 1) (p0_6_1n 1) (p0_6_1w 1)), (oX9 (p0_6_1a 3 0) (p0_6_1a 3) (p0_6_1k 3) (p0_6_1n 3) (p0_6_1w 3)), (oX9 (p0_6_1a 4 0) (p0_6_1a 4) (p0_6_1k 4) (p0_6_1n 4) (p0_6_1w 4)), (oX9 (p0_6_1a 5 0) (p0_6_1a 5) (p0_6_1k 5) (p0_6_1n 5) (p0_6_1w 5)), [((p0_6a 2), .inl (p0_6_1c, 6, .inr (.inr (.inr (.inr (fun i => some (p0_6_1a i 0)))))))]] : List va_W))) (w1 := (List.flatten ([(oX3 (p0a 0) p0a p0k p0n o_54), (oX9 (p0_6_1a 2 0) (p0_6_1a 2) (p0_6_1k 2) (p0_6_1n 2) (p0_6_1w 2)), (oX6 (p0a 5) p0_4a p0_4k p0_4w p0_4l)] : List va_W))) (t1 := (List.flatten ([(tX3 p0k), (tX9 (p0_6_1k 2)), (tX6 p0_4k)] : List (List (ClassId × FieldType))))) hPx hDx hKx hk1 hFc b1 (va_K.moved hvm.symm b2) b3
      have hP : va_P (dC, dI) cls (List.flatten ([(oX3 (p0a 0) p0a p0k p0n o_54), (oX0 (p0a 7) p0_6a p0_6k p0_6n p0_6w), (oX9 (p0_6_1a 0 0) (p0_6_1a 0) (p0_6_1k 0) (p0_6_1n 0) (p0_6_1w 0)), (oX9 (p0_6_1a 1 0) (p0_6_1a 1) (p0_6_1k 1) (p0_6_1n 1) (p0_6_1w 1)), (oX9 (p0_6_1a 2 0) (p0_6_1a 2) (p0_6_1k 2) (p0_6_1n 2) (p0_6_1w 2)), (oX9 (p0_6_1a 3 0) (p0_6_1a 3) (p0_6_1k 3) (p0_6_1n 3) (p0_6_1w 3)), (oX9 (p0_6_1a 4 0) (p0_6_1a 4) (p0_6_1k 4) (p0_6_1n 4) (p0_6_1w 4)), (oX9 (p0_6_1a 5 0) (p0_6_1a 5) (p0_6_1k 5) (p0_6_1n 5) (p0_6_1w 5)), (oX6 (p0a 5) p0_4a p0_4k p0_4w p0_4l), [((p0_6a 2), .inl (p0_6_1c, 6, .inr (.inr (.inr (.inr (fun i => some (p0_6_1a i 0)))))))]] : List va_W)) H := vP_perm (vP_fb hP) (bP (((List.Perm.refl _)).trans (((((((((((List.Perm.refl _)).cons _).trans (List.Perm.swap _ _ _))).cons _).trans (List.Perm.swap _ _ _))).trans (((((((((((List.Perm.refl _)).cons _).trans (List.Perm.swap _ _ _))).cons _).trans (List.Perm.swap _ _ _))).trans (((((((((((List.Perm.refl _)).cons _).trans (List.Perm.swap _ _ _))).cons _).trans (List.Perm.swap _ _ _))).trans (((((List.Perm.refl _)).trans ((((((((List.Perm.refl _)).cons _).trans (List.Perm.swap _ _ _))).trans ((((((((List.Perm.refl _)).cons _).trans (List.Perm.swap _ _ _))).trans ((((((List.Perm.refl _)).cons _).trans (List.Perm.swap _ _ _))).cons _))).cons _))).cons _))).cons _))).cons _))).cons _))).cons _)))
      have hD : va_D A (List.flatten ([(oX3 (p0a 0) p0a p0k p0n o_54), (oX0 (p0a 7) p0_6a p0_6k p0_6n p0_6w), (oX9 (p0_6_1a 0 0) (p0_6_1a 0) (p0_6_1k 0) (p0_6_1n 0) (p0_6_1w 0)), (oX9 (p0_6_1a 1 0) (p0_6_1a 1) (p0_6_1k 1) (p0_6_1n 1) (p0_6_1w 1)), (oX9 (p0_6_1a 2 0) (p0_6_1a 2) (p0_6_1k 2) (p0_6_1n 2) (p0_6_1w 2)), (oX9 (p0_6_1a 3 0) (p0_6_1a 3) (p0_6_1k 3) (p0_6_1n 3) (p0_6_1w 3)), (oX9 (p0_6_1a 4 0) (p0_6_1a 4) (p0_6_1k 4) (p0_6_1n 4) (p0_6_1w 4)), (oX9 (p0_6_1a 5 0) (p0_6_1a 5) (p0_6_1k 5) (p0_6_1n 5) (p0_6_1w 5)), (oX6 (p0a 5) p0_4a p0_4k p0_4w p0_4l), [((p0_6a 2), .inl (p0_6_1c, 6, .inr (.inr (.inr (.inr (fun i => some (p0_6_1a i 0)))))))]] : List va_W)) := vD_perm (vD_fb hD) (bP (((List.Perm.refl _)).trans (((((((((((List.Perm.refl _)).cons _).trans (List.Perm.swap _ _ _))).cons _).trans (List.Perm.swap _ _ _))).trans (((((((((((List.Perm.refl _)).cons _).trans (List.Perm.swap _ _ _))).cons _).trans (List.Perm.swap _ _ _))).trans (((((((((((List.Perm.refl _)).cons _).trans (List.Perm.swap _ _ _))).cons _).trans (List.Perm.swap _ _ _))).trans (((((List.Perm.refl _)).trans ((((((((List.Perm.refl _)).cons _).trans (List.Perm.swap _ _ _))).trans ((((((((List.Perm.refl _)).cons _).trans (List.Perm.swap _ _ _))).trans ((((((List.Perm.refl _)).cons _).trans (List.Perm.swap _ _ _))).cons _))).cons _))).cons _))).cons _))).cons _))).cons _))).cons _)))
      have hK : va_K (dC, dI) cls (List.flatten ([(tX3 p0k), (tX0 p0_6k), (tX9 (p0_6_1k 0)), (tX9 (p0_6_1k 1)), (tX9 (p0_6_1k 2)), (tX9 (p0_6_1k 3)), (tX9 (p0_6_1k 4)), (tX9 (p0_6_1k 5)), (tX6 p0_4k), [(p0_6_1c, .object RX9)]] : List (List (ClassId × FieldType)))) s := vK_perm (vK_fb hK) (bP (((List.Perm.refl _)).trans (((((((((((List.Perm.refl _)).cons _).trans (List.Perm.swap _ _ _))).cons _).trans (List.Perm.swap _ _ _))).trans (((((((((((List.Perm.refl _)).cons _).trans (List.Perm.swap _ _ _))).cons _).trans (List.Perm.swap _ _ _))).trans (((((((((((List.Perm.refl _)).cons _).trans (List.Perm.swap _ _ _))).cons _).trans (List.Perm.swap _ _ _))).trans (((((List.Perm.refl _)).trans ((((((((List.Perm.refl _)).cons _).trans (List.Perm.swap _ _ _))).trans ((((((((List.Perm.refl _)).cons _).trans (List.Perm.swap _ _ _))).trans ((((((List.Perm.refl _)).cons _).trans (List.Perm.swap _ _ _))).cons _))).cons _))).cons _))).cons _))).cons _))).cons _))).cons _)))
      exact J353 o_54 _ _ _ hrun hP hD hK hS (lv_sub hl [] rfl)
  · refine W.eq (g2 := F0 m 21 ls [.ref (p0_6_1a 3 0)]) rfl ?_
    refine lv_astore_n (lv' := [(2, .ref (p0_6_1a 3 0)), (1, .int ((p0w 0 9) - 1)), (0, .ref (p0a 0))]) hx hb dX3_moveInCode_21 rfl hl (by decide) rfl (fun ls hl => ?_)
    refine lv_aload_n hx hb dX3_moveInCode_22 rfl (lv_at hl 2 rfl) ?_
    refine va_get (D := (dC, dI)) (ci := 10) (v := .ref (p0a 12)) (C := RX3) (T := TX3) (N := 20) hx hb hts i_X3 hown hK hP 0 rfl rfl 11 (by decide) (hts _ qw915) (fun _ h9 => h9) rfl dX3_moveInCode_23 ?_
    refine lv_iload_n hx hb dX3_moveInCode_26 rfl (lv_at hl 1 rfl) ?_
    obtain ⟨hq4, hrun⟩ := chk9 hrun
    refine va_iald hx hb hK hP 4 3 rfl rfl (ixb_in hq4) dX3_moveInCode_27 ?_
    refine lv_istore_n (lv' := [(3, .int (p0w 12 (nn ((p0w 0 9) - 1)))), (2, .ref (p0_6_1a 3 0)), (1, .int ((p0w 0 9) - 1)), (0, .ref (p0a 0))]) hx hb dX3_moveInCode_28 rfl hl (by decide) rfl (fun ls hl => ?_)
    refine lv_aload_n hx hb dX3_moveInCode_29 rfl (lv_at hl 3 rfl) ?_
    refine lv_iconst (v := 1) hx hb dX3_moveInCode_30 (by decide) ?_
    obtain ⟨o_5, hc_5, hrun⟩ := bnd9 hrun
    have hPx : va_P (dC, dI) cls ((List.flatten ([(oX3 (p0a 0) p0a p0k p0n p0w)] : List va_W)) ++ (List.flatten ([(oX0 (p0a 7) p0_6a p0_6k p0_6n p0_6w), (oX9 (p0_6_1a 0 0) (p0_6_1a 0) (p0_6_1k 0) (p0_6_1n 0) (p0_6_1w 0)), (oX9 (p0_6_1a 1 0) (p0_6_1a 1) (p0_6_1k 1) (p0_6_1n 1) (p0_6_1w 1)), (oX9 (p0_6_1a 2 0) (p0_6_1a 2) (p0_6_1k 2) (p0_6_1n 2) (p0_6_1w 2)), (oX9 (p0_6_1a 3 0) (p0_6_1a 3) (p0_6_1k 3) (p0_6_1n 3) (p0_6_1w 3)), (oX9 (p0_6_1a 4 0) (p0_6_1a 4) (p0_6_1k 4) (p0_6_1n 4) (p0_6_1w 4)), (oX9 (p0_6_1a 5 0) (p0_6_1a 5) (p0_6_1k 5) (p0_6_1n 5) (p0_6_1w 5)), (oX6 (p0a 5) p0_4a p0_4k p0_4w p0_4l), [((p0_6a 2), .inl (p0_6_1c, 6, .inr (.inr (.inr (.inr (fun i => some (p0_6_1a i 0)))))))]] : List va_W))) H := vP_fa (vP_perm hP (bP (List.Perm.refl _)))
    have hDx : va_D A ((List.flatten ([(oX3 (p0a 0) p0a p0k p0n p0w)] : List va_W)) ++ (List.flatten ([(oX0 (p0a 7) p0_6a p0_6k p0_6n p0_6w), (oX9 (p0_6_1a 0 0) (p0_6_1a 0) (p0_6_1k 0) (p0_6_1n 0) (p0_6_1w 0)), (oX9 (p0_6_1a 1 0) (p0_6_1a 1) (p0_6_1k 1) (p0_6_1n 1) (p0_6_1w 1)), (oX9 (p0_6_1a 2 0) (p0_6_1a 2) (p0_6_1k 2) (p0_6_1n 2) (p0_6_1w 2)), (oX9 (p0_6_1a 3 0) (p0_6_1a 3) (p0_6_1k 3) (p0_6_1n 3) (p0_6_1w 3)), (oX9 (p0_6_1a 4 0) (p0_6_1a 4) (p0_6_1k 4) (p0_6_1n 4) (p0_6_1w 4)), (oX9 (p0_6_1a 5 0) (p0_6_1a 5) (p0_6_1k 5) (p0_6_1n 5) (p0_6_1w 5)), (oX6 (p0a 5) p0_4a p0_4k p0_4w p0_4l), [((p0_6a 2), .inl (p0_6_1c, 6, .inr (.inr (.inr (.inr (fun i => some (p0_6_1a i 0)))))))]] : List va_W))) := vD_fa (vD_perm hD (bP (List.Perm.refl _)))
    have hKx : va_K (dC, dI) cls ((List.flatten ([(tX3 p0k)] : List (List (ClassId × FieldType)))) ++ (List.flatten ([(tX0 p0_6k), (tX9 (p0_6_1k 0)), (tX9 (p0_6_1k 1)), (tX9 (p0_6_1k 2)), (tX9 (p0_6_1k 3)), (tX9 (p0_6_1k 4)), (tX9 (p0_6_1k 5)), (tX6 p0_4k), [(p0_6_1c, .object RX9)]] : List (List (ClassId × FieldType))))) s := vK_fa (vK_perm hK (bP (List.Perm.refl _)))
    have hPc := vP_l hPx
    have hDc := vD_l hDx
    have hKc := vK_l hKx
    have hFc := vfree hDx hS hA
    refine va_calli (va_runV (As := [.int 1]) (rest := []) ⟨hx, hb, hml, hown, hts⟩ (kX3_tick l dC dI (p0a := p0a) (p0k := p0k) (p0n := p0n) (p0w := p0w) (p1 := 1) (sz := _) (o := o_5) (hrun := hc_5)) (cwV 1 hts (gi_V qw939 qw940 qw941 qw903 (gi_z qw938)) rfl rfl rfl (by decide +kernel) ⟨Nat.le_of_ble_eq_true rfl, Nat.le_of_ble_eq_true rfl⟩) ⟨PRE.blind, va_recv hKc hPc (ci := 10) (q0 := 0) rfl rfl, PRE.of hE hS hFc hPc hKc hDc⟩ rfl rfl hl.1 rfl (lv_room (Nat.le_of_ble_eq_true rfl)) dX3_moveInCode_31 ⟨(Nat.le_of_ble_eq_true rfl), (Nat.le_of_ble_eq_true rfl)⟩) hS (fun q _ h => hFc q h) hFc (fun r6 u t H locs ht hvm hw hB hz1 hk1 hS => ?_)
    obtain ⟨b1, b2, b3⟩ := hB
    rw [ht] at b1
    obtain ⟨hP, hD, hK⟩ := JOINC (wc := (List.flatten ([(oX3 (p0a 0) p0a p0k p0n p0w)] : List va_W))) (wr := (List.flatten ([(oX0 (p0a 7) p0_6a p0_6k p0_6n p0_6w), (oX9 (p0_6_1a 0 0) (p0_6_1a 0) (p0_6_1k 0) (p0_6_1n 0) (p0_6_1w 0)), (oX9 (p0_6_1a 1 0) (p0_6_1a 1) (p0_6_1k 1) (p0_6_1n 1) (p0_6_1w 1)), (oX9 (p0_6_1a 2 0) (p0_6_1a 2) (p0_6_1k 2) (p0_6_1n 2) (p0_6_1w 2)), (oX9 (p0_6_1a 3 0) (p0_6_1a 3) (p0_6_1k 3) (p0_6_1n 3) (p0_6_1w 3)), (oX9 (p0_6_1a 4 0) (p0_6_1a 4) (p0_6_1k 4) (p0_6_1n 4) (p0_6_1w 4)), (oX9 (p0_6_1a 5 0) (p0_6_1a 5) (p0_6_1k 5) (p0_6_1n 5) (p0_6_1w 5)), (oX6 (p0a 5) p0_4a p0_4k p0_4w p0_4l), [((p0_6a 2), .inl (p0_6_1c, 6, .inr (.inr (.inr (.inr (fun i => some (p0_6_1a i 0)))))))]] : List va_W))) (w1 := (List.flatten ([(oX3 (p0a 0) p0a p0k p0n (o_5.2))] : List va_W))) (t1 := (List.flatten ([(tX3 p0k)] : List (List (ClassId × FieldType))))) hPx hDx hKx hk1 hFc b1 (va_K.moved hvm.symm b2) b3
    have hP : va_P (dC, dI) cls (List.flatten ([(oX3 (p0a 0) p0a p0k p0n (o_5.2)), (oX0 (p0a 7) p0_6a p0_6k p0_6n p0_6w), (oX9 (p0_6_1a 0 0) (p0_6_1a 0) (p0_6_1k 0) (p0_6_1n 0) (p0_6_1w 0)), (oX9 (p0_6_1a 1 0) (p0_6_1a 1) (p0_6_1k 1) (p0_6_1n 1) (p0_6_1w 1)), (oX9 (p0_6_1a 2 0) (p0_6_1a 2) (p0_6_1k 2) (p0_6_1n 2) (p0_6_1w 2)), (oX9 (p0_6_1a 3 0) (p0_6_1a 3) (p0_6_1k 3) (p0_6_1n 3) (p0_6_1w 3)), (oX9 (p0_6_1a 4 0) (p0_6_1a 4) (p0_6_1k 4) (p0_6_1n 4) (p0_6_1w 4)), (oX9 (p0_6_1a 5 0) (p0_6_1a 5) (p0_6_1k 5) (p0_6_1n 5) (p0_6_1w 5)), (oX6 (p0a 5) p0_4a p0_4k p0_4w p0_4l), [((p0_6a 2), .inl (p0_6_1c, 6, .inr (.inr (.inr (.inr (fun i => some (p0_6_1a i 0)))))))]] : List va_W)) H := vP_perm (vP_fb hP) (bP (List.Perm.refl _))
    have hD : va_D A (List.flatten ([(oX3 (p0a 0) p0a p0k p0n (o_5.2)), (oX0 (p0a 7) p0_6a p0_6k p0_6n p0_6w), (oX9 (p0_6_1a 0 0) (p0_6_1a 0) (p0_6_1k 0) (p0_6_1n 0) (p0_6_1w 0)), (oX9 (p0_6_1a 1 0) (p0_6_1a 1) (p0_6_1k 1) (p0_6_1n 1) (p0_6_1w 1)), (oX9 (p0_6_1a 2 0) (p0_6_1a 2) (p0_6_1k 2) (p0_6_1n 2) (p0_6_1w 2)), (oX9 (p0_6_1a 3 0) (p0_6_1a 3) (p0_6_1k 3) (p0_6_1n 3) (p0_6_1w 3)), (oX9 (p0_6_1a 4 0) (p0_6_1a 4) (p0_6_1k 4) (p0_6_1n 4) (p0_6_1w 4)), (oX9 (p0_6_1a 5 0) (p0_6_1a 5) (p0_6_1k 5) (p0_6_1n 5) (p0_6_1w 5)), (oX6 (p0a 5) p0_4a p0_4k p0_4w p0_4l), [((p0_6a 2), .inl (p0_6_1c, 6, .inr (.inr (.inr (.inr (fun i => some (p0_6_1a i 0)))))))]] : List va_W)) := vD_perm (vD_fb hD) (bP (List.Perm.refl _))
    have hK : va_K (dC, dI) cls (List.flatten ([(tX3 p0k), (tX0 p0_6k), (tX9 (p0_6_1k 0)), (tX9 (p0_6_1k 1)), (tX9 (p0_6_1k 2)), (tX9 (p0_6_1k 3)), (tX9 (p0_6_1k 4)), (tX9 (p0_6_1k 5)), (tX6 p0_4k), [(p0_6_1c, .object RX9)]] : List (List (ClassId × FieldType)))) s := vK_perm (vK_fb hK) (bP (List.Perm.refl _))
    obtain rfl : r6 = (o_5.1) := hw
    rcases br9 hrun with ⟨hc7, hrun⟩ | ⟨hc7, hrun⟩
    · refine lv_if_ne (tgt := 38) hx hb dX3_moveInCode_34 (by decide) (fun c => absurd hc7 c) (fun _ => ?_)
      have ho9 : (o_5.2) = o := Option.some.inj hrun
      have hP9 : va_P (dC, dI) cls (List.flatten ([(oX3 (p0a 0) p0a p0k p0n o), (oX0 (p0a 7) p0_6a p0_6k p0_6n p0_6w), (oX9 (p0_6_1a 0 0) (p0_6_1a 0) (p0_6_1k 0) (p0_6_1n 0) (p0_6_1w 0)), (oX9 (p0_6_1a 1 0) (p0_6_1a 1) (p0_6_1k 1) (p0_6_1n 1) (p0_6_1w 1)), (oX9 (p0_6_1a 2 0) (p0_6_1a 2) (p0_6_1k 2) (p0_6_1n 2) (p0_6_1w 2)), (oX9 (p0_6_1a 3 0) (p0_6_1a 3) (p0_6_1k 3) (p0_6_1n 3) (p0_6_1w 3)), (oX9 (p0_6_1a 4 0) (p0_6_1a 4) (p0_6_1k 4) (p0_6_1n 4) (p0_6_1w 4)), (oX9 (p0_6_1a 5 0) (p0_6_1a 5) (p0_6_1k 5) (p0_6_1n 5) (p0_6_1w 5)), (oX6 (p0a 5) p0_4a p0_4k p0_4w p0_4l), [((p0_6a 2), .inl (p0_6_1c, 6, .inr (.inr (.inr (.inr (fun i => some (p0_6_1a i 0)))))))]] : List va_W)) H := by first | exact hP | (rw [← ho9]; exact hP)
      have hD9 : va_D A (List.flatten ([(oX3 (p0a 0) p0a p0k p0n o), (oX0 (p0a 7) p0_6a p0_6k p0_6n p0_6w), (oX9 (p0_6_1a 0 0) (p0_6_1a 0) (p0_6_1k 0) (p0_6_1n 0) (p0_6_1w 0)), (oX9 (p0_6_1a 1 0) (p0_6_1a 1) (p0_6_1k 1) (p0_6_1n 1) (p0_6_1w 1)), (oX9 (p0_6_1a 2 0) (p0_6_1a 2) (p0_6_1k 2) (p0_6_1n 2) (p0_6_1w 2)), (oX9 (p0_6_1a 3 0) (p0_6_1a 3) (p0_6_1k 3) (p0_6_1n 3) (p0_6_1w 3)), (oX9 (p0_6_1a 4 0) (p0_6_1a 4) (p0_6_1k 4) (p0_6_1n 4) (p0_6_1w 4)), (oX9 (p0_6_1a 5 0) (p0_6_1a 5) (p0_6_1k 5) (p0_6_1n 5) (p0_6_1w 5)), (oX6 (p0a 5) p0_4a p0_4k p0_4w p0_4l), [((p0_6a 2), .inl (p0_6_1c, 6, .inr (.inr (.inr (.inr (fun i => some (p0_6_1a i 0)))))))]] : List va_W)) := by first | exact hD | (rw [← ho9]; exact hD)
      subst hQ
      exact W.vret hx hb hr (fun t ht hW => ⟨⟨(), rfl, trivial, ⟨by rw [ht]; exact hP9, va_K.moved hW.alike hK, hD9⟩⟩, hS.F ht⟩) hS.2.2 dX3_moveInCode_37
    · refine lv_if_ne (tgt := 38) hx hb dX3_moveInCode_34 (by decide) (fun _ => ?_) (fun c => absurd c hc7)
      refine lv_aload_n hx hb dX3_moveInCode_38 rfl (lv_at hl 3 rfl) ?_
      refine va_get (D := (dC, dI)) (ci := 10) (v := .ref (p0a 12)) (C := RX3) (T := TX3) (N := 20) hx hb hts i_X3 hown hK hP 0 rfl rfl 11 (by decide) (hts _ qw915) (fun _ h9 => h9) rfl dX3_moveInCode_39 ?_
      refine lv_iload_n hx hb dX3_moveInCode_42 rfl (lv_at hl 2 rfl) ?_
      refine lv_iload_n hx hb dX3_moveInCode_43 rfl (lv_at hl 0 rfl) ?_
      refine lv_iconst (v := 1) hx hb dX3_moveInCode_44 (by decide) ?_
      refine lv_iadd hx hb dX3_moveInCode_45 ?_
      obtain ⟨hq8, hrun⟩ := chk9 hrun
      refine va_iast hx hb hK hP hD hS 4 3 rfl rfl (ixb_in hq8) dX3_moveInCode_46 (fun H locs hP hD hS => ?_)
      have hP : va_P (dC, dI) cls (List.flatten ([(oX3 (p0a 0) p0a p0k p0n (upw (o_5.2) 12 (nn ((p0w 0 9) - 1)) ((p0w 12 (nn ((p0w 0 9) - 1))) + 1))), (oX0 (p0a 7) p0_6a p0_6k p0_6n p0_6w), (oX9 (p0_6_1a 0 0) (p0_6_1a 0) (p0_6_1k 0) (p0_6_1n 0) (p0_6_1w 0)), (oX9 (p0_6_1a 1 0) (p0_6_1a 1) (p0_6_1k 1) (p0_6_1n 1) (p0_6_1w 1)), (oX9 (p0_6_1a 2 0) (p0_6_1a 2) (p0_6_1k 2) (p0_6_1n 2) (p0_6_1w 2)), (oX9 (p0_6_1a 3 0) (p0_6_1a 3) (p0_6_1k 3) (p0_6_1n 3) (p0_6_1w 3)), (oX9 (p0_6_1a 4 0) (p0_6_1a 4) (p0_6_1k 4) (p0_6_1n 4) (p0_6_1w 4)), (oX9 (p0_6_1a 5 0) (p0_6_1a 5) (p0_6_1k 5) (p0_6_1n 5) (p0_6_1w 5)), (oX6 (p0a 5) p0_4a p0_4k p0_4w p0_4l), [((p0_6a 2), .inl (p0_6_1c, 6, .inr (.inr (.inr (.inr (fun i => some (p0_6_1a i 0)))))))]] : List va_W)) H := hP
      have hD : va_D A (List.flatten ([(oX3 (p0a 0) p0a p0k p0n (upw (o_5.2) 12 (nn ((p0w 0 9) - 1)) ((p0w 12 (nn ((p0w 0 9) - 1))) + 1))), (oX0 (p0a 7) p0_6a p0_6k p0_6n p0_6w), (oX9 (p0_6_1a 0 0) (p0_6_1a 0) (p0_6_1k 0) (p0_6_1n 0) (p0_6_1w 0)), (oX9 (p0_6_1a 1 0) (p0_6_1a 1) (p0_6_1k 1) (p0_6_1n 1) (p0_6_1w 1)), (oX9 (p0_6_1a 2 0) (p0_6_1a 2) (p0_6_1k 2) (p0_6_1n 2) (p0_6_1w 2)), (oX9 (p0_6_1a 3 0) (p0_6_1a 3) (p0_6_1k 3) (p0_6_1n 3) (p0_6_1w 3)), (oX9 (p0_6_1a 4 0) (p0_6_1a 4) (p0_6_1k 4) (p0_6_1n 4) (p0_6_1w 4)), (oX9 (p0_6_1a 5 0) (p0_6_1a 5) (p0_6_1k 5) (p0_6_1n 5) (p0_6_1w 5)), (oX6 (p0a 5) p0_4a p0_4k p0_4w p0_4l), [((p0_6a 2), .inl (p0_6_1c, 6, .inr (.inr (.inr (.inr (fun i => some (p0_6_1a i 0)))))))]] : List va_W)) := hD
      obtain ⟨w9, ew9, hrun⟩ := let9 hrun
      rw [← ew9] at hP hD
      refine lv_iload_n hx hb dX3_moveInCode_47 rfl (lv_at hl 2 rfl) ?_
      refine lv_sipush (v := 320) hx hb dX3_moveInCode_48 (by decide) ?_
      refine lv_imul hx hb dX3_moveInCode_51 ?_
      refine lv_istore (lv' := [(4, .int (((p0w 0 9) - 1) * 320)), (3, .int (p0w 12 (nn ((p0w 0 9) - 1)))), (2, .ref (p0_6_1a 3 0)), (1, .int ((p0w 0 9) - 1)), (0, .ref (p0a 0))]) hx hb dX3_moveInCode_52 hl (by decide) rfl (fun ls hl => ?_)
      refine lv_aload_n hx hb dX3_moveInCode_54 rfl (lv_at hl 2 rfl) ?_
      refine va_get (D := (dC, dI)) (ci := 3) (v := .ref ((p0_6_1a 3) 4)) (C := RX9) (T := TX9) (N := 6) hx hb hts i_X9 hown hK hP 38 rfl rfl 3 (by decide) (hts _ qw954) (fun _ h9 => h9) rfl dX3_moveInCode_55 ?_
      refine lv_iload_n hx hb dX3_moveInCode_58 rfl (lv_at hl 1 rfl) ?_
      obtain ⟨hq10, hrun⟩ := chk9 hrun
      refine va_iald hx hb hK hP 41 35 rfl rfl (ixb_in hq10) dX3_moveInCode_59 ?_
      refine lv_istore (lv' := [(5, .int (((p0_6_1w 3) 4) (nn (p0w 12 (nn ((p0w 0 9) - 1)))))), (4, .int (((p0w 0 9) - 1) * 320)), (3, .int (p0w 12 (nn ((p0w 0 9) - 1)))), (2, .ref (p0_6_1a 3 0)), (1, .int ((p0w 0 9) - 1)), (0, .ref (p0a 0))]) hx hb dX3_moveInCode_60 hl (by decide) rfl (fun ls hl => ?_)
      refine lv_aload_n hx hb dX3_moveInCode_62 rfl (lv_at hl 3 rfl) ?_
      refine va_get (D := (dC, dI)) (ci := 3) (v := .ref ((p0_6_1a 3) 2)) (C := RX9) (T := TX9) (N := 6) hx hb hts i_X9 hown hK hP 38 rfl rfl 1 (by decide) (hts _ qw953) (fun _ h9 => h9) rfl dX3_moveInCode_63 ?_
      refine lv_iload_n hx hb dX3_moveInCode_66 rfl (lv_at hl 2 rfl) ?_
      obtain ⟨hq11, hrun⟩ := chk9 hrun
      refine va_iald hx hb hK hP 39 33 rfl rfl (ixb_in hq11) dX3_moveInCode_67 ?_
      have J353 : ∀ (p0w_353 : ST) (H : Heap) (locs : List Loc) (ls : Array Slot), (fX3_moveInCode_J353 p0w_353) = some o → va_P (dC, dI) cls (List.flatten ([(oX3 (p0a 0) p0a p0k p0n p0w_353), (oX0 (p0a 7) p0_6a p0_6k p0_6n p0_6w), (oX9 (p0_6_1a 0 0) (p0_6_1a 0) (p0_6_1k 0) (p0_6_1n 0) (p0_6_1w 0)), (oX9 (p0_6_1a 1 0) (p0_6_1a 1) (p0_6_1k 1) (p0_6_1n 1) (p0_6_1w 1)), (oX9 (p0_6_1a 2 0) (p0_6_1a 2) (p0_6_1k 2) (p0_6_1n 2) (p0_6_1w 2)), (oX9 (p0_6_1a 3 0) (p0_6_1a 3) (p0_6_1k 3) (p0_6_1n 3) (p0_6_1w 3)), (oX9 (p0_6_1a 4 0) (p0_6_1a 4) (p0_6_1k 4) (p0_6_1n 4) (p0_6_1w 4)), (oX9 (p0_6_1a 5 0) (p0_6_1a 5) (p0_6_1k 5) (p0_6_1n 5) (p0_6_1w 5)), (oX6 (p0a 5) p0_4a p0_4k p0_4w p0_4l), [((p0_6a 2), .inl (p0_6_1c, 6, .inr (.inr (.inr (.inr (fun i => some (p0_6_1a i 0)))))))]] : List va_W)) H → va_D A (List.flatten ([(oX3 (p0a 0) p0a p0k p0n p0w_353), (oX0 (p0a 7) p0_6a p0_6k p0_6n p0_6w), (oX9 (p0_6_1a 0 0) (p0_6_1a 0) (p0_6_1k 0) (p0_6_1n 0) (p0_6_1w 0)), (oX9 (p0_6_1a 1 0) (p0_6_1a 1) (p0_6_1k 1) (p0_6_1n 1) (p0_6_1w 1)), (oX9 (p0_6_1a 2 0) (p0_6_1a 2) (p0_6_1k 2) (p0_6_1n 2) (p0_6_1w 2)), (oX9 (p0_6_1a 3 0) (p0_6_1a 3) (p0_6_1k 3) (p0_6_1n 3) (p0_6_1w 3)), (oX9 (p0_6_1a 4 0) (p0_6_1a 4) (p0_6_1k 4) (p0_6_1n 4) (p0_6_1w 4)), (oX9 (p0_6_1a 5 0) (p0_6_1a 5) (p0_6_1k 5) (p0_6_1n 5) (p0_6_1w 5)), (oX6 (p0a 5) p0_4a p0_4k p0_4w p0_4l), [((p0_6a 2), .inl (p0_6_1c, 6, .inr (.inr (.inr (.inr (fun i => some (p0_6_1a i 0)))))))]] : List va_W)) → va_K (dC, dI) cls (List.flatten ([(tX3 p0k), (tX0 p0_6k), (tX9 (p0_6_1k 0)), (tX9 (p0_6_1k 1)), (tX9 (p0_6_1k 2)), (tX9 (p0_6_1k 3)), (tX9 (p0_6_1k 4)), (tX9 (p0_6_1k 5)), (tX6 p0_4k), [(p0_6_1c, .object RX9)]] : List (List (ClassId × FieldType)))) s → va_S A s.heap H locs → lv_has ls 9 [] → W p l e ({ frames := 5, cells := 0, slots := 0, locals := 120 } : Room) s m ([.ref (p0a 0)] : List Value).toArray below meth c H locs 0 0 Q (F0 m 353 ls []) := by
        intro p0w_353 H locs ls hrun hP hD hK hS hl 
        unfold fX3_moveInCode_J353 at hrun
        have ho9 : p0w_353 = o := Option.some.inj hrun
        have hP9 : va_P (dC, dI) cls (List.flatten ([(oX3 (p0a 0) p0a p0k p0n o), (oX0 (p0a 7) p0_6a p0_6k p0_6n p0_6w), (oX9 (p0_6_1a 0 0) (p0_6_1a 0) (p0_6_1k 0) (p0_6_1n 0) (p0_6_1w 0)), (oX9 (p0_6_1a 1 0) (p0_6_1a 1) (p0_6_1k 1) (p0_6_1n 1) (p0_6_1w 1)), (oX9 (p0_6_1a 2 0) (p0_6_1a 2) (p0_6_1k 2) (p0_6_1n 2) (p0_6_1w 2)), (oX9 (p0_6_1a 3 0) (p0_6_1a 3) (p0_6_1k 3) (p0_6_1n 3) (p0_6_1w 3)), (oX9 (p0_6_1a 4 0) (p0_6_1a 4) (p0_6_1k 4) (p0_6_1n 4) (p0_6_1w 4)), (oX9 (p0_6_1a 5 0) (p0_6_1a 5) (p0_6_1k 5) (p0_6_1n 5) (p0_6_1w 5)), (oX6 (p0a 5) p0_4a p0_4k p0_4w p0_4l), [((p0_6a 2), .inl (p0_6_1c, 6, .inr (.inr (.inr (.inr (fun i => some (p0_6_1a i 0)))))))]] : List va_W)) H := by first | exact hP | (rw [← ho9]; exact hP)
        have hD9 : va_D A (List.flatten ([(oX3 (p0a 0) p0a p0k p0n o), (oX0 (p0a 7) p0_6a p0_6k p0_6n p0_6w), (oX9 (p0_6_1a 0 0) (p0_6_1a 0) (p0_6_1k 0) (p0_6_1n 0) (p0_6_1w 0)), (oX9 (p0_6_1a 1 0) (p0_6_1a 1) (p0_6_1k 1) (p0_6_1n 1) (p0_6_1w 1)), (oX9 (p0_6_1a 2 0) (p0_6_1a 2) (p0_6_1k 2) (p0_6_1n 2) (p0_6_1w 2)), (oX9 (p0_6_1a 3 0) (p0_6_1a 3) (p0_6_1k 3) (p0_6_1n 3) (p0_6_1w 3)), (oX9 (p0_6_1a 4 0) (p0_6_1a 4) (p0_6_1k 4) (p0_6_1n 4) (p0_6_1w 4)), (oX9 (p0_6_1a 5 0) (p0_6_1a 5) (p0_6_1k 5) (p0_6_1n 5) (p0_6_1w 5)), (oX6 (p0a 5) p0_4a p0_4k p0_4w p0_4l), [((p0_6a 2), .inl (p0_6_1c, 6, .inr (.inr (.inr (.inr (fun i => some (p0_6_1a i 0)))))))]] : List va_W)) := by first | exact hD | (rw [← ho9]; exact hD)
        subst hQ
        exact W.vret hx hb hr (fun t ht hW => ⟨⟨(), rfl, trivial, ⟨by rw [ht]; exact hP9, va_K.moved hW.alike hK, hD9⟩⟩, hS.F ht⟩) hS.2.2 dX3_moveInCode_353
      rcases br9 hrun with ⟨hc12, hrun⟩ | ⟨hc12, hrun⟩
      · refine lv_tableIn (off := 44) (tgt := 112) hx hb dX3_moveInCode_68 (by rw [hc12]; decide) (by rw [hc12]; decide) (by rw [hc12]; rfl) (by decide) ?_
        refine lv_aload_n hx hb dX3_moveInCode_112 rfl (lv_at hl 5 rfl) ?_
        refine va_get (D := (dC, dI)) (ci := 10) (v := .ref (p0a 12)) (C := RX3) (T := TX3) (N := 20) hx hb hts i_X3 hown hK hP 0 rfl rfl 11 (by decide) (hts _ qw915) (fun _ h9 => h9) rfl dX3_moveInCode_113 ?_
        refine lv_iload_n hx hb dX3_moveInCode_116 rfl (lv_at hl 4 rfl) ?_
        refine lv_iload hx hb dX3_moveInCode_117 (lv_at hl 0 rfl) ?_
        obtain ⟨hq13, hrun⟩ := chk9 hrun
        refine va_iast hx hb hK hP hD hS 4 3 rfl rfl (ixb_in hq13) dX3_moveInCode_119 (fun H locs hP hD hS => ?_)
        have hP : va_P (dC, dI) cls (List.flatten ([(oX3 (p0a 0) p0a p0k p0n (upw w9 12 (nn ((p0w 0 9) - 1)) (((p0_6_1w 3) 4) (nn (p0w 12 (nn ((p0w 0 9) - 1))))))), (oX0 (p0a 7) p0_6a p0_6k p0_6n p0_6w), (oX9 (p0_6_1a 0 0) (p0_6_1a 0) (p0_6_1k 0) (p0_6_1n 0) (p0_6_1w 0)), (oX9 (p0_6_1a 1 0) (p0_6_1a 1) (p0_6_1k 1) (p0_6_1n 1) (p0_6_1w 1)), (oX9 (p0_6_1a 2 0) (p0_6_1a 2) (p0_6_1k 2) (p0_6_1n 2) (p0_6_1w 2)), (oX9 (p0_6_1a 3 0) (p0_6_1a 3) (p0_6_1k 3) (p0_6_1n 3) (p0_6_1w 3)), (oX9 (p0_6_1a 4 0) (p0_6_1a 4) (p0_6_1k 4) (p0_6_1n 4) (p0_6_1w 4)), (oX9 (p0_6_1a 5 0) (p0_6_1a 5) (p0_6_1k 5) (p0_6_1n 5) (p0_6_1w 5)), (oX6 (p0a 5) p0_4a p0_4k p0_4w p0_4l), [((p0_6a 2), .inl (p0_6_1c, 6, .inr (.inr (.inr (.inr (fun i => some (p0_6_1a i 0)))))))]] : List va_W)) H := hP
        have hD : va_D A (List.flatten ([(oX3 (p0a 0) p0a p0k p0n (upw w9 12 (nn ((p0w 0 9) - 1)) (((p0_6_1w 3) 4) (nn (p0w 12 (nn ((p0w 0 9) - 1))))))), (oX0 (p0a 7) p0_6a p0_6k p0_6n p0_6w), (oX9 (p0_6_1a 0 0) (p0_6_1a 0) (p0_6_1k 0) (p0_6_1n 0) (p0_6_1w 0)), (oX9 (p0_6_1a 1 0) (p0_6_1a 1) (p0_6_1k 1) (p0_6_1n 1) (p0_6_1w 1)), (oX9 (p0_6_1a 2 0) (p0_6_1a 2) (p0_6_1k 2) (p0_6_1n 2) (p0_6_1w 2)), (oX9 (p0_6_1a 3 0) (p0_6_1a 3) (p0_6_1k 3) (p0_6_1n 3) (p0_6_1w 3)), (oX9 (p0_6_1a 4 0) (p0_6_1a 4) (p0_6_1k 4) (p0_6_1n 4) (p0_6_1w 4)), (oX9 (p0_6_1a 5 0) (p0_6_1a 5) (p0_6_1k 5) (p0_6_1n 5) (p0_6_1w 5)), (oX6 (p0a 5) p0_4a p0_4k p0_4w p0_4l), [((p0_6a 2), .inl (p0_6_1c, 6, .inr (.inr (.inr (.inr (fun i => some (p0_6_1a i 0)))))))]] : List va_W)) := hD
        obtain ⟨w14, ew14, hrun⟩ := let9 hrun
        rw [← ew14] at hP hD
        refine lv_goto (tgt := 353) hx hb dX3_moveInCode_120 (by decide) ?_
        exact J353 w14 _ _ _ hrun hP hD hK hS (lv_sub hl [] rfl)
      rcases br9 hrun with ⟨hc15, hrun⟩ | ⟨hc15, hrun⟩
      · refine lv_tableIn (off := 55) (tgt := 123) hx hb dX3_moveInCode_68 (by rw [hc15]; decide) (by rw [hc15]; decide) (by rw [hc15]; rfl) (by decide) ?_
        refine lv_aload_n hx hb dX3_moveInCode_123 rfl (lv_at hl 5 rfl) ?_
        refine va_get (D := (dC, dI)) (ci := 10) (v := .ref (p0a 16)) (C := RX3) (T := TX3) (N := 20) hx hb hts i_X3 hown hK hP 0 rfl rfl 15 (by decide) (hts _ qw906) (fun _ h9 => h9) rfl dX3_moveInCode_124 ?_
        refine lv_iload hx hb dX3_moveInCode_127 (lv_at hl 1 rfl) ?_
        refine lv_iload hx hb dX3_moveInCode_129 (lv_at hl 0 rfl) ?_
        refine lv_iadd hx hb dX3_moveInCode_131 ?_
        obtain ⟨hq16, hrun⟩ := chk9 hrun
        refine va_iald hx hb hK hP 8 7 rfl rfl (ixb_in hq16) dX3_moveInCode_132 ?_
        rcases br9 hrun with ⟨hc17, hrun⟩ | ⟨hc17, hrun⟩
        · refine lv_if_eq (tgt := 353) hx hb dX3_moveInCode_133 (by decide) (fun _ => ?_) (fun c => absurd hc17 c)
          exact J353 w9 _ _ _ hrun hP hD hK hS (lv_sub hl [] rfl)
        · refine lv_if_eq (tgt := 353) hx hb dX3_moveInCode_133 (by decide) (fun c => absurd c hc17) (fun _ => ?_)
          refine lv_aload_n hx hb dX3_moveInCode_136 rfl (lv_at hl 5 rfl) ?_
          refine va_get (D := (dC, dI)) (ci := 10) (v := .ref (p0a 12)) (C := RX3) (T := TX3) (N := 20) hx hb hts i_X3 hown hK hP 0 rfl rfl 11 (by decide) (hts _ qw915) (fun _ h9 => h9) rfl dX3_moveInCode_137 ?_
          refine lv_iload_n hx hb dX3_moveInCode_140 rfl (lv_at hl 4 rfl) ?_
          refine lv_aload_n hx hb dX3_moveInCode_141 rfl (lv_at hl 3 rfl) ?_
          refine va_get (D := (dC, dI)) (ci := 3) (v := .ref ((p0_6_1a 3) 5)) (C := RX9) (T := TX9) (N := 6) hx hb hts i_X9 hown hK hP 38 rfl rfl 4 (by decide) (hts _ qw967) (fun _ h9 => h9) rfl dX3_moveInCode_142 ?_
          refine lv_iload_n hx hb dX3_moveInCode_145 rfl (lv_at hl 2 rfl) ?_
          obtain ⟨hq18, hrun⟩ := chk9 hrun
          refine va_iald hx hb hK hP 42 36 rfl rfl (ixb_in hq18) dX3_moveInCode_146 ?_
          obtain ⟨hq19, hrun⟩ := chk9 hrun
          refine va_iast hx hb hK hP hD hS 4 3 rfl rfl (ixb_in hq19) dX3_moveInCode_147 (fun H locs hP hD hS => ?_)
          have hP : va_P (dC, dI) cls (List.flatten ([(oX3 (p0a 0) p0a p0k p0n (upw w9 12 (nn ((p0w 0 9) - 1)) (((p0_6_1w 3) 5) (nn (p0w 12 (nn ((p0w 0 9) - 1))))))), (oX0 (p0a 7) p0_6a p0_6k p0_6n p0_6w), (oX9 (p0_6_1a 0 0) (p0_6_1a 0) (p0_6_1k 0) (p0_6_1n 0) (p0_6_1w 0)), (oX9 (p0_6_1a 1 0) (p0_6_1a 1) (p0_6_1k 1) (p0_6_1n 1) (p0_6_1w 1)), (oX9 (p0_6_1a 2 0) (p0_6_1a 2) (p0_6_1k 2) (p0_6_1n 2) (p0_6_1w 2)), (oX9 (p0_6_1a 3 0) (p0_6_1a 3) (p0_6_1k 3) (p0_6_1n 3) (p0_6_1w 3)), (oX9 (p0_6_1a 4 0) (p0_6_1a 4) (p0_6_1k 4) (p0_6_1n 4) (p0_6_1w 4)), (oX9 (p0_6_1a 5 0) (p0_6_1a 5) (p0_6_1k 5) (p0_6_1n 5) (p0_6_1w 5)), (oX6 (p0a 5) p0_4a p0_4k p0_4w p0_4l), [((p0_6a 2), .inl (p0_6_1c, 6, .inr (.inr (.inr (.inr (fun i => some (p0_6_1a i 0)))))))]] : List va_W)) H := hP
          have hD : va_D A (List.flatten ([(oX3 (p0a 0) p0a p0k p0n (upw w9 12 (nn ((p0w 0 9) - 1)) (((p0_6_1w 3) 5) (nn (p0w 12 (nn ((p0w 0 9) - 1))))))), (oX0 (p0a 7) p0_6a p0_6k p0_6n p0_6w), (oX9 (p0_6_1a 0 0) (p0_6_1a 0) (p0_6_1k 0) (p0_6_1n 0) (p0_6_1w 0)), (oX9 (p0_6_1a 1 0) (p0_6_1a 1) (p0_6_1k 1) (p0_6_1n 1) (p0_6_1w 1)), (oX9 (p0_6_1a 2 0) (p0_6_1a 2) (p0_6_1k 2) (p0_6_1n 2) (p0_6_1w 2)), (oX9 (p0_6_1a 3 0) (p0_6_1a 3) (p0_6_1k 3) (p0_6_1n 3) (p0_6_1w 3)), (oX9 (p0_6_1a 4 0) (p0_6_1a 4) (p0_6_1k 4) (p0_6_1n 4) (p0_6_1w 4)), (oX9 (p0_6_1a 5 0) (p0_6_1a 5) (p0_6_1k 5) (p0_6_1n 5) (p0_6_1w 5)), (oX6 (p0a 5) p0_4a p0_4k p0_4w p0_4l), [((p0_6a 2), .inl (p0_6_1c, 6, .inr (.inr (.inr (.inr (fun i => some (p0_6_1a i 0)))))))]] : List va_W)) := hD
          obtain ⟨w20, ew20, hrun⟩ := let9 hrun
          rw [← ew20] at hP hD
          refine lv_goto (tgt := 353) hx hb dX3_moveInCode_148 (by decide) ?_
          exact J353 w20 _ _ _ hrun hP hD hK hS (lv_sub hl [] rfl)
      rcases br9 hrun with ⟨hc21, hrun⟩ | ⟨hc21, hrun⟩
      · refine lv_tableIn (off := 111) (tgt := 179) hx hb dX3_moveInCode_68 (by rw [hc21]; decide) (by rw [hc21]; decide) (by rw [hc21]; rfl) (by decide) ?_
        refine lv_aload_n hx hb dX3_moveInCode_179 rfl (lv_at hl 5 rfl) ?_
        refine va_get (D := (dC, dI)) (ci := 10) (v := .ref (p0a 16)) (C := RX3) (T := TX3) (N := 20) hx hb hts i_X3 hown hK hP 0 rfl rfl 15 (by decide) (hts _ qw906) (fun _ h9 => h9) rfl dX3_moveInCode_180 ?_
        refine lv_iload hx hb dX3_moveInCode_183 (lv_at hl 1 rfl) ?_
        refine lv_iload hx hb dX3_moveInCode_185 (lv_at hl 0 rfl) ?_
        refine lv_iadd hx hb dX3_moveInCode_187 ?_
        obtain ⟨hq22, hrun⟩ := chk9 hrun
        refine va_iald hx hb hK hP 8 7 rfl rfl (ixb_in hq22) dX3_moveInCode_188 ?_
        refine lv_istore (lv' := [(6, .int (w9 16 (nn ((((p0w 0 9) - 1) * 320) + (((p0_6_1w 3) 4) (nn (p0w 12 (nn ((p0w 0 9) - 1))))))))), (5, .int (((p0_6_1w 3) 4) (nn (p0w 12 (nn ((p0w 0 9) - 1)))))), (4, .int (((p0w 0 9) - 1) * 320)), (3, .int (p0w 12 (nn ((p0w 0 9) - 1)))), (2, .ref (p0_6_1a 3 0)), (1, .int ((p0w 0 9) - 1)), (0, .ref (p0a 0))]) hx hb dX3_moveInCode_189 hl (by decide) rfl (fun ls hl => ?_)
        refine lv_aload_n hx hb dX3_moveInCode_191 rfl (lv_at hl 6 rfl) ?_
        refine lv_iload hx hb dX3_moveInCode_192 (lv_at hl 0 rfl) ?_
        obtain ⟨o_23, hc_23, hrun⟩ := bnd9 hrun
        have hPx : va_P (dC, dI) cls ((List.flatten ([(oX3 (p0a 0) p0a p0k p0n w9)] : List va_W)) ++ (List.flatten ([(oX0 (p0a 7) p0_6a p0_6k p0_6n p0_6w), (oX9 (p0_6_1a 0 0) (p0_6_1a 0) (p0_6_1k 0) (p0_6_1n 0) (p0_6_1w 0)), (oX9 (p0_6_1a 1 0) (p0_6_1a 1) (p0_6_1k 1) (p0_6_1n 1) (p0_6_1w 1)), (oX9 (p0_6_1a 2 0) (p0_6_1a 2) (p0_6_1k 2) (p0_6_1n 2) (p0_6_1w 2)), (oX9 (p0_6_1a 3 0) (p0_6_1a 3) (p0_6_1k 3) (p0_6_1n 3) (p0_6_1w 3)), (oX9 (p0_6_1a 4 0) (p0_6_1a 4) (p0_6_1k 4) (p0_6_1n 4) (p0_6_1w 4)), (oX9 (p0_6_1a 5 0) (p0_6_1a 5) (p0_6_1k 5) (p0_6_1n 5) (p0_6_1w 5)), (oX6 (p0a 5) p0_4a p0_4k p0_4w p0_4l), [((p0_6a 2), .inl (p0_6_1c, 6, .inr (.inr (.inr (.inr (fun i => some (p0_6_1a i 0)))))))]] : List va_W))) H := vP_fa (vP_perm hP (bP (List.Perm.refl _)))
        have hDx : va_D A ((List.flatten ([(oX3 (p0a 0) p0a p0k p0n w9)] : List va_W)) ++ (List.flatten ([(oX0 (p0a 7) p0_6a p0_6k p0_6n p0_6w), (oX9 (p0_6_1a 0 0) (p0_6_1a 0) (p0_6_1k 0) (p0_6_1n 0) (p0_6_1w 0)), (oX9 (p0_6_1a 1 0) (p0_6_1a 1) (p0_6_1k 1) (p0_6_1n 1) (p0_6_1w 1)), (oX9 (p0_6_1a 2 0) (p0_6_1a 2) (p0_6_1k 2) (p0_6_1n 2) (p0_6_1w 2)), (oX9 (p0_6_1a 3 0) (p0_6_1a 3) (p0_6_1k 3) (p0_6_1n 3) (p0_6_1w 3)), (oX9 (p0_6_1a 4 0) (p0_6_1a 4) (p0_6_1k 4) (p0_6_1n 4) (p0_6_1w 4)), (oX9 (p0_6_1a 5 0) (p0_6_1a 5) (p0_6_1k 5) (p0_6_1n 5) (p0_6_1w 5)), (oX6 (p0a 5) p0_4a p0_4k p0_4w p0_4l), [((p0_6a 2), .inl (p0_6_1c, 6, .inr (.inr (.inr (.inr (fun i => some (p0_6_1a i 0)))))))]] : List va_W))) := vD_fa (vD_perm hD (bP (List.Perm.refl _)))
        have hKx : va_K (dC, dI) cls ((List.flatten ([(tX3 p0k)] : List (List (ClassId × FieldType)))) ++ (List.flatten ([(tX0 p0_6k), (tX9 (p0_6_1k 0)), (tX9 (p0_6_1k 1)), (tX9 (p0_6_1k 2)), (tX9 (p0_6_1k 3)), (tX9 (p0_6_1k 4)), (tX9 (p0_6_1k 5)), (tX6 p0_4k), [(p0_6_1c, .object RX9)]] : List (List (ClassId × FieldType))))) s := vK_fa (vK_perm hK (bP (List.Perm.refl _)))
        have hPc := vP_l hPx
        have hDc := vD_l hDx
        have hKc := vK_l hKx
        have hFc := vfree hDx hS hA
        refine va_calli (va_runV (As := [.int (w9 16 (nn ((((p0w 0 9) - 1) * 320) + (((p0_6_1w 3) 4) (nn (p0w 12 (nn ((p0w 0 9) - 1))))))))]) (rest := []) ⟨hx, hb, hml, hown, hts⟩ (kX3_close l dC dI (p0a := p0a) (p0k := p0k) (p0n := p0n) (p0w := w9) (p1 := (w9 16 (nn ((((p0w 0 9) - 1) * 320) + (((p0_6_1w 3) 4) (nn (p0w 12 (nn ((p0w 0 9) - 1))))))))) (sz := _) (o := o_23) (hrun := hc_23)) (cwV 1 hts (gi_V qw909 qw910 qw911 qw903 (gi_z qw908)) rfl rfl rfl (by decide +kernel) ⟨Nat.le_of_ble_eq_true rfl, Nat.le_of_ble_eq_true rfl⟩) ⟨PRE.blind, va_recv hKc hPc (ci := 10) (q0 := 0) rfl rfl, PRE.of hE hS hFc hPc hKc hDc⟩ rfl rfl hl.1 rfl (lv_room (Nat.le_of_ble_eq_true rfl)) dX3_moveInCode_194 ⟨(Nat.le_of_ble_eq_true rfl), (Nat.le_of_ble_eq_true rfl)⟩) hS (fun q _ h => hFc q h) hFc (fun r24 u t H locs ht hvm hw hB hz1 hk1 hS => ?_)
        obtain ⟨b1, b2, b3⟩ := hB
        rw [ht] at b1
        obtain ⟨hP, hD, hK⟩ := JOINC (wc := (List.flatten ([(oX3 (p0a 0) p0a p0k p0n w9)] : List va_W))) (wr := (List.flatten ([(oX0 (p0a 7) p0_6a p0_6k p0_6n p0_6w), (oX9 (p0_6_1a 0 0) (p0_6_1a 0) (p0_6_1k 0) (p0_6_1n 0) (p0_6_1w 0)), (oX9 (p0_6_1a 1 0) (p0_6_1a 1) (p0_6_1k 1) (p0_6_1n 1) (p0_6_1w 1)), (oX9 (p0_6_1a 2 0) (p0_6_1a 2) (p0_6_1k 2) (p0_6_1n 2) (p0_6_1w 2)), (oX9 (p0_6_1a 3 0) (p0_6_1a 3) (p0_6_1k 3) (p0_6_1n 3) (p0_6_1w 3)), (oX9 (p0_6_1a 4 0) (p0_6_1a 4) (p0_6_1k 4) (p0_6_1n 4) (p0_6_1w 4)), (oX9 (p0_6_1a 5 0) (p0_6_1a 5) (p0_6_1k 5) (p0_6_1n 5) (p0_6_1w 5)), (oX6 (p0a 5) p0_4a p0_4k p0_4w p0_4l), [((p0_6a 2), .inl (p0_6_1c, 6, .inr (.inr (.inr (.inr (fun i => some (p0_6_1a i 0)))))))]] : List va_W))) (w1 := (List.flatten ([(oX3 (p0a 0) p0a p0k p0n (o_23.2))] : List va_W))) (t1 := (List.flatten ([(tX3 p0k)] : List (List (ClassId × FieldType))))) hPx hDx hKx hk1 hFc b1 (va_K.moved hvm.symm b2) b3
        have hP : va_P (dC, dI) cls (List.flatten ([(oX3 (p0a 0) p0a p0k p0n (o_23.2)), (oX0 (p0a 7) p0_6a p0_6k p0_6n p0_6w), (oX9 (p0_6_1a 0 0) (p0_6_1a 0) (p0_6_1k 0) (p0_6_1n 0) (p0_6_1w 0)), (oX9 (p0_6_1a 1 0) (p0_6_1a 1) (p0_6_1k 1) (p0_6_1n 1) (p0_6_1w 1)), (oX9 (p0_6_1a 2 0) (p0_6_1a 2) (p0_6_1k 2) (p0_6_1n 2) (p0_6_1w 2)), (oX9 (p0_6_1a 3 0) (p0_6_1a 3) (p0_6_1k 3) (p0_6_1n 3) (p0_6_1w 3)), (oX9 (p0_6_1a 4 0) (p0_6_1a 4) (p0_6_1k 4) (p0_6_1n 4) (p0_6_1w 4)), (oX9 (p0_6_1a 5 0) (p0_6_1a 5) (p0_6_1k 5) (p0_6_1n 5) (p0_6_1w 5)), (oX6 (p0a 5) p0_4a p0_4k p0_4w p0_4l), [((p0_6a 2), .inl (p0_6_1c, 6, .inr (.inr (.inr (.inr (fun i => some (p0_6_1a i 0)))))))]] : List va_W)) H := vP_perm (vP_fb hP) (bP (List.Perm.refl _))
        have hD : va_D A (List.flatten ([(oX3 (p0a 0) p0a p0k p0n (o_23.2)), (oX0 (p0a 7) p0_6a p0_6k p0_6n p0_6w), (oX9 (p0_6_1a 0 0) (p0_6_1a 0) (p0_6_1k 0) (p0_6_1n 0) (p0_6_1w 0)), (oX9 (p0_6_1a 1 0) (p0_6_1a 1) (p0_6_1k 1) (p0_6_1n 1) (p0_6_1w 1)), (oX9 (p0_6_1a 2 0) (p0_6_1a 2) (p0_6_1k 2) (p0_6_1n 2) (p0_6_1w 2)), (oX9 (p0_6_1a 3 0) (p0_6_1a 3) (p0_6_1k 3) (p0_6_1n 3) (p0_6_1w 3)), (oX9 (p0_6_1a 4 0) (p0_6_1a 4) (p0_6_1k 4) (p0_6_1n 4) (p0_6_1w 4)), (oX9 (p0_6_1a 5 0) (p0_6_1a 5) (p0_6_1k 5) (p0_6_1n 5) (p0_6_1w 5)), (oX6 (p0a 5) p0_4a p0_4k p0_4w p0_4l), [((p0_6a 2), .inl (p0_6_1c, 6, .inr (.inr (.inr (.inr (fun i => some (p0_6_1a i 0)))))))]] : List va_W)) := vD_perm (vD_fb hD) (bP (List.Perm.refl _))
        have hK : va_K (dC, dI) cls (List.flatten ([(tX3 p0k), (tX0 p0_6k), (tX9 (p0_6_1k 0)), (tX9 (p0_6_1k 1)), (tX9 (p0_6_1k 2)), (tX9 (p0_6_1k 3)), (tX9 (p0_6_1k 4)), (tX9 (p0_6_1k 5)), (tX6 p0_4k), [(p0_6_1c, .object RX9)]] : List (List (ClassId × FieldType)))) s := vK_perm (vK_fb hK) (bP (List.Perm.refl _))
        obtain rfl : r24 = (o_23.1) := hw
        rcases br9 hrun with ⟨hc25, hrun⟩ | ⟨hc25, hrun⟩
        · refine lv_if_eq (tgt := 353) hx hb dX3_moveInCode_197 (by decide) (fun _ => ?_) (fun c => absurd hc25 c)
          exact J353 (o_23.2) _ _ _ hrun hP hD hK hS (lv_sub hl [] rfl)
        · refine lv_if_eq (tgt := 353) hx hb dX3_moveInCode_197 (by decide) (fun c => absurd c hc25) (fun _ => ?_)
          refine lv_aload_n hx hb dX3_moveInCode_200 rfl (lv_at hl 6 rfl) ?_
          refine va_get (D := (dC, dI)) (ci := 10) (v := .int ((o_23.2) 0 9)) (C := RX3) (T := TX3) (N := 20) hx hb hts i_X3 hown hK hP 0 rfl rfl 9 (by decide) (hts _ qw897) (fun _ h9 => h9) rfl dX3_moveInCode_201 ?_
          refine lv_iconst (v := 1) hx hb dX3_moveInCode_204 (by decide) ?_
          refine lv_isub hx hb dX3_moveInCode_205 ?_
          refine lv_istore (lv' := [(7, .int (((o_23.2) 0 9) - 1)), (6, .int (w9 16 (nn ((((p0w 0 9) - 1) * 320) + (((p0_6_1w 3) 4) (nn (p0w 12 (nn ((p0w 0 9) - 1))))))))), (5, .int (((p0_6_1w 3) 4) (nn (p0w 12 (nn ((p0w 0 9) - 1)))))), (4, .int (((p0w 0 9) - 1) * 320)), (3, .int (p0w 12 (nn ((p0w 0 9) - 1)))), (2, .ref (p0_6_1a 3 0)), (1, .int ((p0w 0 9) - 1)), (0, .ref (p0a 0))]) hx hb dX3_moveInCode_206 hl (by decide) rfl (fun ls hl => ?_)
          refine lv_aload_n hx hb dX3_moveInCode_208 rfl (lv_at hl 7 rfl) ?_
          refine va_get (D := (dC, dI)) (ci := 10) (v := .ref (p0a 7)) (C := RX3) (T := TX3) (N := 20) hx hb hts i_X3 hown hK hP 0 rfl rfl 6 (by decide) (hts _ qw946) (fun _ h9 => h9) rfl dX3_moveInCode_209 ?_
          refine va_get (D := (dC, dI)) (ci := 8) (v := .ref (p0_6a 2)) (C := RX0) (T := TX0) (N := 17) hx hb hts i_X0 hown hK hP 11 rfl rfl 1 (by decide) (hts _ qw988) (fun _ h9 => h9) rfl dX3_moveInCode_212 ?_
          refine lv_aload_n hx hb dX3_moveInCode_215 rfl (lv_at hl 7 rfl) ?_
          refine va_get (D := (dC, dI)) (ci := 10) (v := .ref (p0a 11)) (C := RX3) (T := TX3) (N := 20) hx hb hts i_X3 hown hK hP 0 rfl rfl 10 (by decide) (hts _ qw913) (fun _ h9 => h9) rfl dX3_moveInCode_216 ?_
          refine lv_iload hx hb dX3_moveInCode_219 (lv_at hl 0 rfl) ?_
          obtain ⟨hq26, hrun⟩ := chk9 hrun
          refine va_iald hx hb hK hP 3 2 rfl rfl (ixb_in hq26) dX3_moveInCode_221 ?_
          obtain ⟨hq27, hrun⟩ := chk9 hrun
          refine va_aldq hx hb hK hP 67 58 rfl rfl (ixb_in hq27) dX3_moveInCode_222 ?_
          obtain ⟨i28, ei28, hrun⟩ := let9 hrun
          have hi_i28 : i28 < 6 := by rw [ei28]; exact ixb_lt hq27
          have es_i28 : Int32.toNatClampNeg (((o_23.2) 11) (nn (((o_23.2) 0 9) - 1))) = i28 := ei28.symm
          rw [es_i28]
          clear ei28
          rcases lt6 hi_i28 with rfl | rfl | rfl | rfl | rfl | rfl
          · refine W.eq (g2 := F0 m 223 ls [.ref (p0_6_1a 0 0)]) rfl ?_
            refine va_get (D := (dC, dI)) (ci := 3) (v := .ref ((p0_6_1a 0) 3)) (C := RX9) (T := TX9) (N := 6) hx hb hts i_X9 hown hK hP 20 rfl rfl 2 (by decide) (hts _ qw918) (fun _ h9 => h9) rfl dX3_moveInCode_223 ?_
            refine lv_aload_n hx hb dX3_moveInCode_226 rfl (lv_at hl 7 rfl) ?_
            refine va_get (D := (dC, dI)) (ci := 10) (v := .ref (p0a 12)) (C := RX3) (T := TX3) (N := 20) hx hb hts i_X3 hown hK hP 0 rfl rfl 11 (by decide) (hts _ qw915) (fun _ h9 => h9) rfl dX3_moveInCode_227 ?_
            refine lv_iload hx hb dX3_moveInCode_230 (lv_at hl 0 rfl) ?_
            obtain ⟨hq29, hrun⟩ := chk9 hrun
            refine va_iald hx hb hK hP 4 3 rfl rfl (ixb_in hq29) dX3_moveInCode_232 ?_
            refine lv_iconst (v := 1) hx hb dX3_moveInCode_233 (by decide) ?_
            refine lv_isub hx hb dX3_moveInCode_234 ?_
            obtain ⟨hq30, hrun⟩ := chk9 hrun
            refine va_iald hx hb hK hP 22 19 rfl rfl (ixb_in hq30) dX3_moveInCode_235 ?_
            refine lv_istore (lv' := [(8, .int (((p0_6_1w 0) 3) (nn ((((o_23.2) 12) (nn (((o_23.2) 0 9) - 1))) - 1)))), (7, .int (((o_23.2) 0 9) - 1)), (6, .int (w9 16 (nn ((((p0w 0 9) - 1) * 320) + (((p0_6_1w 3) 4) (nn (p0w 12 (nn ((p0w 0 9) - 1))))))))), (5, .int (((p0_6_1w 3) 4) (nn (p0w 12 (nn ((p0w 0 9) - 1)))))), (4, .int (((p0w 0 9) - 1) * 320)), (3, .int (p0w 12 (nn ((p0w 0 9) - 1)))), (2, .ref (p0_6_1a 3 0)), (1, .int ((p0w 0 9) - 1)), (0, .ref (p0a 0))]) hx hb dX3_moveInCode_236 hl (by decide) rfl (fun ls hl => ?_)
            refine lv_aload_n hx hb dX3_moveInCode_238 rfl (lv_at hl 8 rfl) ?_
            refine va_get (D := (dC, dI)) (ci := 10) (v := .ref (p0a 16)) (C := RX3) (T := TX3) (N := 20) hx hb hts i_X3 hown hK hP 0 rfl rfl 15 (by decide) (hts _ qw906) (fun _ h9 => h9) rfl dX3_moveInCode_239 ?_
            refine lv_iload hx hb dX3_moveInCode_242 (lv_at hl 1 rfl) ?_
            refine lv_sipush (v := 320) hx hb dX3_moveInCode_244 (by decide) ?_
            refine lv_imul hx hb dX3_moveInCode_247 ?_
            refine lv_iload hx hb dX3_moveInCode_248 (lv_at hl 0 rfl) ?_
            refine lv_iadd hx hb dX3_moveInCode_250 ?_
            refine lv_iload hx hb dX3_moveInCode_251 (lv_at hl 2 rfl) ?_
            obtain ⟨hq31, hrun⟩ := chk9 hrun
            refine va_iast hx hb hK hP hD hS 8 7 rfl rfl (ixb_in hq31) dX3_moveInCode_253 (fun H locs hP hD hS => ?_)
            have hP : va_P (dC, dI) cls (List.flatten ([(oX3 (p0a 0) p0a p0k p0n (upw (o_23.2) 16 (nn (((((o_23.2) 0 9) - 1) * 320) + (((p0_6_1w 0) 3) (nn ((((o_23.2) 12) (nn (((o_23.2) 0 9) - 1))) - 1))))) (w9 16 (nn ((((p0w 0 9) - 1) * 320) + (((p0_6_1w 3) 4) (nn (p0w 12 (nn ((p0w 0 9) - 1)))))))))), (oX0 (p0a 7) p0_6a p0_6k p0_6n p0_6w), (oX9 (p0_6_1a 0 0) (p0_6_1a 0) (p0_6_1k 0) (p0_6_1n 0) (p0_6_1w 0)), (oX9 (p0_6_1a 1 0) (p0_6_1a 1) (p0_6_1k 1) (p0_6_1n 1) (p0_6_1w 1)), (oX9 (p0_6_1a 2 0) (p0_6_1a 2) (p0_6_1k 2) (p0_6_1n 2) (p0_6_1w 2)), (oX9 (p0_6_1a 3 0) (p0_6_1a 3) (p0_6_1k 3) (p0_6_1n 3) (p0_6_1w 3)), (oX9 (p0_6_1a 4 0) (p0_6_1a 4) (p0_6_1k 4) (p0_6_1n 4) (p0_6_1w 4)), (oX9 (p0_6_1a 5 0) (p0_6_1a 5) (p0_6_1k 5) (p0_6_1n 5) (p0_6_1w 5)), (oX6 (p0a 5) p0_4a p0_4k p0_4w p0_4l), [((p0_6a 2), .inl (p0_6_1c, 6, .inr (.inr (.inr (.inr (fun i => some (p0_6_1a i 0)))))))]] : List va_W)) H := hP
            have hD : va_D A (List.flatten ([(oX3 (p0a 0) p0a p0k p0n (upw (o_23.2) 16 (nn (((((o_23.2) 0 9) - 1) * 320) + (((p0_6_1w 0) 3) (nn ((((o_23.2) 12) (nn (((o_23.2) 0 9) - 1))) - 1))))) (w9 16 (nn ((((p0w 0 9) - 1) * 320) + (((p0_6_1w 3) 4) (nn (p0w 12 (nn ((p0w 0 9) - 1)))))))))), (oX0 (p0a 7) p0_6a p0_6k p0_6n p0_6w), (oX9 (p0_6_1a 0 0) (p0_6_1a 0) (p0_6_1k 0) (p0_6_1n 0) (p0_6_1w 0)), (oX9 (p0_6_1a 1 0) (p0_6_1a 1) (p0_6_1k 1) (p0_6_1n 1) (p0_6_1w 1)), (oX9 (p0_6_1a 2 0) (p0_6_1a 2) (p0_6_1k 2) (p0_6_1n 2) (p0_6_1w 2)), (oX9 (p0_6_1a 3 0) (p0_6_1a 3) (p0_6_1k 3) (p0_6_1n 3) (p0_6_1w 3)), (oX9 (p0_6_1a 4 0) (p0_6_1a 4) (p0_6_1k 4) (p0_6_1n 4) (p0_6_1w 4)), (oX9 (p0_6_1a 5 0) (p0_6_1a 5) (p0_6_1k 5) (p0_6_1n 5) (p0_6_1w 5)), (oX6 (p0a 5) p0_4a p0_4k p0_4w p0_4l), [((p0_6a 2), .inl (p0_6_1c, 6, .inr (.inr (.inr (.inr (fun i => some (p0_6_1a i 0)))))))]] : List va_W)) := hD
            obtain ⟨w32, ew32, hrun⟩ := let9 hrun
            rw [← ew32] at hP hD
            refine lv_goto (tgt := 353) hx hb dX3_moveInCode_254 (by decide) ?_
            exact J353 w32 _ _ _ hrun hP hD hK hS (lv_sub hl [] rfl)
          · refine W.eq (g2 := F0 m 223 ls [.ref (p0_6_1a 1 0)]) rfl ?_
            refine va_get (D := (dC, dI)) (ci := 3) (v := .ref ((p0_6_1a 1) 3)) (C := RX9) (T := TX9) (N := 6) hx hb hts i_X9 hown hK hP 26 rfl rfl 2 (by decide) (hts _ qw918) (fun _ h9 => h9) rfl dX3_moveInCode_223 ?_
            refine lv_aload_n hx hb dX3_moveInCode_226 rfl (lv_at hl 7 rfl) ?_
            refine va_get (D := (dC, dI)) (ci := 10) (v := .ref (p0a 12)) (C := RX3) (T := TX3) (N := 20) hx hb hts i_X3 hown hK hP 0 rfl rfl 11 (by decide) (hts _ qw915) (fun _ h9 => h9) rfl dX3_moveInCode_227 ?_
            refine lv_iload hx hb dX3_moveInCode_230 (lv_at hl 0 rfl) ?_
            obtain ⟨hq29, hrun⟩ := chk9 hrun
            refine va_iald hx hb hK hP 4 3 rfl rfl (ixb_in hq29) dX3_moveInCode_232 ?_
            refine lv_iconst (v := 1) hx hb dX3_moveInCode_233 (by decide) ?_
            refine lv_isub hx hb dX3_moveInCode_234 ?_
            obtain ⟨hq30, hrun⟩ := chk9 hrun
            refine va_iald hx hb hK hP 28 24 rfl rfl (ixb_in hq30) dX3_moveInCode_235 ?_
            refine lv_istore (lv' := [(8, .int (((p0_6_1w 1) 3) (nn ((((o_23.2) 12) (nn (((o_23.2) 0 9) - 1))) - 1)))), (7, .int (((o_23.2) 0 9) - 1)), (6, .int (w9 16 (nn ((((p0w 0 9) - 1) * 320) + (((p0_6_1w 3) 4) (nn (p0w 12 (nn ((p0w 0 9) - 1))))))))), (5, .int (((p0_6_1w 3) 4) (nn (p0w 12 (nn ((p0w 0 9) - 1)))))), (4, .int (((p0w 0 9) - 1) * 320)), (3, .int (p0w 12 (nn ((p0w 0 9) - 1)))), (2, .ref (p0_6_1a 3 0)), (1, .int ((p0w 0 9) - 1)), (0, .ref (p0a 0))]) hx hb dX3_moveInCode_236 hl (by decide) rfl (fun ls hl => ?_)
            refine lv_aload_n hx hb dX3_moveInCode_238 rfl (lv_at hl 8 rfl) ?_
            refine va_get (D := (dC, dI)) (ci := 10) (v := .ref (p0a 16)) (C := RX3) (T := TX3) (N := 20) hx hb hts i_X3 hown hK hP 0 rfl rfl 15 (by decide) (hts _ qw906) (fun _ h9 => h9) rfl dX3_moveInCode_239 ?_
            refine lv_iload hx hb dX3_moveInCode_242 (lv_at hl 1 rfl) ?_
            refine lv_sipush (v := 320) hx hb dX3_moveInCode_244 (by decide) ?_
            refine lv_imul hx hb dX3_moveInCode_247 ?_
            refine lv_iload hx hb dX3_moveInCode_248 (lv_at hl 0 rfl) ?_
            refine lv_iadd hx hb dX3_moveInCode_250 ?_
            refine lv_iload hx hb dX3_moveInCode_251 (lv_at hl 2 rfl) ?_
            obtain ⟨hq31, hrun⟩ := chk9 hrun
            refine va_iast hx hb hK hP hD hS 8 7 rfl rfl (ixb_in hq31) dX3_moveInCode_253 (fun H locs hP hD hS => ?_)
            have hP : va_P (dC, dI) cls (List.flatten ([(oX3 (p0a 0) p0a p0k p0n (upw (o_23.2) 16 (nn (((((o_23.2) 0 9) - 1) * 320) + (((p0_6_1w 1) 3) (nn ((((o_23.2) 12) (nn (((o_23.2) 0 9) - 1))) - 1))))) (w9 16 (nn ((((p0w 0 9) - 1) * 320) + (((p0_6_1w 3) 4) (nn (p0w 12 (nn ((p0w 0 9) - 1)))))))))), (oX0 (p0a 7) p0_6a p0_6k p0_6n p0_6w), (oX9 (p0_6_1a 0 0) (p0_6_1a 0) (p0_6_1k 0) (p0_6_1n 0) (p0_6_1w 0)), (oX9 (p0_6_1a 1 0) (p0_6_1a 1) (p0_6_1k 1) (p0_6_1n 1) (p0_6_1w 1)), (oX9 (p0_6_1a 2 0) (p0_6_1a 2) (p0_6_1k 2) (p0_6_1n 2) (p0_6_1w 2)), (oX9 (p0_6_1a 3 0) (p0_6_1a 3) (p0_6_1k 3) (p0_6_1n 3) (p0_6_1w 3)), (oX9 (p0_6_1a 4 0) (p0_6_1a 4) (p0_6_1k 4) (p0_6_1n 4) (p0_6_1w 4)), (oX9 (p0_6_1a 5 0) (p0_6_1a 5) (p0_6_1k 5) (p0_6_1n 5) (p0_6_1w 5)), (oX6 (p0a 5) p0_4a p0_4k p0_4w p0_4l), [((p0_6a 2), .inl (p0_6_1c, 6, .inr (.inr (.inr (.inr (fun i => some (p0_6_1a i 0)))))))]] : List va_W)) H := hP
            have hD : va_D A (List.flatten ([(oX3 (p0a 0) p0a p0k p0n (upw (o_23.2) 16 (nn (((((o_23.2) 0 9) - 1) * 320) + (((p0_6_1w 1) 3) (nn ((((o_23.2) 12) (nn (((o_23.2) 0 9) - 1))) - 1))))) (w9 16 (nn ((((p0w 0 9) - 1) * 320) + (((p0_6_1w 3) 4) (nn (p0w 12 (nn ((p0w 0 9) - 1)))))))))), (oX0 (p0a 7) p0_6a p0_6k p0_6n p0_6w), (oX9 (p0_6_1a 0 0) (p0_6_1a 0) (p0_6_1k 0) (p0_6_1n 0) (p0_6_1w 0)), (oX9 (p0_6_1a 1 0) (p0_6_1a 1) (p0_6_1k 1) (p0_6_1n 1) (p0_6_1w 1)), (oX9 (p0_6_1a 2 0) (p0_6_1a 2) (p0_6_1k 2) (p0_6_1n 2) (p0_6_1w 2)), (oX9 (p0_6_1a 3 0) (p0_6_1a 3) (p0_6_1k 3) (p0_6_1n 3) (p0_6_1w 3)), (oX9 (p0_6_1a 4 0) (p0_6_1a 4) (p0_6_1k 4) (p0_6_1n 4) (p0_6_1w 4)), (oX9 (p0_6_1a 5 0) (p0_6_1a 5) (p0_6_1k 5) (p0_6_1n 5) (p0_6_1w 5)), (oX6 (p0a 5) p0_4a p0_4k p0_4w p0_4l), [((p0_6a 2), .inl (p0_6_1c, 6, .inr (.inr (.inr (.inr (fun i => some (p0_6_1a i 0)))))))]] : List va_W)) := hD
            obtain ⟨w32, ew32, hrun⟩ := let9 hrun
            rw [← ew32] at hP hD
            refine lv_goto (tgt := 353) hx hb dX3_moveInCode_254 (by decide) ?_
            exact J353 w32 _ _ _ hrun hP hD hK hS (lv_sub hl [] rfl)
          · refine W.eq (g2 := F0 m 223 ls [.ref (p0_6_1a 2 0)]) rfl ?_
            refine va_get (D := (dC, dI)) (ci := 3) (v := .ref ((p0_6_1a 2) 3)) (C := RX9) (T := TX9) (N := 6) hx hb hts i_X9 hown hK hP 32 rfl rfl 2 (by decide) (hts _ qw918) (fun _ h9 => h9) rfl dX3_moveInCode_223 ?_
            refine lv_aload_n hx hb dX3_moveInCode_226 rfl (lv_at hl 7 rfl) ?_
            refine va_get (D := (dC, dI)) (ci := 10) (v := .ref (p0a 12)) (C := RX3) (T := TX3) (N := 20) hx hb hts i_X3 hown hK hP 0 rfl rfl 11 (by decide) (hts _ qw915) (fun _ h9 => h9) rfl dX3_moveInCode_227 ?_
            refine lv_iload hx hb dX3_moveInCode_230 (lv_at hl 0 rfl) ?_
            obtain ⟨hq29, hrun⟩ := chk9 hrun
            refine va_iald hx hb hK hP 4 3 rfl rfl (ixb_in hq29) dX3_moveInCode_232 ?_
            refine lv_iconst (v := 1) hx hb dX3_moveInCode_233 (by decide) ?_
            refine lv_isub hx hb dX3_moveInCode_234 ?_
            obtain ⟨hq30, hrun⟩ := chk9 hrun
            refine va_iald hx hb hK hP 34 29 rfl rfl (ixb_in hq30) dX3_moveInCode_235 ?_
            refine lv_istore (lv' := [(8, .int (((p0_6_1w 2) 3) (nn ((((o_23.2) 12) (nn (((o_23.2) 0 9) - 1))) - 1)))), (7, .int (((o_23.2) 0 9) - 1)), (6, .int (w9 16 (nn ((((p0w 0 9) - 1) * 320) + (((p0_6_1w 3) 4) (nn (p0w 12 (nn ((p0w 0 9) - 1))))))))), (5, .int (((p0_6_1w 3) 4) (nn (p0w 12 (nn ((p0w 0 9) - 1)))))), (4, .int (((p0w 0 9) - 1) * 320)), (3, .int (p0w 12 (nn ((p0w 0 9) - 1)))), (2, .ref (p0_6_1a 3 0)), (1, .int ((p0w 0 9) - 1)), (0, .ref (p0a 0))]) hx hb dX3_moveInCode_236 hl (by decide) rfl (fun ls hl => ?_)
            refine lv_aload_n hx hb dX3_moveInCode_238 rfl (lv_at hl 8 rfl) ?_
            refine va_get (D := (dC, dI)) (ci := 10) (v := .ref (p0a 16)) (C := RX3) (T := TX3) (N := 20) hx hb hts i_X3 hown hK hP 0 rfl rfl 15 (by decide) (hts _ qw906) (fun _ h9 => h9) rfl dX3_moveInCode_239 ?_
            refine lv_iload hx hb dX3_moveInCode_242 (lv_at hl 1 rfl) ?_
            refine lv_sipush (v := 320) hx hb dX3_moveInCode_244 (by decide) ?_
            refine lv_imul hx hb dX3_moveInCode_247 ?_
            refine lv_iload hx hb dX3_moveInCode_248 (lv_at hl 0 rfl) ?_
            refine lv_iadd hx hb dX3_moveInCode_250 ?_
            refine lv_iload hx hb dX3_moveInCode_251 (lv_at hl 2 rfl) ?_
            obtain ⟨hq31, hrun⟩ := chk9 hrun
            refine va_iast hx hb hK hP hD hS 8 7 rfl rfl (ixb_in hq31) dX3_moveInCode_253 (fun H locs hP hD hS => ?_)
            have hP : va_P (dC, dI) cls (List.flatten ([(oX3 (p0a 0) p0a p0k p0n (upw (o_23.2) 16 (nn (((((o_23.2) 0 9) - 1) * 320) + (((p0_6_1w 2) 3) (nn ((((o_23.2) 12) (nn (((o_23.2) 0 9) - 1))) - 1))))) (w9 16 (nn ((((p0w 0 9) - 1) * 320) + (((p0_6_1w 3) 4) (nn (p0w 12 (nn ((p0w 0 9) - 1)))))))))), (oX0 (p0a 7) p0_6a p0_6k p0_6n p0_6w), (oX9 (p0_6_1a 0 0) (p0_6_1a 0) (p0_6_1k 0) (p0_6_1n 0) (p0_6_1w 0)), (oX9 (p0_6_1a 1 0) (p0_6_1a 1) (p0_6_1k 1) (p0_6_1n 1) (p0_6_1w 1)), (oX9 (p0_6_1a 2 0) (p0_6_1a 2) (p0_6_1k 2) (p0_6_1n 2) (p0_6_1w 2)), (oX9 (p0_6_1a 3 0) (p0_6_1a 3) (p0_6_1k 3) (p0_6_1n 3) (p0_6_1w 3)), (oX9 (p0_6_1a 4 0) (p0_6_1a 4) (p0_6_1k 4) (p0_6_1n 4) (p0_6_1w 4)), (oX9 (p0_6_1a 5 0) (p0_6_1a 5) (p0_6_1k 5) (p0_6_1n 5) (p0_6_1w 5)), (oX6 (p0a 5) p0_4a p0_4k p0_4w p0_4l), [((p0_6a 2), .inl (p0_6_1c, 6, .inr (.inr (.inr (.inr (fun i => some (p0_6_1a i 0)))))))]] : List va_W)) H := hP
            have hD : va_D A (List.flatten ([(oX3 (p0a 0) p0a p0k p0n (upw (o_23.2) 16 (nn (((((o_23.2) 0 9) - 1) * 320) + (((p0_6_1w 2) 3) (nn ((((o_23.2) 12) (nn (((o_23.2) 0 9) - 1))) - 1))))) (w9 16 (nn ((((p0w 0 9) - 1) * 320) + (((p0_6_1w 3) 4) (nn (p0w 12 (nn ((p0w 0 9) - 1)))))))))), (oX0 (p0a 7) p0_6a p0_6k p0_6n p0_6w), (oX9 (p0_6_1a 0 0) (p0_6_1a 0) (p0_6_1k 0) (p0_6_1n 0) (p0_6_1w 0)), (oX9 (p0_6_1a 1 0) (p0_6_1a 1) (p0_6_1k 1) (p0_6_1n 1) (p0_6_1w 1)), (oX9 (p0_6_1a 2 0) (p0_6_1a 2) (p0_6_1k 2) (p0_6_1n 2) (p0_6_1w 2)), (oX9 (p0_6_1a 3 0) (p0_6_1a 3) (p0_6_1k 3) (p0_6_1n 3) (p0_6_1w 3)), (oX9 (p0_6_1a 4 0) (p0_6_1a 4) (p0_6_1k 4) (p0_6_1n 4) (p0_6_1w 4)), (oX9 (p0_6_1a 5 0) (p0_6_1a 5) (p0_6_1k 5) (p0_6_1n 5) (p0_6_1w 5)), (oX6 (p0a 5) p0_4a p0_4k p0_4w p0_4l), [((p0_6a 2), .inl (p0_6_1c, 6, .inr (.inr (.inr (.inr (fun i => some (p0_6_1a i 0)))))))]] : List va_W)) := hD
            obtain ⟨w32, ew32, hrun⟩ := let9 hrun
            rw [← ew32] at hP hD
            refine lv_goto (tgt := 353) hx hb dX3_moveInCode_254 (by decide) ?_
            exact J353 w32 _ _ _ hrun hP hD hK hS (lv_sub hl [] rfl)
          · refine W.eq (g2 := F0 m 223 ls [.ref (p0_6_1a 3 0)]) rfl ?_
            refine va_get (D := (dC, dI)) (ci := 3) (v := .ref ((p0_6_1a 3) 3)) (C := RX9) (T := TX9) (N := 6) hx hb hts i_X9 hown hK hP 38 rfl rfl 2 (by decide) (hts _ qw918) (fun _ h9 => h9) rfl dX3_moveInCode_223 ?_
            refine lv_aload_n hx hb dX3_moveInCode_226 rfl (lv_at hl 7 rfl) ?_
            refine va_get (D := (dC, dI)) (ci := 10) (v := .ref (p0a 12)) (C := RX3) (T := TX3) (N := 20) hx hb hts i_X3 hown hK hP 0 rfl rfl 11 (by decide) (hts _ qw915) (fun _ h9 => h9) rfl dX3_moveInCode_227 ?_
            refine lv_iload hx hb dX3_moveInCode_230 (lv_at hl 0 rfl) ?_
            obtain ⟨hq29, hrun⟩ := chk9 hrun
            refine va_iald hx hb hK hP 4 3 rfl rfl (ixb_in hq29) dX3_moveInCode_232 ?_
            refine lv_iconst (v := 1) hx hb dX3_moveInCode_233 (by decide) ?_
            refine lv_isub hx hb dX3_moveInCode_234 ?_
            obtain ⟨hq30, hrun⟩ := chk9 hrun
            refine va_iald hx hb hK hP 40 34 rfl rfl (ixb_in hq30) dX3_moveInCode_235 ?_
            refine lv_istore (lv' := [(8, .int (((p0_6_1w 3) 3) (nn ((((o_23.2) 12) (nn (((o_23.2) 0 9) - 1))) - 1)))), (7, .int (((o_23.2) 0 9) - 1)), (6, .int (w9 16 (nn ((((p0w 0 9) - 1) * 320) + (((p0_6_1w 3) 4) (nn (p0w 12 (nn ((p0w 0 9) - 1))))))))), (5, .int (((p0_6_1w 3) 4) (nn (p0w 12 (nn ((p0w 0 9) - 1)))))), (4, .int (((p0w 0 9) - 1) * 320)), (3, .int (p0w 12 (nn ((p0w 0 9) - 1)))), (2, .ref (p0_6_1a 3 0)), (1, .int ((p0w 0 9) - 1)), (0, .ref (p0a 0))]) hx hb dX3_moveInCode_236 hl (by decide) rfl (fun ls hl => ?_)
            refine lv_aload_n hx hb dX3_moveInCode_238 rfl (lv_at hl 8 rfl) ?_
            refine va_get (D := (dC, dI)) (ci := 10) (v := .ref (p0a 16)) (C := RX3) (T := TX3) (N := 20) hx hb hts i_X3 hown hK hP 0 rfl rfl 15 (by decide) (hts _ qw906) (fun _ h9 => h9) rfl dX3_moveInCode_239 ?_
            refine lv_iload hx hb dX3_moveInCode_242 (lv_at hl 1 rfl) ?_
            refine lv_sipush (v := 320) hx hb dX3_moveInCode_244 (by decide) ?_
            refine lv_imul hx hb dX3_moveInCode_247 ?_
            refine lv_iload hx hb dX3_moveInCode_248 (lv_at hl 0 rfl) ?_
            refine lv_iadd hx hb dX3_moveInCode_250 ?_
            refine lv_iload hx hb dX3_moveInCode_251 (lv_at hl 2 rfl) ?_
            obtain ⟨hq31, hrun⟩ := chk9 hrun
            refine va_iast hx hb hK hP hD hS 8 7 rfl rfl (ixb_in hq31) dX3_moveInCode_253 (fun H locs hP hD hS => ?_)
            have hP : va_P (dC, dI) cls (List.flatten ([(oX3 (p0a 0) p0a p0k p0n (upw (o_23.2) 16 (nn (((((o_23.2) 0 9) - 1) * 320) + (((p0_6_1w 3) 3) (nn ((((o_23.2) 12) (nn (((o_23.2) 0 9) - 1))) - 1))))) (w9 16 (nn ((((p0w 0 9) - 1) * 320) + (((p0_6_1w 3) 4) (nn (p0w 12 (nn ((p0w 0 9) - 1)))))))))), (oX0 (p0a 7) p0_6a p0_6k p0_6n p0_6w), (oX9 (p0_6_1a 0 0) (p0_6_1a 0) (p0_6_1k 0) (p0_6_1n 0) (p0_6_1w 0)), (oX9 (p0_6_1a 1 0) (p0_6_1a 1) (p0_6_1k 1) (p0_6_1n 1) (p0_6_1w 1)), (oX9 (p0_6_1a 2 0) (p0_6_1a 2) (p0_6_1k 2) (p0_6_1n 2) (p0_6_1w 2)), (oX9 (p0_6_1a 3 0) (p0_6_1a 3) (p0_6_1k 3) (p0_6_1n 3) (p0_6_1w 3)), (oX9 (p0_6_1a 4 0) (p0_6_1a 4) (p0_6_1k 4) (p0_6_1n 4) (p0_6_1w 4)), (oX9 (p0_6_1a 5 0) (p0_6_1a 5) (p0_6_1k 5) (p0_6_1n 5) (p0_6_1w 5)), (oX6 (p0a 5) p0_4a p0_4k p0_4w p0_4l), [((p0_6a 2), .inl (p0_6_1c, 6, .inr (.inr (.inr (.inr (fun i => some (p0_6_1a i 0)))))))]] : List va_W)) H := hP
            have hD : va_D A (List.flatten ([(oX3 (p0a 0) p0a p0k p0n (upw (o_23.2) 16 (nn (((((o_23.2) 0 9) - 1) * 320) + (((p0_6_1w 3) 3) (nn ((((o_23.2) 12) (nn (((o_23.2) 0 9) - 1))) - 1))))) (w9 16 (nn ((((p0w 0 9) - 1) * 320) + (((p0_6_1w 3) 4) (nn (p0w 12 (nn ((p0w 0 9) - 1)))))))))), (oX0 (p0a 7) p0_6a p0_6k p0_6n p0_6w), (oX9 (p0_6_1a 0 0) (p0_6_1a 0) (p0_6_1k 0) (p0_6_1n 0) (p0_6_1w 0)), (oX9 (p0_6_1a 1 0) (p0_6_1a 1) (p0_6_1k 1) (p0_6_1n 1) (p0_6_1w 1)), (oX9 (p0_6_1a 2 0) (p0_6_1a 2) (p0_6_1k 2) (p0_6_1n 2) (p0_6_1w 2)), (oX9 (p0_6_1a 3 0) (p0_6_1a 3) (p0_6_1k 3) (p0_6_1n 3) (p0_6_1w 3)), (oX9 (p0_6_1a 4 0) (p0_6_1a 4) (p0_6_1k 4) (p0_6_1n 4) (p0_6_1w 4)), (oX9 (p0_6_1a 5 0) (p0_6_1a 5) (p0_6_1k 5) (p0_6_1n 5) (p0_6_1w 5)), (oX6 (p0a 5) p0_4a p0_4k p0_4w p0_4l), [((p0_6a 2), .inl (p0_6_1c, 6, .inr (.inr (.inr (.inr (fun i => some (p0_6_1a i 0)))))))]] : List va_W)) := hD
            obtain ⟨w32, ew32, hrun⟩ := let9 hrun
            rw [← ew32] at hP hD
            refine lv_goto (tgt := 353) hx hb dX3_moveInCode_254 (by decide) ?_
            exact J353 w32 _ _ _ hrun hP hD hK hS (lv_sub hl [] rfl)
          · refine W.eq (g2 := F0 m 223 ls [.ref (p0_6_1a 4 0)]) rfl ?_
            refine va_get (D := (dC, dI)) (ci := 3) (v := .ref ((p0_6_1a 4) 3)) (C := RX9) (T := TX9) (N := 6) hx hb hts i_X9 hown hK hP 44 rfl rfl 2 (by decide) (hts _ qw918) (fun _ h9 => h9) rfl dX3_moveInCode_223 ?_
            refine lv_aload_n hx hb dX3_moveInCode_226 rfl (lv_at hl 7 rfl) ?_
            refine va_get (D := (dC, dI)) (ci := 10) (v := .ref (p0a 12)) (C := RX3) (T := TX3) (N := 20) hx hb hts i_X3 hown hK hP 0 rfl rfl 11 (by decide) (hts _ qw915) (fun _ h9 => h9) rfl dX3_moveInCode_227 ?_
            refine lv_iload hx hb dX3_moveInCode_230 (lv_at hl 0 rfl) ?_
            obtain ⟨hq29, hrun⟩ := chk9 hrun
            refine va_iald hx hb hK hP 4 3 rfl rfl (ixb_in hq29) dX3_moveInCode_232 ?_
            refine lv_iconst (v := 1) hx hb dX3_moveInCode_233 (by decide) ?_
            refine lv_isub hx hb dX3_moveInCode_234 ?_
            obtain ⟨hq30, hrun⟩ := chk9 hrun
            refine va_iald hx hb hK hP 46 39 rfl rfl (ixb_in hq30) dX3_moveInCode_235 ?_
            refine lv_istore (lv' := [(8, .int (((p0_6_1w 4) 3) (nn ((((o_23.2) 12) (nn (((o_23.2) 0 9) - 1))) - 1)))), (7, .int (((o_23.2) 0 9) - 1)), (6, .int (w9 16 (nn ((((p0w 0 9) - 1) * 320) + (((p0_6_1w 3) 4) (nn (p0w 12 (nn ((p0w 0 9) - 1))))))))), (5, .int (((p0_6_1w 3) 4) (nn (p0w 12 (nn ((p0w 0 9) - 1)))))), (4, .int (((p0w 0 9) - 1) * 320)), (3, .int (p0w 12 (nn ((p0w 0 9) - 1)))), (2, .ref (p0_6_1a 3 0)), (1, .int ((p0w 0 9) - 1)), (0, .ref (p0a 0))]) hx hb dX3_moveInCode_236 hl (by decide) rfl (fun ls hl => ?_)
            refine lv_aload_n hx hb dX3_moveInCode_238 rfl (lv_at hl 8 rfl) ?_
            refine va_get (D := (dC, dI)) (ci := 10) (v := .ref (p0a 16)) (C := RX3) (T := TX3) (N := 20) hx hb hts i_X3 hown hK hP 0 rfl rfl 15 (by decide) (hts _ qw906) (fun _ h9 => h9) rfl dX3_moveInCode_239 ?_
            refine lv_iload hx hb dX3_moveInCode_242 (lv_at hl 1 rfl) ?_
            refine lv_sipush (v := 320) hx hb dX3_moveInCode_244 (by decide) ?_
            refine lv_imul hx hb dX3_moveInCode_247 ?_
            refine lv_iload hx hb dX3_moveInCode_248 (lv_at hl 0 rfl) ?_
            refine lv_iadd hx hb dX3_moveInCode_250 ?_
            refine lv_iload hx hb dX3_moveInCode_251 (lv_at hl 2 rfl) ?_
            obtain ⟨hq31, hrun⟩ := chk9 hrun
            refine va_iast hx hb hK hP hD hS 8 7 rfl rfl (ixb_in hq31) dX3_moveInCode_253 (fun H locs hP hD hS => ?_)
            have hP : va_P (dC, dI) cls (List.flatten ([(oX3 (p0a 0) p0a p0k p0n (upw (o_23.2) 16 (nn (((((o_23.2) 0 9) - 1) * 320) + (((p0_6_1w 4) 3) (nn ((((o_23.2) 12) (nn (((o_23.2) 0 9) - 1))) - 1))))) (w9 16 (nn ((((p0w 0 9) - 1) * 320) + (((p0_6_1w 3) 4) (nn (p0w 12 (nn ((p0w 0 9) - 1)))))))))), (oX0 (p0a 7) p0_6a p0_6k p0_6n p0_6w), (oX9 (p0_6_1a 0 0) (p0_6_1a 0) (p0_6_1k 0) (p0_6_1n 0) (p0_6_1w 0)), (oX9 (p0_6_1a 1 0) (p0_6_1a 1) (p0_6_1k 1) (p0_6_1n 1) (p0_6_1w 1)), (oX9 (p0_6_1a 2 0) (p0_6_1a 2) (p0_6_1k 2) (p0_6_1n 2) (p0_6_1w 2)), (oX9 (p0_6_1a 3 0) (p0_6_1a 3) (p0_6_1k 3) (p0_6_1n 3) (p0_6_1w 3)), (oX9 (p0_6_1a 4 0) (p0_6_1a 4) (p0_6_1k 4) (p0_6_1n 4) (p0_6_1w 4)), (oX9 (p0_6_1a 5 0) (p0_6_1a 5) (p0_6_1k 5) (p0_6_1n 5) (p0_6_1w 5)), (oX6 (p0a 5) p0_4a p0_4k p0_4w p0_4l), [((p0_6a 2), .inl (p0_6_1c, 6, .inr (.inr (.inr (.inr (fun i => some (p0_6_1a i 0)))))))]] : List va_W)) H := hP
            have hD : va_D A (List.flatten ([(oX3 (p0a 0) p0a p0k p0n (upw (o_23.2) 16 (nn (((((o_23.2) 0 9) - 1) * 320) + (((p0_6_1w 4) 3) (nn ((((o_23.2) 12) (nn (((o_23.2) 0 9) - 1))) - 1))))) (w9 16 (nn ((((p0w 0 9) - 1) * 320) + (((p0_6_1w 3) 4) (nn (p0w 12 (nn ((p0w 0 9) - 1)))))))))), (oX0 (p0a 7) p0_6a p0_6k p0_6n p0_6w), (oX9 (p0_6_1a 0 0) (p0_6_1a 0) (p0_6_1k 0) (p0_6_1n 0) (p0_6_1w 0)), (oX9 (p0_6_1a 1 0) (p0_6_1a 1) (p0_6_1k 1) (p0_6_1n 1) (p0_6_1w 1)), (oX9 (p0_6_1a 2 0) (p0_6_1a 2) (p0_6_1k 2) (p0_6_1n 2) (p0_6_1w 2)), (oX9 (p0_6_1a 3 0) (p0_6_1a 3) (p0_6_1k 3) (p0_6_1n 3) (p0_6_1w 3)), (oX9 (p0_6_1a 4 0) (p0_6_1a 4) (p0_6_1k 4) (p0_6_1n 4) (p0_6_1w 4)), (oX9 (p0_6_1a 5 0) (p0_6_1a 5) (p0_6_1k 5) (p0_6_1n 5) (p0_6_1w 5)), (oX6 (p0a 5) p0_4a p0_4k p0_4w p0_4l), [((p0_6a 2), .inl (p0_6_1c, 6, .inr (.inr (.inr (.inr (fun i => some (p0_6_1a i 0)))))))]] : List va_W)) := hD
            obtain ⟨w32, ew32, hrun⟩ := let9 hrun
            rw [← ew32] at hP hD
            refine lv_goto (tgt := 353) hx hb dX3_moveInCode_254 (by decide) ?_
            exact J353 w32 _ _ _ hrun hP hD hK hS (lv_sub hl [] rfl)
          · refine W.eq (g2 := F0 m 223 ls [.ref (p0_6_1a 5 0)]) rfl ?_
            refine va_get (D := (dC, dI)) (ci := 3) (v := .ref ((p0_6_1a 5) 3)) (C := RX9) (T := TX9) (N := 6) hx hb hts i_X9 hown hK hP 50 rfl rfl 2 (by decide) (hts _ qw918) (fun _ h9 => h9) rfl dX3_moveInCode_223 ?_
            refine lv_aload_n hx hb dX3_moveInCode_226 rfl (lv_at hl 7 rfl) ?_
            refine va_get (D := (dC, dI)) (ci := 10) (v := .ref (p0a 12)) (C := RX3) (T := TX3) (N := 20) hx hb hts i_X3 hown hK hP 0 rfl rfl 11 (by decide) (hts _ qw915) (fun _ h9 => h9) rfl dX3_moveInCode_227 ?_
            refine lv_iload hx hb dX3_moveInCode_230 (lv_at hl 0 rfl) ?_
            obtain ⟨hq29, hrun⟩ := chk9 hrun
            refine va_iald hx hb hK hP 4 3 rfl rfl (ixb_in hq29) dX3_moveInCode_232 ?_
            refine lv_iconst (v := 1) hx hb dX3_moveInCode_233 (by decide) ?_
            refine lv_isub hx hb dX3_moveInCode_234 ?_
            obtain ⟨hq30, hrun⟩ := chk9 hrun
            refine va_iald hx hb hK hP 52 44 rfl rfl (ixb_in hq30) dX3_moveInCode_235 ?_
            refine lv_istore (lv' := [(8, .int (((p0_6_1w 5) 3) (nn ((((o_23.2) 12) (nn (((o_23.2) 0 9) - 1))) - 1)))), (7, .int (((o_23.2) 0 9) - 1)), (6, .int (w9 16 (nn ((((p0w 0 9) - 1) * 320) + (((p0_6_1w 3) 4) (nn (p0w 12 (nn ((p0w 0 9) - 1))))))))), (5, .int (((p0_6_1w 3) 4) (nn (p0w 12 (nn ((p0w 0 9) - 1)))))), (4, .int (((p0w 0 9) - 1) * 320)), (3, .int (p0w 12 (nn ((p0w 0 9) - 1)))), (2, .ref (p0_6_1a 3 0)), (1, .int ((p0w 0 9) - 1)), (0, .ref (p0a 0))]) hx hb dX3_moveInCode_236 hl (by decide) rfl (fun ls hl => ?_)
            refine lv_aload_n hx hb dX3_moveInCode_238 rfl (lv_at hl 8 rfl) ?_
            refine va_get (D := (dC, dI)) (ci := 10) (v := .ref (p0a 16)) (C := RX3) (T := TX3) (N := 20) hx hb hts i_X3 hown hK hP 0 rfl rfl 15 (by decide) (hts _ qw906) (fun _ h9 => h9) rfl dX3_moveInCode_239 ?_
            refine lv_iload hx hb dX3_moveInCode_242 (lv_at hl 1 rfl) ?_
            refine lv_sipush (v := 320) hx hb dX3_moveInCode_244 (by decide) ?_
            refine lv_imul hx hb dX3_moveInCode_247 ?_
            refine lv_iload hx hb dX3_moveInCode_248 (lv_at hl 0 rfl) ?_
            refine lv_iadd hx hb dX3_moveInCode_250 ?_
            refine lv_iload hx hb dX3_moveInCode_251 (lv_at hl 2 rfl) ?_
            obtain ⟨hq31, hrun⟩ := chk9 hrun
            refine va_iast hx hb hK hP hD hS 8 7 rfl rfl (ixb_in hq31) dX3_moveInCode_253 (fun H locs hP hD hS => ?_)
            have hP : va_P (dC, dI) cls (List.flatten ([(oX3 (p0a 0) p0a p0k p0n (upw (o_23.2) 16 (nn (((((o_23.2) 0 9) - 1) * 320) + (((p0_6_1w 5) 3) (nn ((((o_23.2) 12) (nn (((o_23.2) 0 9) - 1))) - 1))))) (w9 16 (nn ((((p0w 0 9) - 1) * 320) + (((p0_6_1w 3) 4) (nn (p0w 12 (nn ((p0w 0 9) - 1)))))))))), (oX0 (p0a 7) p0_6a p0_6k p0_6n p0_6w), (oX9 (p0_6_1a 0 0) (p0_6_1a 0) (p0_6_1k 0) (p0_6_1n 0) (p0_6_1w 0)), (oX9 (p0_6_1a 1 0) (p0_6_1a 1) (p0_6_1k 1) (p0_6_1n 1) (p0_6_1w 1)), (oX9 (p0_6_1a 2 0) (p0_6_1a 2) (p0_6_1k 2) (p0_6_1n 2) (p0_6_1w 2)), (oX9 (p0_6_1a 3 0) (p0_6_1a 3) (p0_6_1k 3) (p0_6_1n 3) (p0_6_1w 3)), (oX9 (p0_6_1a 4 0) (p0_6_1a 4) (p0_6_1k 4) (p0_6_1n 4) (p0_6_1w 4)), (oX9 (p0_6_1a 5 0) (p0_6_1a 5) (p0_6_1k 5) (p0_6_1n 5) (p0_6_1w 5)), (oX6 (p0a 5) p0_4a p0_4k p0_4w p0_4l), [((p0_6a 2), .inl (p0_6_1c, 6, .inr (.inr (.inr (.inr (fun i => some (p0_6_1a i 0)))))))]] : List va_W)) H := hP
            have hD : va_D A (List.flatten ([(oX3 (p0a 0) p0a p0k p0n (upw (o_23.2) 16 (nn (((((o_23.2) 0 9) - 1) * 320) + (((p0_6_1w 5) 3) (nn ((((o_23.2) 12) (nn (((o_23.2) 0 9) - 1))) - 1))))) (w9 16 (nn ((((p0w 0 9) - 1) * 320) + (((p0_6_1w 3) 4) (nn (p0w 12 (nn ((p0w 0 9) - 1)))))))))), (oX0 (p0a 7) p0_6a p0_6k p0_6n p0_6w), (oX9 (p0_6_1a 0 0) (p0_6_1a 0) (p0_6_1k 0) (p0_6_1n 0) (p0_6_1w 0)), (oX9 (p0_6_1a 1 0) (p0_6_1a 1) (p0_6_1k 1) (p0_6_1n 1) (p0_6_1w 1)), (oX9 (p0_6_1a 2 0) (p0_6_1a 2) (p0_6_1k 2) (p0_6_1n 2) (p0_6_1w 2)), (oX9 (p0_6_1a 3 0) (p0_6_1a 3) (p0_6_1k 3) (p0_6_1n 3) (p0_6_1w 3)), (oX9 (p0_6_1a 4 0) (p0_6_1a 4) (p0_6_1k 4) (p0_6_1n 4) (p0_6_1w 4)), (oX9 (p0_6_1a 5 0) (p0_6_1a 5) (p0_6_1k 5) (p0_6_1n 5) (p0_6_1w 5)), (oX6 (p0a 5) p0_4a p0_4k p0_4w p0_4l), [((p0_6a 2), .inl (p0_6_1c, 6, .inr (.inr (.inr (.inr (fun i => some (p0_6_1a i 0)))))))]] : List va_W)) := hD
            obtain ⟨w32, ew32, hrun⟩ := let9 hrun
            rw [← ew32] at hP hD
            refine lv_goto (tgt := 353) hx hb dX3_moveInCode_254 (by decide) ?_
            exact J353 w32 _ _ _ hrun hP hD hK hS (lv_sub hl [] rfl)
      rcases br9 hrun with ⟨hc33, hrun⟩ | ⟨hc33, hrun⟩
      · refine lv_tableIn (off := 189) (tgt := 257) hx hb dX3_moveInCode_68 (by rw [hc33]; decide) (by rw [hc33]; decide) (by rw [hc33]; rfl) (by decide) ?_
        refine lv_aload_n hx hb dX3_moveInCode_257 rfl (lv_at hl 5 rfl) ?_
        refine va_get (D := (dC, dI)) (ci := 10) (v := .ref (p0a 16)) (C := RX3) (T := TX3) (N := 20) hx hb hts i_X3 hown hK hP 0 rfl rfl 15 (by decide) (hts _ qw906) (fun _ h9 => h9) rfl dX3_moveInCode_258 ?_
        refine lv_iload hx hb dX3_moveInCode_261 (lv_at hl 1 rfl) ?_
        refine lv_aload_n hx hb dX3_moveInCode_263 rfl (lv_at hl 3 rfl) ?_
        refine va_get (D := (dC, dI)) (ci := 3) (v := .ref ((p0_6_1a 3) 3)) (C := RX9) (T := TX9) (N := 6) hx hb hts i_X9 hown hK hP 38 rfl rfl 2 (by decide) (hts _ qw918) (fun _ h9 => h9) rfl dX3_moveInCode_264 ?_
        refine lv_iload_n hx hb dX3_moveInCode_267 rfl (lv_at hl 2 rfl) ?_
        obtain ⟨hq34, hrun⟩ := chk9 hrun
        refine va_iald hx hb hK hP 40 34 rfl rfl (ixb_in hq34) dX3_moveInCode_268 ?_
        refine lv_iadd hx hb dX3_moveInCode_269 ?_
        refine lv_aload_n hx hb dX3_moveInCode_270 rfl (lv_at hl 5 rfl) ?_
        refine va_get (D := (dC, dI)) (ci := 10) (v := .ref (p0a 16)) (C := RX3) (T := TX3) (N := 20) hx hb hts i_X3 hown hK hP 0 rfl rfl 15 (by decide) (hts _ qw906) (fun _ h9 => h9) rfl dX3_moveInCode_271 ?_
        refine lv_iload hx hb dX3_moveInCode_274 (lv_at hl 1 rfl) ?_
        refine lv_iload hx hb dX3_moveInCode_276 (lv_at hl 0 rfl) ?_
        refine lv_iadd hx hb dX3_moveInCode_278 ?_
        obtain ⟨hq35, hrun⟩ := chk9 hrun
        refine va_iald hx hb hK hP 8 7 rfl rfl (ixb_in hq35) dX3_moveInCode_279 ?_
        obtain ⟨hq36, hrun⟩ := chk9 hrun
        refine va_iast hx hb hK hP hD hS 8 7 rfl rfl (ixb_in hq36) dX3_moveInCode_280 (fun H locs hP hD hS => ?_)
        have hP : va_P (dC, dI) cls (List.flatten ([(oX3 (p0a 0) p0a p0k p0n (upw w9 16 (nn ((((p0w 0 9) - 1) * 320) + (((p0_6_1w 3) 3) (nn (p0w 12 (nn ((p0w 0 9) - 1))))))) (w9 16 (nn ((((p0w 0 9) - 1) * 320) + (((p0_6_1w 3) 4) (nn (p0w 12 (nn ((p0w 0 9) - 1)))))))))), (oX0 (p0a 7) p0_6a p0_6k p0_6n p0_6w), (oX9 (p0_6_1a 0 0) (p0_6_1a 0) (p0_6_1k 0) (p0_6_1n 0) (p0_6_1w 0)), (oX9 (p0_6_1a 1 0) (p0_6_1a 1) (p0_6_1k 1) (p0_6_1n 1) (p0_6_1w 1)), (oX9 (p0_6_1a 2 0) (p0_6_1a 2) (p0_6_1k 2) (p0_6_1n 2) (p0_6_1w 2)), (oX9 (p0_6_1a 3 0) (p0_6_1a 3) (p0_6_1k 3) (p0_6_1n 3) (p0_6_1w 3)), (oX9 (p0_6_1a 4 0) (p0_6_1a 4) (p0_6_1k 4) (p0_6_1n 4) (p0_6_1w 4)), (oX9 (p0_6_1a 5 0) (p0_6_1a 5) (p0_6_1k 5) (p0_6_1n 5) (p0_6_1w 5)), (oX6 (p0a 5) p0_4a p0_4k p0_4w p0_4l), [((p0_6a 2), .inl (p0_6_1c, 6, .inr (.inr (.inr (.inr (fun i => some (p0_6_1a i 0)))))))]] : List va_W)) H := hP
        have hD : va_D A (List.flatten ([(oX3 (p0a 0) p0a p0k p0n (upw w9 16 (nn ((((p0w 0 9) - 1) * 320) + (((p0_6_1w 3) 3) (nn (p0w 12 (nn ((p0w 0 9) - 1))))))) (w9 16 (nn ((((p0w 0 9) - 1) * 320) + (((p0_6_1w 3) 4) (nn (p0w 12 (nn ((p0w 0 9) - 1)))))))))), (oX0 (p0a 7) p0_6a p0_6k p0_6n p0_6w), (oX9 (p0_6_1a 0 0) (p0_6_1a 0) (p0_6_1k 0) (p0_6_1n 0) (p0_6_1w 0)), (oX9 (p0_6_1a 1 0) (p0_6_1a 1) (p0_6_1k 1) (p0_6_1n 1) (p0_6_1w 1)), (oX9 (p0_6_1a 2 0) (p0_6_1a 2) (p0_6_1k 2) (p0_6_1n 2) (p0_6_1w 2)), (oX9 (p0_6_1a 3 0) (p0_6_1a 3) (p0_6_1k 3) (p0_6_1n 3) (p0_6_1w 3)), (oX9 (p0_6_1a 4 0) (p0_6_1a 4) (p0_6_1k 4) (p0_6_1n 4) (p0_6_1w 4)), (oX9 (p0_6_1a 5 0) (p0_6_1a 5) (p0_6_1k 5) (p0_6_1n 5) (p0_6_1w 5)), (oX6 (p0a 5) p0_4a p0_4k p0_4w p0_4l), [((p0_6a 2), .inl (p0_6_1c, 6, .inr (.inr (.inr (.inr (fun i => some (p0_6_1a i 0)))))))]] : List va_W)) := hD
        obtain ⟨w37, ew37, hrun⟩ := let9 hrun
        rw [← ew37] at hP hD
        refine lv_goto (tgt := 353) hx hb dX3_moveInCode_281 (by decide) ?_
        exact J353 w37 _ _ _ hrun hP hD hK hS (lv_sub hl [] rfl)
      rcases br9 hrun with ⟨hc38, hrun⟩ | ⟨hc38, hrun⟩
      · refine lv_tableIn (off := 216) (tgt := 284) hx hb dX3_moveInCode_68 (by rw [hc38]; decide) (by rw [hc38]; decide) (by rw [hc38]; rfl) (by decide) ?_
        refine lv_aload_n hx hb dX3_moveInCode_284 rfl (lv_at hl 5 rfl) ?_
        refine va_get (D := (dC, dI)) (ci := 10) (v := .ref (p0a 16)) (C := RX3) (T := TX3) (N := 20) hx hb hts i_X3 hown hK hP 0 rfl rfl 15 (by decide) (hts _ qw906) (fun _ h9 => h9) rfl dX3_moveInCode_285 ?_
        refine lv_iload hx hb dX3_moveInCode_288 (lv_at hl 1 rfl) ?_
        refine lv_aload_n hx hb dX3_moveInCode_290 rfl (lv_at hl 3 rfl) ?_
        refine va_get (D := (dC, dI)) (ci := 3) (v := .ref ((p0_6_1a 3) 3)) (C := RX9) (T := TX9) (N := 6) hx hb hts i_X9 hown hK hP 38 rfl rfl 2 (by decide) (hts _ qw918) (fun _ h9 => h9) rfl dX3_moveInCode_291 ?_
        refine lv_iload_n hx hb dX3_moveInCode_294 rfl (lv_at hl 2 rfl) ?_
        obtain ⟨hq39, hrun⟩ := chk9 hrun
        refine va_iald hx hb hK hP 40 34 rfl rfl (ixb_in hq39) dX3_moveInCode_295 ?_
        refine lv_iadd hx hb dX3_moveInCode_296 ?_
        refine lv_aload_n hx hb dX3_moveInCode_297 rfl (lv_at hl 5 rfl) ?_
        refine va_get (D := (dC, dI)) (ci := 10) (v := .ref (p0a 17)) (C := RX3) (T := TX3) (N := 20) hx hb hts i_X3 hown hK hP 0 rfl rfl 16 (by decide) (hts _ qw935) (fun _ h9 => h9) rfl dX3_moveInCode_298 ?_
        refine lv_iload_n hx hb dX3_moveInCode_301 rfl (lv_at hl 4 rfl) ?_
        refine lv_aload_n hx hb dX3_moveInCode_302 rfl (lv_at hl 5 rfl) ?_
        refine va_get (D := (dC, dI)) (ci := 10) (v := .int (w9 0 17)) (C := RX3) (T := TX3) (N := 20) hx hb hts i_X3 hown hK hP 0 rfl rfl 17 (by decide) (hts _ qw936) (fun _ h9 => h9) rfl dX3_moveInCode_303 ?_
        refine lv_imul hx hb dX3_moveInCode_306 ?_
        refine lv_iload hx hb dX3_moveInCode_307 (lv_at hl 0 rfl) ?_
        refine lv_iadd hx hb dX3_moveInCode_309 ?_
        obtain ⟨hq40, hrun⟩ := chk9 hrun
        refine va_iald hx hb hK hP 9 8 rfl rfl (ixb_in hq40) dX3_moveInCode_310 ?_
        obtain ⟨hq41, hrun⟩ := chk9 hrun
        refine va_iast hx hb hK hP hD hS 8 7 rfl rfl (ixb_in hq41) dX3_moveInCode_311 (fun H locs hP hD hS => ?_)
        have hP : va_P (dC, dI) cls (List.flatten ([(oX3 (p0a 0) p0a p0k p0n (upw w9 16 (nn ((((p0w 0 9) - 1) * 320) + (((p0_6_1w 3) 3) (nn (p0w 12 (nn ((p0w 0 9) - 1))))))) (w9 17 (nn ((((p0w 0 9) - 1) * (w9 0 17)) + (((p0_6_1w 3) 4) (nn (p0w 12 (nn ((p0w 0 9) - 1)))))))))), (oX0 (p0a 7) p0_6a p0_6k p0_6n p0_6w), (oX9 (p0_6_1a 0 0) (p0_6_1a 0) (p0_6_1k 0) (p0_6_1n 0) (p0_6_1w 0)), (oX9 (p0_6_1a 1 0) (p0_6_1a 1) (p0_6_1k 1) (p0_6_1n 1) (p0_6_1w 1)), (oX9 (p0_6_1a 2 0) (p0_6_1a 2) (p0_6_1k 2) (p0_6_1n 2) (p0_6_1w 2)), (oX9 (p0_6_1a 3 0) (p0_6_1a 3) (p0_6_1k 3) (p0_6_1n 3) (p0_6_1w 3)), (oX9 (p0_6_1a 4 0) (p0_6_1a 4) (p0_6_1k 4) (p0_6_1n 4) (p0_6_1w 4)), (oX9 (p0_6_1a 5 0) (p0_6_1a 5) (p0_6_1k 5) (p0_6_1n 5) (p0_6_1w 5)), (oX6 (p0a 5) p0_4a p0_4k p0_4w p0_4l), [((p0_6a 2), .inl (p0_6_1c, 6, .inr (.inr (.inr (.inr (fun i => some (p0_6_1a i 0)))))))]] : List va_W)) H := hP
        have hD : va_D A (List.flatten ([(oX3 (p0a 0) p0a p0k p0n (upw w9 16 (nn ((((p0w 0 9) - 1) * 320) + (((p0_6_1w 3) 3) (nn (p0w 12 (nn ((p0w 0 9) - 1))))))) (w9 17 (nn ((((p0w 0 9) - 1) * (w9 0 17)) + (((p0_6_1w 3) 4) (nn (p0w 12 (nn ((p0w 0 9) - 1)))))))))), (oX0 (p0a 7) p0_6a p0_6k p0_6n p0_6w), (oX9 (p0_6_1a 0 0) (p0_6_1a 0) (p0_6_1k 0) (p0_6_1n 0) (p0_6_1w 0)), (oX9 (p0_6_1a 1 0) (p0_6_1a 1) (p0_6_1k 1) (p0_6_1n 1) (p0_6_1w 1)), (oX9 (p0_6_1a 2 0) (p0_6_1a 2) (p0_6_1k 2) (p0_6_1n 2) (p0_6_1w 2)), (oX9 (p0_6_1a 3 0) (p0_6_1a 3) (p0_6_1k 3) (p0_6_1n 3) (p0_6_1w 3)), (oX9 (p0_6_1a 4 0) (p0_6_1a 4) (p0_6_1k 4) (p0_6_1n 4) (p0_6_1w 4)), (oX9 (p0_6_1a 5 0) (p0_6_1a 5) (p0_6_1k 5) (p0_6_1n 5) (p0_6_1w 5)), (oX6 (p0a 5) p0_4a p0_4k p0_4w p0_4l), [((p0_6a 2), .inl (p0_6_1c, 6, .inr (.inr (.inr (.inr (fun i => some (p0_6_1a i 0)))))))]] : List va_W)) := hD
        obtain ⟨w42, ew42, hrun⟩ := let9 hrun
        rw [← ew42] at hP hD
        refine lv_goto (tgt := 353) hx hb dX3_moveInCode_312 (by decide) ?_
        exact J353 w42 _ _ _ hrun hP hD hK hS (lv_sub hl [] rfl)
      rcases br9 hrun with ⟨hc43, hrun⟩ | ⟨hc43, hrun⟩
      · refine lv_tableIn (off := 247) (tgt := 315) hx hb dX3_moveInCode_68 (by rw [hc43]; decide) (by rw [hc43]; decide) (by rw [hc43]; rfl) (by decide) ?_
        refine lv_aload_n hx hb dX3_moveInCode_315 rfl (lv_at hl 5 rfl) ?_
        refine va_get (D := (dC, dI)) (ci := 10) (v := .ref (p0a 17)) (C := RX3) (T := TX3) (N := 20) hx hb hts i_X3 hown hK hP 0 rfl rfl 16 (by decide) (hts _ qw935) (fun _ h9 => h9) rfl dX3_moveInCode_316 ?_
        refine lv_iload_n hx hb dX3_moveInCode_319 rfl (lv_at hl 4 rfl) ?_
        refine lv_aload_n hx hb dX3_moveInCode_320 rfl (lv_at hl 5 rfl) ?_
        refine va_get (D := (dC, dI)) (ci := 10) (v := .int (w9 0 17)) (C := RX3) (T := TX3) (N := 20) hx hb hts i_X3 hown hK hP 0 rfl rfl 17 (by decide) (hts _ qw936) (fun _ h9 => h9) rfl dX3_moveInCode_321 ?_
        refine lv_imul hx hb dX3_moveInCode_324 ?_
        refine lv_aload_n hx hb dX3_moveInCode_325 rfl (lv_at hl 3 rfl) ?_
        refine va_get (D := (dC, dI)) (ci := 3) (v := .ref ((p0_6_1a 3) 5)) (C := RX9) (T := TX9) (N := 6) hx hb hts i_X9 hown hK hP 38 rfl rfl 4 (by decide) (hts _ qw967) (fun _ h9 => h9) rfl dX3_moveInCode_326 ?_
        refine lv_iload_n hx hb dX3_moveInCode_329 rfl (lv_at hl 2 rfl) ?_
        obtain ⟨hq44, hrun⟩ := chk9 hrun
        refine va_iald hx hb hK hP 42 36 rfl rfl (ixb_in hq44) dX3_moveInCode_330 ?_
        refine lv_iadd hx hb dX3_moveInCode_331 ?_
        refine lv_aload_n hx hb dX3_moveInCode_332 rfl (lv_at hl 5 rfl) ?_
        refine va_get (D := (dC, dI)) (ci := 10) (v := .ref (p0a 16)) (C := RX3) (T := TX3) (N := 20) hx hb hts i_X3 hown hK hP 0 rfl rfl 15 (by decide) (hts _ qw906) (fun _ h9 => h9) rfl dX3_moveInCode_333 ?_
        refine lv_iload hx hb dX3_moveInCode_336 (lv_at hl 1 rfl) ?_
        refine lv_iload hx hb dX3_moveInCode_338 (lv_at hl 0 rfl) ?_
        refine lv_iadd hx hb dX3_moveInCode_340 ?_
        obtain ⟨hq45, hrun⟩ := chk9 hrun
        refine va_iald hx hb hK hP 8 7 rfl rfl (ixb_in hq45) dX3_moveInCode_341 ?_
        obtain ⟨hq46, hrun⟩ := chk9 hrun
        refine va_iast hx hb hK hP hD hS 9 8 rfl rfl (ixb_in hq46) dX3_moveInCode_342 (fun H locs hP hD hS => ?_)
        have hP : va_P (dC, dI) cls (List.flatten ([(oX3 (p0a 0) p0a p0k p0n (upw w9 17 (nn ((((p0w 0 9) - 1) * (w9 0 17)) + (((p0_6_1w 3) 5) (nn (p0w 12 (nn ((p0w 0 9) - 1))))))) (w9 16 (nn ((((p0w 0 9) - 1) * 320) + (((p0_6_1w 3) 4) (nn (p0w 12 (nn ((p0w 0 9) - 1)))))))))), (oX0 (p0a 7) p0_6a p0_6k p0_6n p0_6w), (oX9 (p0_6_1a 0 0) (p0_6_1a 0) (p0_6_1k 0) (p0_6_1n 0) (p0_6_1w 0)), (oX9 (p0_6_1a 1 0) (p0_6_1a 1) (p0_6_1k 1) (p0_6_1n 1) (p0_6_1w 1)), (oX9 (p0_6_1a 2 0) (p0_6_1a 2) (p0_6_1k 2) (p0_6_1n 2) (p0_6_1w 2)), (oX9 (p0_6_1a 3 0) (p0_6_1a 3) (p0_6_1k 3) (p0_6_1n 3) (p0_6_1w 3)), (oX9 (p0_6_1a 4 0) (p0_6_1a 4) (p0_6_1k 4) (p0_6_1n 4) (p0_6_1w 4)), (oX9 (p0_6_1a 5 0) (p0_6_1a 5) (p0_6_1k 5) (p0_6_1n 5) (p0_6_1w 5)), (oX6 (p0a 5) p0_4a p0_4k p0_4w p0_4l), [((p0_6a 2), .inl (p0_6_1c, 6, .inr (.inr (.inr (.inr (fun i => some (p0_6_1a i 0)))))))]] : List va_W)) H := hP
        have hD : va_D A (List.flatten ([(oX3 (p0a 0) p0a p0k p0n (upw w9 17 (nn ((((p0w 0 9) - 1) * (w9 0 17)) + (((p0_6_1w 3) 5) (nn (p0w 12 (nn ((p0w 0 9) - 1))))))) (w9 16 (nn ((((p0w 0 9) - 1) * 320) + (((p0_6_1w 3) 4) (nn (p0w 12 (nn ((p0w 0 9) - 1)))))))))), (oX0 (p0a 7) p0_6a p0_6k p0_6n p0_6w), (oX9 (p0_6_1a 0 0) (p0_6_1a 0) (p0_6_1k 0) (p0_6_1n 0) (p0_6_1w 0)), (oX9 (p0_6_1a 1 0) (p0_6_1a 1) (p0_6_1k 1) (p0_6_1n 1) (p0_6_1w 1)), (oX9 (p0_6_1a 2 0) (p0_6_1a 2) (p0_6_1k 2) (p0_6_1n 2) (p0_6_1w 2)), (oX9 (p0_6_1a 3 0) (p0_6_1a 3) (p0_6_1k 3) (p0_6_1n 3) (p0_6_1w 3)), (oX9 (p0_6_1a 4 0) (p0_6_1a 4) (p0_6_1k 4) (p0_6_1n 4) (p0_6_1w 4)), (oX9 (p0_6_1a 5 0) (p0_6_1a 5) (p0_6_1k 5) (p0_6_1n 5) (p0_6_1w 5)), (oX6 (p0a 5) p0_4a p0_4k p0_4w p0_4l), [((p0_6a 2), .inl (p0_6_1c, 6, .inr (.inr (.inr (.inr (fun i => some (p0_6_1a i 0)))))))]] : List va_W)) := hD
        obtain ⟨w47, ew47, hrun⟩ := let9 hrun
        rw [← ew47] at hP hD
        refine lv_goto (tgt := 353) hx hb dX3_moveInCode_343 (by decide) ?_
        exact J353 w47 _ _ _ hrun hP hD hK hS (lv_sub hl [] rfl)
      rcases br9 hrun with ⟨hc48, hrun⟩ | ⟨hc48, hrun⟩
      · refine lv_tableIn (off := 83) (tgt := 151) hx hb dX3_moveInCode_68 (by rw [hc48]; decide) (by rw [hc48]; decide) (by rw [hc48]; rfl) (by decide) ?_
        refine lv_aload_n hx hb dX3_moveInCode_151 rfl (lv_at hl 5 rfl) ?_
        refine va_get (D := (dC, dI)) (ci := 10) (v := .ref (p0a 16)) (C := RX3) (T := TX3) (N := 20) hx hb hts i_X3 hown hK hP 0 rfl rfl 15 (by decide) (hts _ qw906) (fun _ h9 => h9) rfl dX3_moveInCode_152 ?_
        refine lv_iload hx hb dX3_moveInCode_155 (lv_at hl 1 rfl) ?_
        refine lv_iload hx hb dX3_moveInCode_157 (lv_at hl 0 rfl) ?_
        refine lv_iadd hx hb dX3_moveInCode_159 ?_
        obtain ⟨hq49, hrun⟩ := chk9 hrun
        refine va_iald hx hb hK hP 8 7 rfl rfl (ixb_in hq49) dX3_moveInCode_160 ?_
        rcases br9 hrun with ⟨hc50, hrun⟩ | ⟨hc50, hrun⟩
        · refine lv_if_ne (tgt := 353) hx hb dX3_moveInCode_161 (by decide) (fun c => absurd hc50 c) (fun _ => ?_)
          refine lv_aload_n hx hb dX3_moveInCode_164 rfl (lv_at hl 5 rfl) ?_
          refine va_get (D := (dC, dI)) (ci := 10) (v := .ref (p0a 12)) (C := RX3) (T := TX3) (N := 20) hx hb hts i_X3 hown hK hP 0 rfl rfl 11 (by decide) (hts _ qw915) (fun _ h9 => h9) rfl dX3_moveInCode_165 ?_
          refine lv_iload_n hx hb dX3_moveInCode_168 rfl (lv_at hl 4 rfl) ?_
          refine lv_aload_n hx hb dX3_moveInCode_169 rfl (lv_at hl 3 rfl) ?_
          refine va_get (D := (dC, dI)) (ci := 3) (v := .ref ((p0_6_1a 3) 5)) (C := RX9) (T := TX9) (N := 6) hx hb hts i_X9 hown hK hP 38 rfl rfl 4 (by decide) (hts _ qw967) (fun _ h9 => h9) rfl dX3_moveInCode_170 ?_
          refine lv_iload_n hx hb dX3_moveInCode_173 rfl (lv_at hl 2 rfl) ?_
          obtain ⟨hq51, hrun⟩ := chk9 hrun
          refine va_iald hx hb hK hP 42 36 rfl rfl (ixb_in hq51) dX3_moveInCode_174 ?_
          obtain ⟨hq52, hrun⟩ := chk9 hrun
          refine va_iast hx hb hK hP hD hS 4 3 rfl rfl (ixb_in hq52) dX3_moveInCode_175 (fun H locs hP hD hS => ?_)
          have hP : va_P (dC, dI) cls (List.flatten ([(oX3 (p0a 0) p0a p0k p0n (upw w9 12 (nn ((p0w 0 9) - 1)) (((p0_6_1w 3) 5) (nn (p0w 12 (nn ((p0w 0 9) - 1))))))), (oX0 (p0a 7) p0_6a p0_6k p0_6n p0_6w), (oX9 (p0_6_1a 0 0) (p0_6_1a 0) (p0_6_1k 0) (p0_6_1n 0) (p0_6_1w 0)), (oX9 (p0_6_1a 1 0) (p0_6_1a 1) (p0_6_1k 1) (p0_6_1n 1) (p0_6_1w 1)), (oX9 (p0_6_1a 2 0) (p0_6_1a 2) (p0_6_1k 2) (p0_6_1n 2) (p0_6_1w 2)), (oX9 (p0_6_1a 3 0) (p0_6_1a 3) (p0_6_1k 3) (p0_6_1n 3) (p0_6_1w 3)), (oX9 (p0_6_1a 4 0) (p0_6_1a 4) (p0_6_1k 4) (p0_6_1n 4) (p0_6_1w 4)), (oX9 (p0_6_1a 5 0) (p0_6_1a 5) (p0_6_1k 5) (p0_6_1n 5) (p0_6_1w 5)), (oX6 (p0a 5) p0_4a p0_4k p0_4w p0_4l), [((p0_6a 2), .inl (p0_6_1c, 6, .inr (.inr (.inr (.inr (fun i => some (p0_6_1a i 0)))))))]] : List va_W)) H := hP
          have hD : va_D A (List.flatten ([(oX3 (p0a 0) p0a p0k p0n (upw w9 12 (nn ((p0w 0 9) - 1)) (((p0_6_1w 3) 5) (nn (p0w 12 (nn ((p0w 0 9) - 1))))))), (oX0 (p0a 7) p0_6a p0_6k p0_6n p0_6w), (oX9 (p0_6_1a 0 0) (p0_6_1a 0) (p0_6_1k 0) (p0_6_1n 0) (p0_6_1w 0)), (oX9 (p0_6_1a 1 0) (p0_6_1a 1) (p0_6_1k 1) (p0_6_1n 1) (p0_6_1w 1)), (oX9 (p0_6_1a 2 0) (p0_6_1a 2) (p0_6_1k 2) (p0_6_1n 2) (p0_6_1w 2)), (oX9 (p0_6_1a 3 0) (p0_6_1a 3) (p0_6_1k 3) (p0_6_1n 3) (p0_6_1w 3)), (oX9 (p0_6_1a 4 0) (p0_6_1a 4) (p0_6_1k 4) (p0_6_1n 4) (p0_6_1w 4)), (oX9 (p0_6_1a 5 0) (p0_6_1a 5) (p0_6_1k 5) (p0_6_1n 5) (p0_6_1w 5)), (oX6 (p0a 5) p0_4a p0_4k p0_4w p0_4l), [((p0_6a 2), .inl (p0_6_1c, 6, .inr (.inr (.inr (.inr (fun i => some (p0_6_1a i 0)))))))]] : List va_W)) := hD
          obtain ⟨w53, ew53, hrun⟩ := let9 hrun
          rw [← ew53] at hP hD
          refine lv_goto (tgt := 353) hx hb dX3_moveInCode_176 (by decide) ?_
          exact J353 w53 _ _ _ hrun hP hD hK hS (lv_sub hl [] rfl)
        · refine lv_if_ne (tgt := 353) hx hb dX3_moveInCode_161 (by decide) (fun _ => ?_) (fun c => absurd c hc50)
          exact J353 w9 _ _ _ hrun hP hD hK hS (lv_sub hl [] rfl)
      refine lv_tableOut (tgt := 346) hx hb dX3_moveInCode_68 (show Int32.toInt (((p0_6_1w 3) 2) (nn (p0w 12 (nn ((p0w 0 9) - 1))))) < 22 ∨ (28 : Int) < Int32.toInt (((p0_6_1w 3) 2) (nn (p0w 12 (nn ((p0w 0 9) - 1))))) from by have g0 := lv_neT hc12 (show Int32.toInt 22 = 22 by decide); have g1 := lv_neT hc15 (show Int32.toInt 23 = 23 by decide); have g2 := lv_neT hc21 (show Int32.toInt 24 = 24 by decide); have g3 := lv_neT hc33 (show Int32.toInt 25 = 25 by decide); have g4 := lv_neT hc38 (show Int32.toInt 26 = 26 by decide); have g5 := lv_neT hc43 (show Int32.toInt 27 = 27 by decide); have g6 := lv_neT hc48 (show Int32.toInt 28 = 28 by decide); omega) (by decide) ?_
      refine lv_aload_n hx hb dX3_moveInCode_346 rfl (lv_at hl 5 rfl) ?_
      refine lv_aload_n hx hb dX3_moveInCode_347 rfl (lv_at hl 3 rfl) ?_
      refine lv_iload_n hx hb dX3_moveInCode_348 rfl (lv_at hl 4 rfl) ?_
      refine lv_iload_n hx hb dX3_moveInCode_349 rfl (lv_at hl 2 rfl) ?_
      obtain ⟨o_54, hc_54, hrun⟩ := bnd9 hrun
      have hPx : va_P (dC, dI) cls ((List.flatten ([(oX3 (p0a 0) p0a p0k p0n w9), (oX9 (p0_6_1a 3 0) (p0_6_1a 3) (p0_6_1k 3) (p0_6_1n 3) (p0_6_1w 3)), (oX6 (p0a 5) p0_4a p0_4k p0_4w p0_4l)] : List va_W)) ++ (List.flatten ([(oX0 (p0a 7) p0_6a p0_6k p0_6n p0_6w), (oX9 (p0_6_1a 0 0) (p0_6_1a 0) (p0_6_1k 0) (p0_6_1n 0) (p0_6_1w 0)), (oX9 (p0_6_1a 1 0) (p0_6_1a 1) (p0_6_1k 1) (p0_6_1n 1) (p0_6_1w 1)), (oX9 (p0_6_1a 2 0) (p0_6_1a 2) (p0_6_1k 2) (p0_6_1n 2) (p0_6_1w 2)), (oX9 (p0_6_1a 4 0) (p0_6_1a 4) (p0_6_1k 4) (p0_6_1n 4) (p0_6_1w 4)), (oX9 (p0_6_1a 5 0) (p0_6_1a 5) (p0_6_1k 5) (p0_6_1n 5) (p0_6_1w 5)), [((p0_6a 2), .inl (p0_6_1c, 6, .inr (.inr (.inr (.inr (fun i => some (p0_6_1a i 0)))))))]] : List va_W))) H := vP_fa (vP_perm hP (bP (((List.Perm.refl _)).trans (((((((((((((((((List.Perm.refl _)).cons _).trans (List.Perm.swap _ _ _))).cons _).trans (List.Perm.swap _ _ _))).cons _).trans (List.Perm.swap _ _ _))).cons _).trans (List.Perm.swap _ _ _))).trans (((((((((((((((((((((List.Perm.refl _)).cons _).trans (List.Perm.swap _ _ _))).cons _).trans (List.Perm.swap _ _ _))).cons _).trans (List.Perm.swap _ _ _))).cons _).trans (List.Perm.swap _ _ _))).cons _).trans (List.Perm.swap _ _ _))).cons _).trans (List.Perm.swap _ _ _))).cons _))).cons _))))
      have hDx : va_D A ((List.flatten ([(oX3 (p0a 0) p0a p0k p0n w9), (oX9 (p0_6_1a 3 0) (p0_6_1a 3) (p0_6_1k 3) (p0_6_1n 3) (p0_6_1w 3)), (oX6 (p0a 5) p0_4a p0_4k p0_4w p0_4l)] : List va_W)) ++ (List.flatten ([(oX0 (p0a 7) p0_6a p0_6k p0_6n p0_6w), (oX9 (p0_6_1a 0 0) (p0_6_1a 0) (p0_6_1k 0) (p0_6_1n 0) (p0_6_1w 0)), (oX9 (p0_6_1a 1 0) (p0_6_1a 1) (p0_6_1k 1) (p0_6_1n 1) (p0_6_1w 1)), (oX9 (p0_6_1a 2 0) (p0_6_1a 2) (p0_6_1k 2) (p0_6_1n 2) (p0_6_1w 2)), (oX9 (p0_6_1a 4 0) (p0_6_1a 4) (p0_6_1k 4) (p0_6_1n 4) (p0_6_1w 4)), (oX9 (p0_6_1a 5 0) (p0_6_1a 5) (p0_6_1k 5) (p0_6_1n 5) (p0_6_1w 5)), [((p0_6a 2), .inl (p0_6_1c, 6, .inr (.inr (.inr (.inr (fun i => some (p0_6_1a i 0)))))))]] : List va_W))) := vD_fa (vD_perm hD (bP (((List.Perm.refl _)).trans (((((((((((((((((List.Perm.refl _)).cons _).trans (List.Perm.swap _ _ _))).cons _).trans (List.Perm.swap _ _ _))).cons _).trans (List.Perm.swap _ _ _))).cons _).trans (List.Perm.swap _ _ _))).trans (((((((((((((((((((((List.Perm.refl _)).cons _).trans (List.Perm.swap _ _ _))).cons _).trans (List.Perm.swap _ _ _))).cons _).trans (List.Perm.swap _ _ _))).cons _).trans (List.Perm.swap _ _ _))).cons _).trans (List.Perm.swap _ _ _))).cons _).trans (List.Perm.swap _ _ _))).cons _))).cons _))))
      have hKx : va_K (dC, dI) cls ((List.flatten ([(tX3 p0k), (tX9 (p0_6_1k 3)), (tX6 p0_4k)] : List (List (ClassId × FieldType)))) ++ (List.flatten ([(tX0 p0_6k), (tX9 (p0_6_1k 0)), (tX9 (p0_6_1k 1)), (tX9 (p0_6_1k 2)), (tX9 (p0_6_1k 4)), (tX9 (p0_6_1k 5)), [(p0_6_1c, .object RX9)]] : List (List (ClassId × FieldType))))) s := vK_fa (vK_perm hK (bP (((List.Perm.refl _)).trans (((((((((((((((((List.Perm.refl _)).cons _).trans (List.Perm.swap _ _ _))).cons _).trans (List.Perm.swap _ _ _))).cons _).trans (List.Perm.swap _ _ _))).cons _).trans (List.Perm.swap _ _ _))).trans (((((((((((((((((((((List.Perm.refl _)).cons _).trans (List.Perm.swap _ _ _))).cons _).trans (List.Perm.swap _ _ _))).cons _).trans (List.Perm.swap _ _ _))).cons _).trans (List.Perm.swap _ _ _))).cons _).trans (List.Perm.swap _ _ _))).cons _).trans (List.Perm.swap _ _ _))).cons _))).cons _))))
      have hPc := vP_l hPx
      have hDc := vD_l hDx
      have hKc := vK_l hKx
      have hFc := vfree hDx hS hA
      refine va_callv (va_runV (As := [.ref (p0_6_1a 3 0), .int ((p0w 0 9) - 1), .int (p0w 12 (nn ((p0w 0 9) - 1)))]) (rest := []) ⟨hx, hb, hml, hown, hts⟩ (kX3_moveLine l dC dI (p0a := p0a) (p0k := p0k) (p0n := p0n) (p0w := w9) (p1a := (st0 (p0_6_1a 3 0) (p0_6_1a 3))) (p1k := (p0_6_1k 3)) (p1n := (p0_6_1n 3)) (p1w := (p0_6_1w 3)) (p2 := ((p0w 0 9) - 1)) (p3 := (p0w 12 (nn ((p0w 0 9) - 1)))) (p0_4a := p0_4a) (p0_4k := p0_4k) (p0_4w := p0_4w) (p0_4l := p0_4l) (sz := _) (o := o_54) (hrun := hc_54)) (cwV 3 hts (gi_V qw990 qw991 qw992 qw903 (gi_z qw989)) rfl rfl rfl (by decide +kernel) ⟨Nat.le_of_ble_eq_true rfl, Nat.le_of_ble_eq_true rfl⟩) ⟨PRE.blind, va_recv hKc hPc (ci := 10) (q0 := 0) rfl rfl, PRE.of hE hS hFc hPc hKc hDc⟩ rfl rfl hl.1 rfl (lv_room (Nat.le_of_ble_eq_true rfl)) dX3_moveInCode_350 ⟨(Nat.le_of_ble_eq_true rfl), (Nat.le_of_ble_eq_true rfl)⟩) hS (fun q _ h => hFc q h) hFc (fun u t H locs ht hvm hw hB hz1 hk1 hS => ?_)
      obtain ⟨b1, b2, b3⟩ := hB
      rw [ht] at b1
      obtain ⟨hP, hD, hK⟩ := JOINC (wc := (List.flatten ([(oX3 (p0a 0) p0a p0k p0n w9), (oX9 (p0_6_1a 3 0) (p0_6_1a 3) (p0_6_1k 3) (p0_6_1n 3) (p0_6_1w 3)), (oX6 (p0a 5) p0_4a p0_4k p0_4w p0_4l)] : List va_W))) (wr := (List.flatten ([(oX0 (p0a 7) p0_6a p0_6k p0_6n p0_6w), (oX9 (p0_6_1a 0 0) (p0_6_1a 0) (p0_6_1k 0) (p0_6_1n 0) (p0_6_1w 0)), (oX9 (p0_6_1a 1 0) (p0_6_1a 1) (p0_6_1k 1) (p0_6_1n 1) (p0_6_1w 1)), (oX9 (p0_6_1a 2 0) (p0_6_1a 2) (p0_6_1k 2) (p0_6_1n 2) (p0_6_1w 2)), (oX9 (p0_6_1a 4 0) (p0_6_1a 4) (p0_6_1k 4) (p0_6_1n 4) (p0_6_1w 4)), (oX9 (p0_6_1a 5 0) (p0_6_1a 5) (p0_6_1k 5) (p0_6_1n 5) (p0_6_1w 5)), [((p0_6a 2), .inl (p0_6_1c, 6, .inr (.inr (.inr (.inr (fun i => some (p0_6_1a i 0)))))))]] : List va_W))) (w1 := (List.flatten ([(oX3 (p0a 0) p0a p0k p0n o_54), (oX9 (p0_6_1a 3 0) (p0_6_1a 3) (p0_6_1k 3) (p0_6_1n 3) (p0_6_1w 3)), (oX6 (p0a 5) p0_4a p0_4k p0_4w p0_4l)] : List va_W))) (t1 := (List.flatten ([(tX3 p0k), (tX9 (p0_6_1k 3)), (tX6 p0_4k)] : List (List (ClassId × FieldType))))) hPx hDx hKx hk1 hFc b1 (va_K.moved hvm.symm b2) b3
      have hP : va_P (dC, dI) cls (List.flatten ([(oX3 (p0a 0) p0a p0k p0n o_54), (oX0 (p0a 7) p0_6a p0_6k p0_6n p0_6w), (oX9 (p0_6_1a 0 0) (p0_6_1a 0) (p0_6_1k 0) (p0_6_1n 0) (p0_6_1w 0)), (oX9 (p0_6_1a 1 0) (p0_6_1a 1) (p0_6_1k 1) (p0_6_1n 1) (p0_6_1w 1)), (oX9 (p0_6_1a 2 0) (p0_6_1a 2) (p0_6_1k 2) (p0_6_1n 2) (p0_6_1w 2)), (oX9 (p0_6_1a 3 0) (p0_6_1a 3) (p0_6_1k 3) (p0_6_1n 3) (p0_6_1w 3)), (oX9 (p0_6_1a 4 0) (p0_6_1a 4) (p0_6_1k 4) (p0_6_1n 4) (p0_6_1w 4)), (oX9 (p0_6_1a 5 0) (p0_6_1a 5) (p0_6_1k 5) (p0_6_1n 5) (p0_6_1w 5)), (oX6 (p0a 5) p0_4a p0_4k p0_4w p0_4l), [((p0_6a 2), .inl (p0_6_1c, 6, .inr (.inr (.inr (.inr (fun i => some (p0_6_1a i 0)))))))]] : List va_W)) H := vP_perm (vP_fb hP) (bP (((List.Perm.refl _)).trans (((((((((((List.Perm.refl _)).cons _).trans (List.Perm.swap _ _ _))).cons _).trans (List.Perm.swap _ _ _))).trans (((((((((((List.Perm.refl _)).cons _).trans (List.Perm.swap _ _ _))).cons _).trans (List.Perm.swap _ _ _))).trans (((((((((((List.Perm.refl _)).cons _).trans (List.Perm.swap _ _ _))).cons _).trans (List.Perm.swap _ _ _))).trans (((((((((((List.Perm.refl _)).cons _).trans (List.Perm.swap _ _ _))).cons _).trans (List.Perm.swap _ _ _))).trans (((((List.Perm.refl _)).trans ((((((((List.Perm.refl _)).cons _).trans (List.Perm.swap _ _ _))).trans ((((((List.Perm.refl _)).cons _).trans (List.Perm.swap _ _ _))).cons _))).cons _))).cons _))).cons _))).cons _))).cons _))).cons _)))
      have hD : va_D A (List.flatten ([(oX3 (p0a 0) p0a p0k p0n o_54), (oX0 (p0a 7) p0_6a p0_6k p0_6n p0_6w), (oX9 (p0_6_1a 0 0) (p0_6_1a 0) (p0_6_1k 0) (p0_6_1n 0) (p0_6_1w 0)), (oX9 (p0_6_1a 1 0) (p0_6_1a 1) (p0_6_1k 1) (p0_6_1n 1) (p0_6_1w 1)), (oX9 (p0_6_1a 2 0) (p0_6_1a 2) (p0_6_1k 2) (p0_6_1n 2) (p0_6_1w 2)), (oX9 (p0_6_1a 3 0) (p0_6_1a 3) (p0_6_1k 3) (p0_6_1n 3) (p0_6_1w 3)), (oX9 (p0_6_1a 4 0) (p0_6_1a 4) (p0_6_1k 4) (p0_6_1n 4) (p0_6_1w 4)), (oX9 (p0_6_1a 5 0) (p0_6_1a 5) (p0_6_1k 5) (p0_6_1n 5) (p0_6_1w 5)), (oX6 (p0a 5) p0_4a p0_4k p0_4w p0_4l), [((p0_6a 2), .inl (p0_6_1c, 6, .inr (.inr (.inr (.inr (fun i => some (p0_6_1a i 0)))))))]] : List va_W)) := vD_perm (vD_fb hD) (bP (((List.Perm.refl _)).trans (((((((((((List.Perm.refl _)).cons _).trans (List.Perm.swap _ _ _))).cons _).trans (List.Perm.swap _ _ _))).trans (((((((((((List.Perm.refl _)).cons _).trans (List.Perm.swap _ _ _))).cons _).trans (List.Perm.swap _ _ _))).trans (((((((((((List.Perm.refl _)).cons _).trans (List.Perm.swap _ _ _))).cons _).trans (List.Perm.swap _ _ _))).trans (((((((((((List.Perm.refl _)).cons _).trans (List.Perm.swap _ _ _))).cons _).trans (List.Perm.swap _ _ _))).trans (((((List.Perm.refl _)).trans ((((((((List.Perm.refl _)).cons _).trans (List.Perm.swap _ _ _))).trans ((((((List.Perm.refl _)).cons _).trans (List.Perm.swap _ _ _))).cons _))).cons _))).cons _))).cons _))).cons _))).cons _))).cons _)))
      have hK : va_K (dC, dI) cls (List.flatten ([(tX3 p0k), (tX0 p0_6k), (tX9 (p0_6_1k 0)), (tX9 (p0_6_1k 1)), (tX9 (p0_6_1k 2)), (tX9 (p0_6_1k 3)), (tX9 (p0_6_1k 4)), (tX9 (p0_6_1k 5)), (tX6 p0_4k), [(p0_6_1c, .object RX9)]] : List (List (ClassId × FieldType)))) s := vK_perm (vK_fb hK) (bP (((List.Perm.refl _)).trans (((((((((((List.Perm.refl _)).cons _).trans (List.Perm.swap _ _ _))).cons _).trans (List.Perm.swap _ _ _))).trans (((((((((((List.Perm.refl _)).cons _).trans (List.Perm.swap _ _ _))).cons _).trans (List.Perm.swap _ _ _))).trans (((((((((((List.Perm.refl _)).cons _).trans (List.Perm.swap _ _ _))).cons _).trans (List.Perm.swap _ _ _))).trans (((((((((((List.Perm.refl _)).cons _).trans (List.Perm.swap _ _ _))).cons _).trans (List.Perm.swap _ _ _))).trans (((((List.Perm.refl _)).trans ((((((((List.Perm.refl _)).cons _).trans (List.Perm.swap _ _ _))).trans ((((((List.Perm.refl _)).cons _).trans (List.Perm.swap _ _ _))).cons _))).cons _))).cons _))).cons _))).cons _))).cons _))).cons _)))
      exact J353 o_54 _ _ _ hrun hP hD hK hS (lv_sub hl [] rfl)
  · refine W.eq (g2 := F0 m 21 ls [.ref (p0_6_1a 4 0)]) rfl ?_
    refine lv_astore_n (lv' := [(2, .ref (p0_6_1a 4 0)), (1, .int ((p0w 0 9) - 1)), (0, .ref (p0a 0))]) hx hb dX3_moveInCode_21 rfl hl (by decide) rfl (fun ls hl => ?_)
    refine lv_aload_n hx hb dX3_moveInCode_22 rfl (lv_at hl 2 rfl) ?_
    refine va_get (D := (dC, dI)) (ci := 10) (v := .ref (p0a 12)) (C := RX3) (T := TX3) (N := 20) hx hb hts i_X3 hown hK hP 0 rfl rfl 11 (by decide) (hts _ qw915) (fun _ h9 => h9) rfl dX3_moveInCode_23 ?_
    refine lv_iload_n hx hb dX3_moveInCode_26 rfl (lv_at hl 1 rfl) ?_
    obtain ⟨hq4, hrun⟩ := chk9 hrun
    refine va_iald hx hb hK hP 4 3 rfl rfl (ixb_in hq4) dX3_moveInCode_27 ?_
    refine lv_istore_n (lv' := [(3, .int (p0w 12 (nn ((p0w 0 9) - 1)))), (2, .ref (p0_6_1a 4 0)), (1, .int ((p0w 0 9) - 1)), (0, .ref (p0a 0))]) hx hb dX3_moveInCode_28 rfl hl (by decide) rfl (fun ls hl => ?_)
    refine lv_aload_n hx hb dX3_moveInCode_29 rfl (lv_at hl 3 rfl) ?_
    refine lv_iconst (v := 1) hx hb dX3_moveInCode_30 (by decide) ?_
    obtain ⟨o_5, hc_5, hrun⟩ := bnd9 hrun
    have hPx : va_P (dC, dI) cls ((List.flatten ([(oX3 (p0a 0) p0a p0k p0n p0w)] : List va_W)) ++ (List.flatten ([(oX0 (p0a 7) p0_6a p0_6k p0_6n p0_6w), (oX9 (p0_6_1a 0 0) (p0_6_1a 0) (p0_6_1k 0) (p0_6_1n 0) (p0_6_1w 0)), (oX9 (p0_6_1a 1 0) (p0_6_1a 1) (p0_6_1k 1) (p0_6_1n 1) (p0_6_1w 1)), (oX9 (p0_6_1a 2 0) (p0_6_1a 2) (p0_6_1k 2) (p0_6_1n 2) (p0_6_1w 2)), (oX9 (p0_6_1a 3 0) (p0_6_1a 3) (p0_6_1k 3) (p0_6_1n 3) (p0_6_1w 3)), (oX9 (p0_6_1a 4 0) (p0_6_1a 4) (p0_6_1k 4) (p0_6_1n 4) (p0_6_1w 4)), (oX9 (p0_6_1a 5 0) (p0_6_1a 5) (p0_6_1k 5) (p0_6_1n 5) (p0_6_1w 5)), (oX6 (p0a 5) p0_4a p0_4k p0_4w p0_4l), [((p0_6a 2), .inl (p0_6_1c, 6, .inr (.inr (.inr (.inr (fun i => some (p0_6_1a i 0)))))))]] : List va_W))) H := vP_fa (vP_perm hP (bP (List.Perm.refl _)))
    have hDx : va_D A ((List.flatten ([(oX3 (p0a 0) p0a p0k p0n p0w)] : List va_W)) ++ (List.flatten ([(oX0 (p0a 7) p0_6a p0_6k p0_6n p0_6w), (oX9 (p0_6_1a 0 0) (p0_6_1a 0) (p0_6_1k 0) (p0_6_1n 0) (p0_6_1w 0)), (oX9 (p0_6_1a 1 0) (p0_6_1a 1) (p0_6_1k 1) (p0_6_1n 1) (p0_6_1w 1)), (oX9 (p0_6_1a 2 0) (p0_6_1a 2) (p0_6_1k 2) (p0_6_1n 2) (p0_6_1w 2)), (oX9 (p0_6_1a 3 0) (p0_6_1a 3) (p0_6_1k 3) (p0_6_1n 3) (p0_6_1w 3)), (oX9 (p0_6_1a 4 0) (p0_6_1a 4) (p0_6_1k 4) (p0_6_1n 4) (p0_6_1w 4)), (oX9 (p0_6_1a 5 0) (p0_6_1a 5) (p0_6_1k 5) (p0_6_1n 5) (p0_6_1w 5)), (oX6 (p0a 5) p0_4a p0_4k p0_4w p0_4l), [((p0_6a 2), .inl (p0_6_1c, 6, .inr (.inr (.inr (.inr (fun i => some (p0_6_1a i 0)))))))]] : List va_W))) := vD_fa (vD_perm hD (bP (List.Perm.refl _)))
    have hKx : va_K (dC, dI) cls ((List.flatten ([(tX3 p0k)] : List (List (ClassId × FieldType)))) ++ (List.flatten ([(tX0 p0_6k), (tX9 (p0_6_1k 0)), (tX9 (p0_6_1k 1)), (tX9 (p0_6_1k 2)), (tX9 (p0_6_1k 3)), (tX9 (p0_6_1k 4)), (tX9 (p0_6_1k 5)), (tX6 p0_4k), [(p0_6_1c, .object RX9)]] : List (List (ClassId × FieldType))))) s := vK_fa (vK_perm hK (bP (List.Perm.refl _)))
    have hPc := vP_l hPx
    have hDc := vD_l hDx
    have hKc := vK_l hKx
    have hFc := vfree hDx hS hA
    refine va_calli (va_runV (As := [.int 1]) (rest := []) ⟨hx, hb, hml, hown, hts⟩ (kX3_tick l dC dI (p0a := p0a) (p0k := p0k) (p0n := p0n) (p0w := p0w) (p1 := 1) (sz := _) (o := o_5) (hrun := hc_5)) (cwV 1 hts (gi_V qw939 qw940 qw941 qw903 (gi_z qw938)) rfl rfl rfl (by decide +kernel) ⟨Nat.le_of_ble_eq_true rfl, Nat.le_of_ble_eq_true rfl⟩) ⟨PRE.blind, va_recv hKc hPc (ci := 10) (q0 := 0) rfl rfl, PRE.of hE hS hFc hPc hKc hDc⟩ rfl rfl hl.1 rfl (lv_room (Nat.le_of_ble_eq_true rfl)) dX3_moveInCode_31 ⟨(Nat.le_of_ble_eq_true rfl), (Nat.le_of_ble_eq_true rfl)⟩) hS (fun q _ h => hFc q h) hFc (fun r6 u t H locs ht hvm hw hB hz1 hk1 hS => ?_)
    obtain ⟨b1, b2, b3⟩ := hB
    rw [ht] at b1
    obtain ⟨hP, hD, hK⟩ := JOINC (wc := (List.flatten ([(oX3 (p0a 0) p0a p0k p0n p0w)] : List va_W))) (wr := (List.flatten ([(oX0 (p0a 7) p0_6a p0_6k p0_6n p0_6w), (oX9 (p0_6_1a 0 0) (p0_6_1a 0) (p0_6_1k 0) (p0_6_1n 0) (p0_6_1w 0)), (oX9 (p0_6_1a 1 0) (p0_6_1a 1) (p0_6_1k 1) (p0_6_1n 1) (p0_6_1w 1)), (oX9 (p0_6_1a 2 0) (p0_6_1a 2) (p0_6_1k 2) (p0_6_1n 2) (p0_6_1w 2)), (oX9 (p0_6_1a 3 0) (p0_6_1a 3) (p0_6_1k 3) (p0_6_1n 3) (p0_6_1w 3)), (oX9 (p0_6_1a 4 0) (p0_6_1a 4) (p0_6_1k 4) (p0_6_1n 4) (p0_6_1w 4)), (oX9 (p0_6_1a 5 0) (p0_6_1a 5) (p0_6_1k 5) (p0_6_1n 5) (p0_6_1w 5)), (oX6 (p0a 5) p0_4a p0_4k p0_4w p0_4l), [((p0_6a 2), .inl (p0_6_1c, 6, .inr (.inr (.inr (.inr (fun i => some (p0_6_1a i 0)))))))]] : List va_W))) (w1 := (List.flatten ([(oX3 (p0a 0) p0a p0k p0n (o_5.2))] : List va_W))) (t1 := (List.flatten ([(tX3 p0k)] : List (List (ClassId × FieldType))))) hPx hDx hKx hk1 hFc b1 (va_K.moved hvm.symm b2) b3
    have hP : va_P (dC, dI) cls (List.flatten ([(oX3 (p0a 0) p0a p0k p0n (o_5.2)), (oX0 (p0a 7) p0_6a p0_6k p0_6n p0_6w), (oX9 (p0_6_1a 0 0) (p0_6_1a 0) (p0_6_1k 0) (p0_6_1n 0) (p0_6_1w 0)), (oX9 (p0_6_1a 1 0) (p0_6_1a 1) (p0_6_1k 1) (p0_6_1n 1) (p0_6_1w 1)), (oX9 (p0_6_1a 2 0) (p0_6_1a 2) (p0_6_1k 2) (p0_6_1n 2) (p0_6_1w 2)), (oX9 (p0_6_1a 3 0) (p0_6_1a 3) (p0_6_1k 3) (p0_6_1n 3) (p0_6_1w 3)), (oX9 (p0_6_1a 4 0) (p0_6_1a 4) (p0_6_1k 4) (p0_6_1n 4) (p0_6_1w 4)), (oX9 (p0_6_1a 5 0) (p0_6_1a 5) (p0_6_1k 5) (p0_6_1n 5) (p0_6_1w 5)), (oX6 (p0a 5) p0_4a p0_4k p0_4w p0_4l), [((p0_6a 2), .inl (p0_6_1c, 6, .inr (.inr (.inr (.inr (fun i => some (p0_6_1a i 0)))))))]] : List va_W)) H := vP_perm (vP_fb hP) (bP (List.Perm.refl _))
    have hD : va_D A (List.flatten ([(oX3 (p0a 0) p0a p0k p0n (o_5.2)), (oX0 (p0a 7) p0_6a p0_6k p0_6n p0_6w), (oX9 (p0_6_1a 0 0) (p0_6_1a 0) (p0_6_1k 0) (p0_6_1n 0) (p0_6_1w 0)), (oX9 (p0_6_1a 1 0) (p0_6_1a 1) (p0_6_1k 1) (p0_6_1n 1) (p0_6_1w 1)), (oX9 (p0_6_1a 2 0) (p0_6_1a 2) (p0_6_1k 2) (p0_6_1n 2) (p0_6_1w 2)), (oX9 (p0_6_1a 3 0) (p0_6_1a 3) (p0_6_1k 3) (p0_6_1n 3) (p0_6_1w 3)), (oX9 (p0_6_1a 4 0) (p0_6_1a 4) (p0_6_1k 4) (p0_6_1n 4) (p0_6_1w 4)), (oX9 (p0_6_1a 5 0) (p0_6_1a 5) (p0_6_1k 5) (p0_6_1n 5) (p0_6_1w 5)), (oX6 (p0a 5) p0_4a p0_4k p0_4w p0_4l), [((p0_6a 2), .inl (p0_6_1c, 6, .inr (.inr (.inr (.inr (fun i => some (p0_6_1a i 0)))))))]] : List va_W)) := vD_perm (vD_fb hD) (bP (List.Perm.refl _))
    have hK : va_K (dC, dI) cls (List.flatten ([(tX3 p0k), (tX0 p0_6k), (tX9 (p0_6_1k 0)), (tX9 (p0_6_1k 1)), (tX9 (p0_6_1k 2)), (tX9 (p0_6_1k 3)), (tX9 (p0_6_1k 4)), (tX9 (p0_6_1k 5)), (tX6 p0_4k), [(p0_6_1c, .object RX9)]] : List (List (ClassId × FieldType)))) s := vK_perm (vK_fb hK) (bP (List.Perm.refl _))
    obtain rfl : r6 = (o_5.1) := hw
    rcases br9 hrun with ⟨hc7, hrun⟩ | ⟨hc7, hrun⟩
    · refine lv_if_ne (tgt := 38) hx hb dX3_moveInCode_34 (by decide) (fun c => absurd hc7 c) (fun _ => ?_)
      have ho9 : (o_5.2) = o := Option.some.inj hrun
      have hP9 : va_P (dC, dI) cls (List.flatten ([(oX3 (p0a 0) p0a p0k p0n o), (oX0 (p0a 7) p0_6a p0_6k p0_6n p0_6w), (oX9 (p0_6_1a 0 0) (p0_6_1a 0) (p0_6_1k 0) (p0_6_1n 0) (p0_6_1w 0)), (oX9 (p0_6_1a 1 0) (p0_6_1a 1) (p0_6_1k 1) (p0_6_1n 1) (p0_6_1w 1)), (oX9 (p0_6_1a 2 0) (p0_6_1a 2) (p0_6_1k 2) (p0_6_1n 2) (p0_6_1w 2)), (oX9 (p0_6_1a 3 0) (p0_6_1a 3) (p0_6_1k 3) (p0_6_1n 3) (p0_6_1w 3)), (oX9 (p0_6_1a 4 0) (p0_6_1a 4) (p0_6_1k 4) (p0_6_1n 4) (p0_6_1w 4)), (oX9 (p0_6_1a 5 0) (p0_6_1a 5) (p0_6_1k 5) (p0_6_1n 5) (p0_6_1w 5)), (oX6 (p0a 5) p0_4a p0_4k p0_4w p0_4l), [((p0_6a 2), .inl (p0_6_1c, 6, .inr (.inr (.inr (.inr (fun i => some (p0_6_1a i 0)))))))]] : List va_W)) H := by first | exact hP | (rw [← ho9]; exact hP)
      have hD9 : va_D A (List.flatten ([(oX3 (p0a 0) p0a p0k p0n o), (oX0 (p0a 7) p0_6a p0_6k p0_6n p0_6w), (oX9 (p0_6_1a 0 0) (p0_6_1a 0) (p0_6_1k 0) (p0_6_1n 0) (p0_6_1w 0)), (oX9 (p0_6_1a 1 0) (p0_6_1a 1) (p0_6_1k 1) (p0_6_1n 1) (p0_6_1w 1)), (oX9 (p0_6_1a 2 0) (p0_6_1a 2) (p0_6_1k 2) (p0_6_1n 2) (p0_6_1w 2)), (oX9 (p0_6_1a 3 0) (p0_6_1a 3) (p0_6_1k 3) (p0_6_1n 3) (p0_6_1w 3)), (oX9 (p0_6_1a 4 0) (p0_6_1a 4) (p0_6_1k 4) (p0_6_1n 4) (p0_6_1w 4)), (oX9 (p0_6_1a 5 0) (p0_6_1a 5) (p0_6_1k 5) (p0_6_1n 5) (p0_6_1w 5)), (oX6 (p0a 5) p0_4a p0_4k p0_4w p0_4l), [((p0_6a 2), .inl (p0_6_1c, 6, .inr (.inr (.inr (.inr (fun i => some (p0_6_1a i 0)))))))]] : List va_W)) := by first | exact hD | (rw [← ho9]; exact hD)
      subst hQ
      exact W.vret hx hb hr (fun t ht hW => ⟨⟨(), rfl, trivial, ⟨by rw [ht]; exact hP9, va_K.moved hW.alike hK, hD9⟩⟩, hS.F ht⟩) hS.2.2 dX3_moveInCode_37
    · refine lv_if_ne (tgt := 38) hx hb dX3_moveInCode_34 (by decide) (fun _ => ?_) (fun c => absurd c hc7)
      refine lv_aload_n hx hb dX3_moveInCode_38 rfl (lv_at hl 3 rfl) ?_
      refine va_get (D := (dC, dI)) (ci := 10) (v := .ref (p0a 12)) (C := RX3) (T := TX3) (N := 20) hx hb hts i_X3 hown hK hP 0 rfl rfl 11 (by decide) (hts _ qw915) (fun _ h9 => h9) rfl dX3_moveInCode_39 ?_
      refine lv_iload_n hx hb dX3_moveInCode_42 rfl (lv_at hl 2 rfl) ?_
      refine lv_iload_n hx hb dX3_moveInCode_43 rfl (lv_at hl 0 rfl) ?_
      refine lv_iconst (v := 1) hx hb dX3_moveInCode_44 (by decide) ?_
      refine lv_iadd hx hb dX3_moveInCode_45 ?_
      obtain ⟨hq8, hrun⟩ := chk9 hrun
      refine va_iast hx hb hK hP hD hS 4 3 rfl rfl (ixb_in hq8) dX3_moveInCode_46 (fun H locs hP hD hS => ?_)
      have hP : va_P (dC, dI) cls (List.flatten ([(oX3 (p0a 0) p0a p0k p0n (upw (o_5.2) 12 (nn ((p0w 0 9) - 1)) ((p0w 12 (nn ((p0w 0 9) - 1))) + 1))), (oX0 (p0a 7) p0_6a p0_6k p0_6n p0_6w), (oX9 (p0_6_1a 0 0) (p0_6_1a 0) (p0_6_1k 0) (p0_6_1n 0) (p0_6_1w 0)), (oX9 (p0_6_1a 1 0) (p0_6_1a 1) (p0_6_1k 1) (p0_6_1n 1) (p0_6_1w 1)), (oX9 (p0_6_1a 2 0) (p0_6_1a 2) (p0_6_1k 2) (p0_6_1n 2) (p0_6_1w 2)), (oX9 (p0_6_1a 3 0) (p0_6_1a 3) (p0_6_1k 3) (p0_6_1n 3) (p0_6_1w 3)), (oX9 (p0_6_1a 4 0) (p0_6_1a 4) (p0_6_1k 4) (p0_6_1n 4) (p0_6_1w 4)), (oX9 (p0_6_1a 5 0) (p0_6_1a 5) (p0_6_1k 5) (p0_6_1n 5) (p0_6_1w 5)), (oX6 (p0a 5) p0_4a p0_4k p0_4w p0_4l), [((p0_6a 2), .inl (p0_6_1c, 6, .inr (.inr (.inr (.inr (fun i => some (p0_6_1a i 0)))))))]] : List va_W)) H := hP
      have hD : va_D A (List.flatten ([(oX3 (p0a 0) p0a p0k p0n (upw (o_5.2) 12 (nn ((p0w 0 9) - 1)) ((p0w 12 (nn ((p0w 0 9) - 1))) + 1))), (oX0 (p0a 7) p0_6a p0_6k p0_6n p0_6w), (oX9 (p0_6_1a 0 0) (p0_6_1a 0) (p0_6_1k 0) (p0_6_1n 0) (p0_6_1w 0)), (oX9 (p0_6_1a 1 0) (p0_6_1a 1) (p0_6_1k 1) (p0_6_1n 1) (p0_6_1w 1)), (oX9 (p0_6_1a 2 0) (p0_6_1a 2) (p0_6_1k 2) (p0_6_1n 2) (p0_6_1w 2)), (oX9 (p0_6_1a 3 0) (p0_6_1a 3) (p0_6_1k 3) (p0_6_1n 3) (p0_6_1w 3)), (oX9 (p0_6_1a 4 0) (p0_6_1a 4) (p0_6_1k 4) (p0_6_1n 4) (p0_6_1w 4)), (oX9 (p0_6_1a 5 0) (p0_6_1a 5) (p0_6_1k 5) (p0_6_1n 5) (p0_6_1w 5)), (oX6 (p0a 5) p0_4a p0_4k p0_4w p0_4l), [((p0_6a 2), .inl (p0_6_1c, 6, .inr (.inr (.inr (.inr (fun i => some (p0_6_1a i 0)))))))]] : List va_W)) := hD
      obtain ⟨w9, ew9, hrun⟩ := let9 hrun
      rw [← ew9] at hP hD
      refine lv_iload_n hx hb dX3_moveInCode_47 rfl (lv_at hl 2 rfl) ?_
      refine lv_sipush (v := 320) hx hb dX3_moveInCode_48 (by decide) ?_
      refine lv_imul hx hb dX3_moveInCode_51 ?_
      refine lv_istore (lv' := [(4, .int (((p0w 0 9) - 1) * 320)), (3, .int (p0w 12 (nn ((p0w 0 9) - 1)))), (2, .ref (p0_6_1a 4 0)), (1, .int ((p0w 0 9) - 1)), (0, .ref (p0a 0))]) hx hb dX3_moveInCode_52 hl (by decide) rfl (fun ls hl => ?_)
      refine lv_aload_n hx hb dX3_moveInCode_54 rfl (lv_at hl 2 rfl) ?_
      refine va_get (D := (dC, dI)) (ci := 3) (v := .ref ((p0_6_1a 4) 4)) (C := RX9) (T := TX9) (N := 6) hx hb hts i_X9 hown hK hP 44 rfl rfl 3 (by decide) (hts _ qw954) (fun _ h9 => h9) rfl dX3_moveInCode_55 ?_
      refine lv_iload_n hx hb dX3_moveInCode_58 rfl (lv_at hl 1 rfl) ?_
      obtain ⟨hq10, hrun⟩ := chk9 hrun
      refine va_iald hx hb hK hP 47 40 rfl rfl (ixb_in hq10) dX3_moveInCode_59 ?_
      refine lv_istore (lv' := [(5, .int (((p0_6_1w 4) 4) (nn (p0w 12 (nn ((p0w 0 9) - 1)))))), (4, .int (((p0w 0 9) - 1) * 320)), (3, .int (p0w 12 (nn ((p0w 0 9) - 1)))), (2, .ref (p0_6_1a 4 0)), (1, .int ((p0w 0 9) - 1)), (0, .ref (p0a 0))]) hx hb dX3_moveInCode_60 hl (by decide) rfl (fun ls hl => ?_)
      refine lv_aload_n hx hb dX3_moveInCode_62 rfl (lv_at hl 3 rfl) ?_
      refine va_get (D := (dC, dI)) (ci := 3) (v := .ref ((p0_6_1a 4) 2)) (C := RX9) (T := TX9) (N := 6) hx hb hts i_X9 hown hK hP 44 rfl rfl 1 (by decide) (hts _ qw953) (fun _ h9 => h9) rfl dX3_moveInCode_63 ?_
      refine lv_iload_n hx hb dX3_moveInCode_66 rfl (lv_at hl 2 rfl) ?_
      obtain ⟨hq11, hrun⟩ := chk9 hrun
      refine va_iald hx hb hK hP 45 38 rfl rfl (ixb_in hq11) dX3_moveInCode_67 ?_
      have J353 : ∀ (p0w_353 : ST) (H : Heap) (locs : List Loc) (ls : Array Slot), (fX3_moveInCode_J353 p0w_353) = some o → va_P (dC, dI) cls (List.flatten ([(oX3 (p0a 0) p0a p0k p0n p0w_353), (oX0 (p0a 7) p0_6a p0_6k p0_6n p0_6w), (oX9 (p0_6_1a 0 0) (p0_6_1a 0) (p0_6_1k 0) (p0_6_1n 0) (p0_6_1w 0)), (oX9 (p0_6_1a 1 0) (p0_6_1a 1) (p0_6_1k 1) (p0_6_1n 1) (p0_6_1w 1)), (oX9 (p0_6_1a 2 0) (p0_6_1a 2) (p0_6_1k 2) (p0_6_1n 2) (p0_6_1w 2)), (oX9 (p0_6_1a 3 0) (p0_6_1a 3) (p0_6_1k 3) (p0_6_1n 3) (p0_6_1w 3)), (oX9 (p0_6_1a 4 0) (p0_6_1a 4) (p0_6_1k 4) (p0_6_1n 4) (p0_6_1w 4)), (oX9 (p0_6_1a 5 0) (p0_6_1a 5) (p0_6_1k 5) (p0_6_1n 5) (p0_6_1w 5)), (oX6 (p0a 5) p0_4a p0_4k p0_4w p0_4l), [((p0_6a 2), .inl (p0_6_1c, 6, .inr (.inr (.inr (.inr (fun i => some (p0_6_1a i 0)))))))]] : List va_W)) H → va_D A (List.flatten ([(oX3 (p0a 0) p0a p0k p0n p0w_353), (oX0 (p0a 7) p0_6a p0_6k p0_6n p0_6w), (oX9 (p0_6_1a 0 0) (p0_6_1a 0) (p0_6_1k 0) (p0_6_1n 0) (p0_6_1w 0)), (oX9 (p0_6_1a 1 0) (p0_6_1a 1) (p0_6_1k 1) (p0_6_1n 1) (p0_6_1w 1)), (oX9 (p0_6_1a 2 0) (p0_6_1a 2) (p0_6_1k 2) (p0_6_1n 2) (p0_6_1w 2)), (oX9 (p0_6_1a 3 0) (p0_6_1a 3) (p0_6_1k 3) (p0_6_1n 3) (p0_6_1w 3)), (oX9 (p0_6_1a 4 0) (p0_6_1a 4) (p0_6_1k 4) (p0_6_1n 4) (p0_6_1w 4)), (oX9 (p0_6_1a 5 0) (p0_6_1a 5) (p0_6_1k 5) (p0_6_1n 5) (p0_6_1w 5)), (oX6 (p0a 5) p0_4a p0_4k p0_4w p0_4l), [((p0_6a 2), .inl (p0_6_1c, 6, .inr (.inr (.inr (.inr (fun i => some (p0_6_1a i 0)))))))]] : List va_W)) → va_K (dC, dI) cls (List.flatten ([(tX3 p0k), (tX0 p0_6k), (tX9 (p0_6_1k 0)), (tX9 (p0_6_1k 1)), (tX9 (p0_6_1k 2)), (tX9 (p0_6_1k 3)), (tX9 (p0_6_1k 4)), (tX9 (p0_6_1k 5)), (tX6 p0_4k), [(p0_6_1c, .object RX9)]] : List (List (ClassId × FieldType)))) s → va_S A s.heap H locs → lv_has ls 9 [] → W p l e ({ frames := 5, cells := 0, slots := 0, locals := 120 } : Room) s m ([.ref (p0a 0)] : List Value).toArray below meth c H locs 0 0 Q (F0 m 353 ls []) := by
        intro p0w_353 H locs ls hrun hP hD hK hS hl 
        unfold fX3_moveInCode_J353 at hrun
        have ho9 : p0w_353 = o := Option.some.inj hrun
        have hP9 : va_P (dC, dI) cls (List.flatten ([(oX3 (p0a 0) p0a p0k p0n o), (oX0 (p0a 7) p0_6a p0_6k p0_6n p0_6w), (oX9 (p0_6_1a 0 0) (p0_6_1a 0) (p0_6_1k 0) (p0_6_1n 0) (p0_6_1w 0)), (oX9 (p0_6_1a 1 0) (p0_6_1a 1) (p0_6_1k 1) (p0_6_1n 1) (p0_6_1w 1)), (oX9 (p0_6_1a 2 0) (p0_6_1a 2) (p0_6_1k 2) (p0_6_1n 2) (p0_6_1w 2)), (oX9 (p0_6_1a 3 0) (p0_6_1a 3) (p0_6_1k 3) (p0_6_1n 3) (p0_6_1w 3)), (oX9 (p0_6_1a 4 0) (p0_6_1a 4) (p0_6_1k 4) (p0_6_1n 4) (p0_6_1w 4)), (oX9 (p0_6_1a 5 0) (p0_6_1a 5) (p0_6_1k 5) (p0_6_1n 5) (p0_6_1w 5)), (oX6 (p0a 5) p0_4a p0_4k p0_4w p0_4l), [((p0_6a 2), .inl (p0_6_1c, 6, .inr (.inr (.inr (.inr (fun i => some (p0_6_1a i 0)))))))]] : List va_W)) H := by first | exact hP | (rw [← ho9]; exact hP)
        have hD9 : va_D A (List.flatten ([(oX3 (p0a 0) p0a p0k p0n o), (oX0 (p0a 7) p0_6a p0_6k p0_6n p0_6w), (oX9 (p0_6_1a 0 0) (p0_6_1a 0) (p0_6_1k 0) (p0_6_1n 0) (p0_6_1w 0)), (oX9 (p0_6_1a 1 0) (p0_6_1a 1) (p0_6_1k 1) (p0_6_1n 1) (p0_6_1w 1)), (oX9 (p0_6_1a 2 0) (p0_6_1a 2) (p0_6_1k 2) (p0_6_1n 2) (p0_6_1w 2)), (oX9 (p0_6_1a 3 0) (p0_6_1a 3) (p0_6_1k 3) (p0_6_1n 3) (p0_6_1w 3)), (oX9 (p0_6_1a 4 0) (p0_6_1a 4) (p0_6_1k 4) (p0_6_1n 4) (p0_6_1w 4)), (oX9 (p0_6_1a 5 0) (p0_6_1a 5) (p0_6_1k 5) (p0_6_1n 5) (p0_6_1w 5)), (oX6 (p0a 5) p0_4a p0_4k p0_4w p0_4l), [((p0_6a 2), .inl (p0_6_1c, 6, .inr (.inr (.inr (.inr (fun i => some (p0_6_1a i 0)))))))]] : List va_W)) := by first | exact hD | (rw [← ho9]; exact hD)
        subst hQ
        exact W.vret hx hb hr (fun t ht hW => ⟨⟨(), rfl, trivial, ⟨by rw [ht]; exact hP9, va_K.moved hW.alike hK, hD9⟩⟩, hS.F ht⟩) hS.2.2 dX3_moveInCode_353
      rcases br9 hrun with ⟨hc12, hrun⟩ | ⟨hc12, hrun⟩
      · refine lv_tableIn (off := 44) (tgt := 112) hx hb dX3_moveInCode_68 (by rw [hc12]; decide) (by rw [hc12]; decide) (by rw [hc12]; rfl) (by decide) ?_
        refine lv_aload_n hx hb dX3_moveInCode_112 rfl (lv_at hl 5 rfl) ?_
        refine va_get (D := (dC, dI)) (ci := 10) (v := .ref (p0a 12)) (C := RX3) (T := TX3) (N := 20) hx hb hts i_X3 hown hK hP 0 rfl rfl 11 (by decide) (hts _ qw915) (fun _ h9 => h9) rfl dX3_moveInCode_113 ?_
        refine lv_iload_n hx hb dX3_moveInCode_116 rfl (lv_at hl 4 rfl) ?_
        refine lv_iload hx hb dX3_moveInCode_117 (lv_at hl 0 rfl) ?_
        obtain ⟨hq13, hrun⟩ := chk9 hrun
        refine va_iast hx hb hK hP hD hS 4 3 rfl rfl (ixb_in hq13) dX3_moveInCode_119 (fun H locs hP hD hS => ?_)
        have hP : va_P (dC, dI) cls (List.flatten ([(oX3 (p0a 0) p0a p0k p0n (upw w9 12 (nn ((p0w 0 9) - 1)) (((p0_6_1w 4) 4) (nn (p0w 12 (nn ((p0w 0 9) - 1))))))), (oX0 (p0a 7) p0_6a p0_6k p0_6n p0_6w), (oX9 (p0_6_1a 0 0) (p0_6_1a 0) (p0_6_1k 0) (p0_6_1n 0) (p0_6_1w 0)), (oX9 (p0_6_1a 1 0) (p0_6_1a 1) (p0_6_1k 1) (p0_6_1n 1) (p0_6_1w 1)), (oX9 (p0_6_1a 2 0) (p0_6_1a 2) (p0_6_1k 2) (p0_6_1n 2) (p0_6_1w 2)), (oX9 (p0_6_1a 3 0) (p0_6_1a 3) (p0_6_1k 3) (p0_6_1n 3) (p0_6_1w 3)), (oX9 (p0_6_1a 4 0) (p0_6_1a 4) (p0_6_1k 4) (p0_6_1n 4) (p0_6_1w 4)), (oX9 (p0_6_1a 5 0) (p0_6_1a 5) (p0_6_1k 5) (p0_6_1n 5) (p0_6_1w 5)), (oX6 (p0a 5) p0_4a p0_4k p0_4w p0_4l), [((p0_6a 2), .inl (p0_6_1c, 6, .inr (.inr (.inr (.inr (fun i => some (p0_6_1a i 0)))))))]] : List va_W)) H := hP
        have hD : va_D A (List.flatten ([(oX3 (p0a 0) p0a p0k p0n (upw w9 12 (nn ((p0w 0 9) - 1)) (((p0_6_1w 4) 4) (nn (p0w 12 (nn ((p0w 0 9) - 1))))))), (oX0 (p0a 7) p0_6a p0_6k p0_6n p0_6w), (oX9 (p0_6_1a 0 0) (p0_6_1a 0) (p0_6_1k 0) (p0_6_1n 0) (p0_6_1w 0)), (oX9 (p0_6_1a 1 0) (p0_6_1a 1) (p0_6_1k 1) (p0_6_1n 1) (p0_6_1w 1)), (oX9 (p0_6_1a 2 0) (p0_6_1a 2) (p0_6_1k 2) (p0_6_1n 2) (p0_6_1w 2)), (oX9 (p0_6_1a 3 0) (p0_6_1a 3) (p0_6_1k 3) (p0_6_1n 3) (p0_6_1w 3)), (oX9 (p0_6_1a 4 0) (p0_6_1a 4) (p0_6_1k 4) (p0_6_1n 4) (p0_6_1w 4)), (oX9 (p0_6_1a 5 0) (p0_6_1a 5) (p0_6_1k 5) (p0_6_1n 5) (p0_6_1w 5)), (oX6 (p0a 5) p0_4a p0_4k p0_4w p0_4l), [((p0_6a 2), .inl (p0_6_1c, 6, .inr (.inr (.inr (.inr (fun i => some (p0_6_1a i 0)))))))]] : List va_W)) := hD
        obtain ⟨w14, ew14, hrun⟩ := let9 hrun
        rw [← ew14] at hP hD
        refine lv_goto (tgt := 353) hx hb dX3_moveInCode_120 (by decide) ?_
        exact J353 w14 _ _ _ hrun hP hD hK hS (lv_sub hl [] rfl)
      rcases br9 hrun with ⟨hc15, hrun⟩ | ⟨hc15, hrun⟩
      · refine lv_tableIn (off := 55) (tgt := 123) hx hb dX3_moveInCode_68 (by rw [hc15]; decide) (by rw [hc15]; decide) (by rw [hc15]; rfl) (by decide) ?_
        refine lv_aload_n hx hb dX3_moveInCode_123 rfl (lv_at hl 5 rfl) ?_
        refine va_get (D := (dC, dI)) (ci := 10) (v := .ref (p0a 16)) (C := RX3) (T := TX3) (N := 20) hx hb hts i_X3 hown hK hP 0 rfl rfl 15 (by decide) (hts _ qw906) (fun _ h9 => h9) rfl dX3_moveInCode_124 ?_
        refine lv_iload hx hb dX3_moveInCode_127 (lv_at hl 1 rfl) ?_
        refine lv_iload hx hb dX3_moveInCode_129 (lv_at hl 0 rfl) ?_
        refine lv_iadd hx hb dX3_moveInCode_131 ?_
        obtain ⟨hq16, hrun⟩ := chk9 hrun
        refine va_iald hx hb hK hP 8 7 rfl rfl (ixb_in hq16) dX3_moveInCode_132 ?_
        rcases br9 hrun with ⟨hc17, hrun⟩ | ⟨hc17, hrun⟩
        · refine lv_if_eq (tgt := 353) hx hb dX3_moveInCode_133 (by decide) (fun _ => ?_) (fun c => absurd hc17 c)
          exact J353 w9 _ _ _ hrun hP hD hK hS (lv_sub hl [] rfl)
        · refine lv_if_eq (tgt := 353) hx hb dX3_moveInCode_133 (by decide) (fun c => absurd c hc17) (fun _ => ?_)
          refine lv_aload_n hx hb dX3_moveInCode_136 rfl (lv_at hl 5 rfl) ?_
          refine va_get (D := (dC, dI)) (ci := 10) (v := .ref (p0a 12)) (C := RX3) (T := TX3) (N := 20) hx hb hts i_X3 hown hK hP 0 rfl rfl 11 (by decide) (hts _ qw915) (fun _ h9 => h9) rfl dX3_moveInCode_137 ?_
          refine lv_iload_n hx hb dX3_moveInCode_140 rfl (lv_at hl 4 rfl) ?_
          refine lv_aload_n hx hb dX3_moveInCode_141 rfl (lv_at hl 3 rfl) ?_
          refine va_get (D := (dC, dI)) (ci := 3) (v := .ref ((p0_6_1a 4) 5)) (C := RX9) (T := TX9) (N := 6) hx hb hts i_X9 hown hK hP 44 rfl rfl 4 (by decide) (hts _ qw967) (fun _ h9 => h9) rfl dX3_moveInCode_142 ?_
          refine lv_iload_n hx hb dX3_moveInCode_145 rfl (lv_at hl 2 rfl) ?_
          obtain ⟨hq18, hrun⟩ := chk9 hrun
          refine va_iald hx hb hK hP 48 41 rfl rfl (ixb_in hq18) dX3_moveInCode_146 ?_
          obtain ⟨hq19, hrun⟩ := chk9 hrun
          refine va_iast hx hb hK hP hD hS 4 3 rfl rfl (ixb_in hq19) dX3_moveInCode_147 (fun H locs hP hD hS => ?_)
          have hP : va_P (dC, dI) cls (List.flatten ([(oX3 (p0a 0) p0a p0k p0n (upw w9 12 (nn ((p0w 0 9) - 1)) (((p0_6_1w 4) 5) (nn (p0w 12 (nn ((p0w 0 9) - 1))))))), (oX0 (p0a 7) p0_6a p0_6k p0_6n p0_6w), (oX9 (p0_6_1a 0 0) (p0_6_1a 0) (p0_6_1k 0) (p0_6_1n 0) (p0_6_1w 0)), (oX9 (p0_6_1a 1 0) (p0_6_1a 1) (p0_6_1k 1) (p0_6_1n 1) (p0_6_1w 1)), (oX9 (p0_6_1a 2 0) (p0_6_1a 2) (p0_6_1k 2) (p0_6_1n 2) (p0_6_1w 2)), (oX9 (p0_6_1a 3 0) (p0_6_1a 3) (p0_6_1k 3) (p0_6_1n 3) (p0_6_1w 3)), (oX9 (p0_6_1a 4 0) (p0_6_1a 4) (p0_6_1k 4) (p0_6_1n 4) (p0_6_1w 4)), (oX9 (p0_6_1a 5 0) (p0_6_1a 5) (p0_6_1k 5) (p0_6_1n 5) (p0_6_1w 5)), (oX6 (p0a 5) p0_4a p0_4k p0_4w p0_4l), [((p0_6a 2), .inl (p0_6_1c, 6, .inr (.inr (.inr (.inr (fun i => some (p0_6_1a i 0)))))))]] : List va_W)) H := hP
          have hD : va_D A (List.flatten ([(oX3 (p0a 0) p0a p0k p0n (upw w9 12 (nn ((p0w 0 9) - 1)) (((p0_6_1w 4) 5) (nn (p0w 12 (nn ((p0w 0 9) - 1))))))), (oX0 (p0a 7) p0_6a p0_6k p0_6n p0_6w), (oX9 (p0_6_1a 0 0) (p0_6_1a 0) (p0_6_1k 0) (p0_6_1n 0) (p0_6_1w 0)), (oX9 (p0_6_1a 1 0) (p0_6_1a 1) (p0_6_1k 1) (p0_6_1n 1) (p0_6_1w 1)), (oX9 (p0_6_1a 2 0) (p0_6_1a 2) (p0_6_1k 2) (p0_6_1n 2) (p0_6_1w 2)), (oX9 (p0_6_1a 3 0) (p0_6_1a 3) (p0_6_1k 3) (p0_6_1n 3) (p0_6_1w 3)), (oX9 (p0_6_1a 4 0) (p0_6_1a 4) (p0_6_1k 4) (p0_6_1n 4) (p0_6_1w 4)), (oX9 (p0_6_1a 5 0) (p0_6_1a 5) (p0_6_1k 5) (p0_6_1n 5) (p0_6_1w 5)), (oX6 (p0a 5) p0_4a p0_4k p0_4w p0_4l), [((p0_6a 2), .inl (p0_6_1c, 6, .inr (.inr (.inr (.inr (fun i => some (p0_6_1a i 0)))))))]] : List va_W)) := hD
          obtain ⟨w20, ew20, hrun⟩ := let9 hrun
          rw [← ew20] at hP hD
          refine lv_goto (tgt := 353) hx hb dX3_moveInCode_148 (by decide) ?_
          exact J353 w20 _ _ _ hrun hP hD hK hS (lv_sub hl [] rfl)
      rcases br9 hrun with ⟨hc21, hrun⟩ | ⟨hc21, hrun⟩
      · refine lv_tableIn (off := 111) (tgt := 179) hx hb dX3_moveInCode_68 (by rw [hc21]; decide) (by rw [hc21]; decide) (by rw [hc21]; rfl) (by decide) ?_
        refine lv_aload_n hx hb dX3_moveInCode_179 rfl (lv_at hl 5 rfl) ?_
        refine va_get (D := (dC, dI)) (ci := 10) (v := .ref (p0a 16)) (C := RX3) (T := TX3) (N := 20) hx hb hts i_X3 hown hK hP 0 rfl rfl 15 (by decide) (hts _ qw906) (fun _ h9 => h9) rfl dX3_moveInCode_180 ?_
        refine lv_iload hx hb dX3_moveInCode_183 (lv_at hl 1 rfl) ?_
        refine lv_iload hx hb dX3_moveInCode_185 (lv_at hl 0 rfl) ?_
        refine lv_iadd hx hb dX3_moveInCode_187 ?_
        obtain ⟨hq22, hrun⟩ := chk9 hrun
        refine va_iald hx hb hK hP 8 7 rfl rfl (ixb_in hq22) dX3_moveInCode_188 ?_
        refine lv_istore (lv' := [(6, .int (w9 16 (nn ((((p0w 0 9) - 1) * 320) + (((p0_6_1w 4) 4) (nn (p0w 12 (nn ((p0w 0 9) - 1))))))))), (5, .int (((p0_6_1w 4) 4) (nn (p0w 12 (nn ((p0w 0 9) - 1)))))), (4, .int (((p0w 0 9) - 1) * 320)), (3, .int (p0w 12 (nn ((p0w 0 9) - 1)))), (2, .ref (p0_6_1a 4 0)), (1, .int ((p0w 0 9) - 1)), (0, .ref (p0a 0))]) hx hb dX3_moveInCode_189 hl (by decide) rfl (fun ls hl => ?_)
        refine lv_aload_n hx hb dX3_moveInCode_191 rfl (lv_at hl 6 rfl) ?_
        refine lv_iload hx hb dX3_moveInCode_192 (lv_at hl 0 rfl) ?_
        obtain ⟨o_23, hc_23, hrun⟩ := bnd9 hrun
        have hPx : va_P (dC, dI) cls ((List.flatten ([(oX3 (p0a 0) p0a p0k p0n w9)] : List va_W)) ++ (List.flatten ([(oX0 (p0a 7) p0_6a p0_6k p0_6n p0_6w), (oX9 (p0_6_1a 0 0) (p0_6_1a 0) (p0_6_1k 0) (p0_6_1n 0) (p0_6_1w 0)), (oX9 (p0_6_1a 1 0) (p0_6_1a 1) (p0_6_1k 1) (p0_6_1n 1) (p0_6_1w 1)), (oX9 (p0_6_1a 2 0) (p0_6_1a 2) (p0_6_1k 2) (p0_6_1n 2) (p0_6_1w 2)), (oX9 (p0_6_1a 3 0) (p0_6_1a 3) (p0_6_1k 3) (p0_6_1n 3) (p0_6_1w 3)), (oX9 (p0_6_1a 4 0) (p0_6_1a 4) (p0_6_1k 4) (p0_6_1n 4) (p0_6_1w 4)), (oX9 (p0_6_1a 5 0) (p0_6_1a 5) (p0_6_1k 5) (p0_6_1n 5) (p0_6_1w 5)), (oX6 (p0a 5) p0_4a p0_4k p0_4w p0_4l), [((p0_6a 2), .inl (p0_6_1c, 6, .inr (.inr (.inr (.inr (fun i => some (p0_6_1a i 0)))))))]] : List va_W))) H := vP_fa (vP_perm hP (bP (List.Perm.refl _)))
        have hDx : va_D A ((List.flatten ([(oX3 (p0a 0) p0a p0k p0n w9)] : List va_W)) ++ (List.flatten ([(oX0 (p0a 7) p0_6a p0_6k p0_6n p0_6w), (oX9 (p0_6_1a 0 0) (p0_6_1a 0) (p0_6_1k 0) (p0_6_1n 0) (p0_6_1w 0)), (oX9 (p0_6_1a 1 0) (p0_6_1a 1) (p0_6_1k 1) (p0_6_1n 1) (p0_6_1w 1)), (oX9 (p0_6_1a 2 0) (p0_6_1a 2) (p0_6_1k 2) (p0_6_1n 2) (p0_6_1w 2)), (oX9 (p0_6_1a 3 0) (p0_6_1a 3) (p0_6_1k 3) (p0_6_1n 3) (p0_6_1w 3)), (oX9 (p0_6_1a 4 0) (p0_6_1a 4) (p0_6_1k 4) (p0_6_1n 4) (p0_6_1w 4)), (oX9 (p0_6_1a 5 0) (p0_6_1a 5) (p0_6_1k 5) (p0_6_1n 5) (p0_6_1w 5)), (oX6 (p0a 5) p0_4a p0_4k p0_4w p0_4l), [((p0_6a 2), .inl (p0_6_1c, 6, .inr (.inr (.inr (.inr (fun i => some (p0_6_1a i 0)))))))]] : List va_W))) := vD_fa (vD_perm hD (bP (List.Perm.refl _)))
        have hKx : va_K (dC, dI) cls ((List.flatten ([(tX3 p0k)] : List (List (ClassId × FieldType)))) ++ (List.flatten ([(tX0 p0_6k), (tX9 (p0_6_1k 0)), (tX9 (p0_6_1k 1)), (tX9 (p0_6_1k 2)), (tX9 (p0_6_1k 3)), (tX9 (p0_6_1k 4)), (tX9 (p0_6_1k 5)), (tX6 p0_4k), [(p0_6_1c, .object RX9)]] : List (List (ClassId × FieldType))))) s := vK_fa (vK_perm hK (bP (List.Perm.refl _)))
        have hPc := vP_l hPx
        have hDc := vD_l hDx
        have hKc := vK_l hKx
        have hFc := vfree hDx hS hA
        refine va_calli (va_runV (As := [.int (w9 16 (nn ((((p0w 0 9) - 1) * 320) + (((p0_6_1w 4) 4) (nn (p0w 12 (nn ((p0w 0 9) - 1))))))))]) (rest := []) ⟨hx, hb, hml, hown, hts⟩ (kX3_close l dC dI (p0a := p0a) (p0k := p0k) (p0n := p0n) (p0w := w9) (p1 := (w9 16 (nn ((((p0w 0 9) - 1) * 320) + (((p0_6_1w 4) 4) (nn (p0w 12 (nn ((p0w 0 9) - 1))))))))) (sz := _) (o := o_23) (hrun := hc_23)) (cwV 1 hts (gi_V qw909 qw910 qw911 qw903 (gi_z qw908)) rfl rfl rfl (by decide +kernel) ⟨Nat.le_of_ble_eq_true rfl, Nat.le_of_ble_eq_true rfl⟩) ⟨PRE.blind, va_recv hKc hPc (ci := 10) (q0 := 0) rfl rfl, PRE.of hE hS hFc hPc hKc hDc⟩ rfl rfl hl.1 rfl (lv_room (Nat.le_of_ble_eq_true rfl)) dX3_moveInCode_194 ⟨(Nat.le_of_ble_eq_true rfl), (Nat.le_of_ble_eq_true rfl)⟩) hS (fun q _ h => hFc q h) hFc (fun r24 u t H locs ht hvm hw hB hz1 hk1 hS => ?_)
        obtain ⟨b1, b2, b3⟩ := hB
        rw [ht] at b1
        obtain ⟨hP, hD, hK⟩ := JOINC (wc := (List.flatten ([(oX3 (p0a 0) p0a p0k p0n w9)] : List va_W))) (wr := (List.flatten ([(oX0 (p0a 7) p0_6a p0_6k p0_6n p0_6w), (oX9 (p0_6_1a 0 0) (p0_6_1a 0) (p0_6_1k 0) (p0_6_1n 0) (p0_6_1w 0)), (oX9 (p0_6_1a 1 0) (p0_6_1a 1) (p0_6_1k 1) (p0_6_1n 1) (p0_6_1w 1)), (oX9 (p0_6_1a 2 0) (p0_6_1a 2) (p0_6_1k 2) (p0_6_1n 2) (p0_6_1w 2)), (oX9 (p0_6_1a 3 0) (p0_6_1a 3) (p0_6_1k 3) (p0_6_1n 3) (p0_6_1w 3)), (oX9 (p0_6_1a 4 0) (p0_6_1a 4) (p0_6_1k 4) (p0_6_1n 4) (p0_6_1w 4)), (oX9 (p0_6_1a 5 0) (p0_6_1a 5) (p0_6_1k 5) (p0_6_1n 5) (p0_6_1w 5)), (oX6 (p0a 5) p0_4a p0_4k p0_4w p0_4l), [((p0_6a 2), .inl (p0_6_1c, 6, .inr (.inr (.inr (.inr (fun i => some (p0_6_1a i 0)))))))]] : List va_W))) (w1 := (List.flatten ([(oX3 (p0a 0) p0a p0k p0n (o_23.2))] : List va_W))) (t1 := (List.flatten ([(tX3 p0k)] : List (List (ClassId × FieldType))))) hPx hDx hKx hk1 hFc b1 (va_K.moved hvm.symm b2) b3
        have hP : va_P (dC, dI) cls (List.flatten ([(oX3 (p0a 0) p0a p0k p0n (o_23.2)), (oX0 (p0a 7) p0_6a p0_6k p0_6n p0_6w), (oX9 (p0_6_1a 0 0) (p0_6_1a 0) (p0_6_1k 0) (p0_6_1n 0) (p0_6_1w 0)), (oX9 (p0_6_1a 1 0) (p0_6_1a 1) (p0_6_1k 1) (p0_6_1n 1) (p0_6_1w 1)), (oX9 (p0_6_1a 2 0) (p0_6_1a 2) (p0_6_1k 2) (p0_6_1n 2) (p0_6_1w 2)), (oX9 (p0_6_1a 3 0) (p0_6_1a 3) (p0_6_1k 3) (p0_6_1n 3) (p0_6_1w 3)), (oX9 (p0_6_1a 4 0) (p0_6_1a 4) (p0_6_1k 4) (p0_6_1n 4) (p0_6_1w 4)), (oX9 (p0_6_1a 5 0) (p0_6_1a 5) (p0_6_1k 5) (p0_6_1n 5) (p0_6_1w 5)), (oX6 (p0a 5) p0_4a p0_4k p0_4w p0_4l), [((p0_6a 2), .inl (p0_6_1c, 6, .inr (.inr (.inr (.inr (fun i => some (p0_6_1a i 0)))))))]] : List va_W)) H := vP_perm (vP_fb hP) (bP (List.Perm.refl _))
        have hD : va_D A (List.flatten ([(oX3 (p0a 0) p0a p0k p0n (o_23.2)), (oX0 (p0a 7) p0_6a p0_6k p0_6n p0_6w), (oX9 (p0_6_1a 0 0) (p0_6_1a 0) (p0_6_1k 0) (p0_6_1n 0) (p0_6_1w 0)), (oX9 (p0_6_1a 1 0) (p0_6_1a 1) (p0_6_1k 1) (p0_6_1n 1) (p0_6_1w 1)), (oX9 (p0_6_1a 2 0) (p0_6_1a 2) (p0_6_1k 2) (p0_6_1n 2) (p0_6_1w 2)), (oX9 (p0_6_1a 3 0) (p0_6_1a 3) (p0_6_1k 3) (p0_6_1n 3) (p0_6_1w 3)), (oX9 (p0_6_1a 4 0) (p0_6_1a 4) (p0_6_1k 4) (p0_6_1n 4) (p0_6_1w 4)), (oX9 (p0_6_1a 5 0) (p0_6_1a 5) (p0_6_1k 5) (p0_6_1n 5) (p0_6_1w 5)), (oX6 (p0a 5) p0_4a p0_4k p0_4w p0_4l), [((p0_6a 2), .inl (p0_6_1c, 6, .inr (.inr (.inr (.inr (fun i => some (p0_6_1a i 0)))))))]] : List va_W)) := vD_perm (vD_fb hD) (bP (List.Perm.refl _))
        have hK : va_K (dC, dI) cls (List.flatten ([(tX3 p0k), (tX0 p0_6k), (tX9 (p0_6_1k 0)), (tX9 (p0_6_1k 1)), (tX9 (p0_6_1k 2)), (tX9 (p0_6_1k 3)), (tX9 (p0_6_1k 4)), (tX9 (p0_6_1k 5)), (tX6 p0_4k), [(p0_6_1c, .object RX9)]] : List (List (ClassId × FieldType)))) s := vK_perm (vK_fb hK) (bP (List.Perm.refl _))
        obtain rfl : r24 = (o_23.1) := hw
        rcases br9 hrun with ⟨hc25, hrun⟩ | ⟨hc25, hrun⟩
        · refine lv_if_eq (tgt := 353) hx hb dX3_moveInCode_197 (by decide) (fun _ => ?_) (fun c => absurd hc25 c)
          exact J353 (o_23.2) _ _ _ hrun hP hD hK hS (lv_sub hl [] rfl)
        · refine lv_if_eq (tgt := 353) hx hb dX3_moveInCode_197 (by decide) (fun c => absurd c hc25) (fun _ => ?_)
          refine lv_aload_n hx hb dX3_moveInCode_200 rfl (lv_at hl 6 rfl) ?_
          refine va_get (D := (dC, dI)) (ci := 10) (v := .int ((o_23.2) 0 9)) (C := RX3) (T := TX3) (N := 20) hx hb hts i_X3 hown hK hP 0 rfl rfl 9 (by decide) (hts _ qw897) (fun _ h9 => h9) rfl dX3_moveInCode_201 ?_
          refine lv_iconst (v := 1) hx hb dX3_moveInCode_204 (by decide) ?_
          refine lv_isub hx hb dX3_moveInCode_205 ?_
          refine lv_istore (lv' := [(7, .int (((o_23.2) 0 9) - 1)), (6, .int (w9 16 (nn ((((p0w 0 9) - 1) * 320) + (((p0_6_1w 4) 4) (nn (p0w 12 (nn ((p0w 0 9) - 1))))))))), (5, .int (((p0_6_1w 4) 4) (nn (p0w 12 (nn ((p0w 0 9) - 1)))))), (4, .int (((p0w 0 9) - 1) * 320)), (3, .int (p0w 12 (nn ((p0w 0 9) - 1)))), (2, .ref (p0_6_1a 4 0)), (1, .int ((p0w 0 9) - 1)), (0, .ref (p0a 0))]) hx hb dX3_moveInCode_206 hl (by decide) rfl (fun ls hl => ?_)
          refine lv_aload_n hx hb dX3_moveInCode_208 rfl (lv_at hl 7 rfl) ?_
          refine va_get (D := (dC, dI)) (ci := 10) (v := .ref (p0a 7)) (C := RX3) (T := TX3) (N := 20) hx hb hts i_X3 hown hK hP 0 rfl rfl 6 (by decide) (hts _ qw946) (fun _ h9 => h9) rfl dX3_moveInCode_209 ?_
          refine va_get (D := (dC, dI)) (ci := 8) (v := .ref (p0_6a 2)) (C := RX0) (T := TX0) (N := 17) hx hb hts i_X0 hown hK hP 11 rfl rfl 1 (by decide) (hts _ qw988) (fun _ h9 => h9) rfl dX3_moveInCode_212 ?_
          refine lv_aload_n hx hb dX3_moveInCode_215 rfl (lv_at hl 7 rfl) ?_
          refine va_get (D := (dC, dI)) (ci := 10) (v := .ref (p0a 11)) (C := RX3) (T := TX3) (N := 20) hx hb hts i_X3 hown hK hP 0 rfl rfl 10 (by decide) (hts _ qw913) (fun _ h9 => h9) rfl dX3_moveInCode_216 ?_
          refine lv_iload hx hb dX3_moveInCode_219 (lv_at hl 0 rfl) ?_
          obtain ⟨hq26, hrun⟩ := chk9 hrun
          refine va_iald hx hb hK hP 3 2 rfl rfl (ixb_in hq26) dX3_moveInCode_221 ?_
          obtain ⟨hq27, hrun⟩ := chk9 hrun
          refine va_aldq hx hb hK hP 67 58 rfl rfl (ixb_in hq27) dX3_moveInCode_222 ?_
          obtain ⟨i28, ei28, hrun⟩ := let9 hrun
          have hi_i28 : i28 < 6 := by rw [ei28]; exact ixb_lt hq27
          have es_i28 : Int32.toNatClampNeg (((o_23.2) 11) (nn (((o_23.2) 0 9) - 1))) = i28 := ei28.symm
          rw [es_i28]
          clear ei28
          rcases lt6 hi_i28 with rfl | rfl | rfl | rfl | rfl | rfl
          · refine W.eq (g2 := F0 m 223 ls [.ref (p0_6_1a 0 0)]) rfl ?_
            refine va_get (D := (dC, dI)) (ci := 3) (v := .ref ((p0_6_1a 0) 3)) (C := RX9) (T := TX9) (N := 6) hx hb hts i_X9 hown hK hP 20 rfl rfl 2 (by decide) (hts _ qw918) (fun _ h9 => h9) rfl dX3_moveInCode_223 ?_
            refine lv_aload_n hx hb dX3_moveInCode_226 rfl (lv_at hl 7 rfl) ?_
            refine va_get (D := (dC, dI)) (ci := 10) (v := .ref (p0a 12)) (C := RX3) (T := TX3) (N := 20) hx hb hts i_X3 hown hK hP 0 rfl rfl 11 (by decide) (hts _ qw915) (fun _ h9 => h9) rfl dX3_moveInCode_227 ?_
            refine lv_iload hx hb dX3_moveInCode_230 (lv_at hl 0 rfl) ?_
            obtain ⟨hq29, hrun⟩ := chk9 hrun
            refine va_iald hx hb hK hP 4 3 rfl rfl (ixb_in hq29) dX3_moveInCode_232 ?_
            refine lv_iconst (v := 1) hx hb dX3_moveInCode_233 (by decide) ?_
            refine lv_isub hx hb dX3_moveInCode_234 ?_
            obtain ⟨hq30, hrun⟩ := chk9 hrun
            refine va_iald hx hb hK hP 22 19 rfl rfl (ixb_in hq30) dX3_moveInCode_235 ?_
            refine lv_istore (lv' := [(8, .int (((p0_6_1w 0) 3) (nn ((((o_23.2) 12) (nn (((o_23.2) 0 9) - 1))) - 1)))), (7, .int (((o_23.2) 0 9) - 1)), (6, .int (w9 16 (nn ((((p0w 0 9) - 1) * 320) + (((p0_6_1w 4) 4) (nn (p0w 12 (nn ((p0w 0 9) - 1))))))))), (5, .int (((p0_6_1w 4) 4) (nn (p0w 12 (nn ((p0w 0 9) - 1)))))), (4, .int (((p0w 0 9) - 1) * 320)), (3, .int (p0w 12 (nn ((p0w 0 9) - 1)))), (2, .ref (p0_6_1a 4 0)), (1, .int ((p0w 0 9) - 1)), (0, .ref (p0a 0))]) hx hb dX3_moveInCode_236 hl (by decide) rfl (fun ls hl => ?_)
            refine lv_aload_n hx hb dX3_moveInCode_238 rfl (lv_at hl 8 rfl) ?_
            refine va_get (D := (dC, dI)) (ci := 10) (v := .ref (p0a 16)) (C := RX3) (T := TX3) (N := 20) hx hb hts i_X3 hown hK hP 0 rfl rfl 15 (by decide) (hts _ qw906) (fun _ h9 => h9) rfl dX3_moveInCode_239 ?_
            refine lv_iload hx hb dX3_moveInCode_242 (lv_at hl 1 rfl) ?_
            refine lv_sipush (v := 320) hx hb dX3_moveInCode_244 (by decide) ?_
            refine lv_imul hx hb dX3_moveInCode_247 ?_
            refine lv_iload hx hb dX3_moveInCode_248 (lv_at hl 0 rfl) ?_
            refine lv_iadd hx hb dX3_moveInCode_250 ?_
            refine lv_iload hx hb dX3_moveInCode_251 (lv_at hl 2 rfl) ?_
            obtain ⟨hq31, hrun⟩ := chk9 hrun
            refine va_iast hx hb hK hP hD hS 8 7 rfl rfl (ixb_in hq31) dX3_moveInCode_253 (fun H locs hP hD hS => ?_)
            have hP : va_P (dC, dI) cls (List.flatten ([(oX3 (p0a 0) p0a p0k p0n (upw (o_23.2) 16 (nn (((((o_23.2) 0 9) - 1) * 320) + (((p0_6_1w 0) 3) (nn ((((o_23.2) 12) (nn (((o_23.2) 0 9) - 1))) - 1))))) (w9 16 (nn ((((p0w 0 9) - 1) * 320) + (((p0_6_1w 4) 4) (nn (p0w 12 (nn ((p0w 0 9) - 1)))))))))), (oX0 (p0a 7) p0_6a p0_6k p0_6n p0_6w), (oX9 (p0_6_1a 0 0) (p0_6_1a 0) (p0_6_1k 0) (p0_6_1n 0) (p0_6_1w 0)), (oX9 (p0_6_1a 1 0) (p0_6_1a 1) (p0_6_1k 1) (p0_6_1n 1) (p0_6_1w 1)), (oX9 (p0_6_1a 2 0) (p0_6_1a 2) (p0_6_1k 2) (p0_6_1n 2) (p0_6_1w 2)), (oX9 (p0_6_1a 3 0) (p0_6_1a 3) (p0_6_1k 3) (p0_6_1n 3) (p0_6_1w 3)), (oX9 (p0_6_1a 4 0) (p0_6_1a 4) (p0_6_1k 4) (p0_6_1n 4) (p0_6_1w 4)), (oX9 (p0_6_1a 5 0) (p0_6_1a 5) (p0_6_1k 5) (p0_6_1n 5) (p0_6_1w 5)), (oX6 (p0a 5) p0_4a p0_4k p0_4w p0_4l), [((p0_6a 2), .inl (p0_6_1c, 6, .inr (.inr (.inr (.inr (fun i => some (p0_6_1a i 0)))))))]] : List va_W)) H := hP
            have hD : va_D A (List.flatten ([(oX3 (p0a 0) p0a p0k p0n (upw (o_23.2) 16 (nn (((((o_23.2) 0 9) - 1) * 320) + (((p0_6_1w 0) 3) (nn ((((o_23.2) 12) (nn (((o_23.2) 0 9) - 1))) - 1))))) (w9 16 (nn ((((p0w 0 9) - 1) * 320) + (((p0_6_1w 4) 4) (nn (p0w 12 (nn ((p0w 0 9) - 1)))))))))), (oX0 (p0a 7) p0_6a p0_6k p0_6n p0_6w), (oX9 (p0_6_1a 0 0) (p0_6_1a 0) (p0_6_1k 0) (p0_6_1n 0) (p0_6_1w 0)), (oX9 (p0_6_1a 1 0) (p0_6_1a 1) (p0_6_1k 1) (p0_6_1n 1) (p0_6_1w 1)), (oX9 (p0_6_1a 2 0) (p0_6_1a 2) (p0_6_1k 2) (p0_6_1n 2) (p0_6_1w 2)), (oX9 (p0_6_1a 3 0) (p0_6_1a 3) (p0_6_1k 3) (p0_6_1n 3) (p0_6_1w 3)), (oX9 (p0_6_1a 4 0) (p0_6_1a 4) (p0_6_1k 4) (p0_6_1n 4) (p0_6_1w 4)), (oX9 (p0_6_1a 5 0) (p0_6_1a 5) (p0_6_1k 5) (p0_6_1n 5) (p0_6_1w 5)), (oX6 (p0a 5) p0_4a p0_4k p0_4w p0_4l), [((p0_6a 2), .inl (p0_6_1c, 6, .inr (.inr (.inr (.inr (fun i => some (p0_6_1a i 0)))))))]] : List va_W)) := hD
            obtain ⟨w32, ew32, hrun⟩ := let9 hrun
            rw [← ew32] at hP hD
            refine lv_goto (tgt := 353) hx hb dX3_moveInCode_254 (by decide) ?_
            exact J353 w32 _ _ _ hrun hP hD hK hS (lv_sub hl [] rfl)
          · refine W.eq (g2 := F0 m 223 ls [.ref (p0_6_1a 1 0)]) rfl ?_
            refine va_get (D := (dC, dI)) (ci := 3) (v := .ref ((p0_6_1a 1) 3)) (C := RX9) (T := TX9) (N := 6) hx hb hts i_X9 hown hK hP 26 rfl rfl 2 (by decide) (hts _ qw918) (fun _ h9 => h9) rfl dX3_moveInCode_223 ?_
            refine lv_aload_n hx hb dX3_moveInCode_226 rfl (lv_at hl 7 rfl) ?_
            refine va_get (D := (dC, dI)) (ci := 10) (v := .ref (p0a 12)) (C := RX3) (T := TX3) (N := 20) hx hb hts i_X3 hown hK hP 0 rfl rfl 11 (by decide) (hts _ qw915) (fun _ h9 => h9) rfl dX3_moveInCode_227 ?_
            refine lv_iload hx hb dX3_moveInCode_230 (lv_at hl 0 rfl) ?_
            obtain ⟨hq29, hrun⟩ := chk9 hrun
            refine va_iald hx hb hK hP 4 3 rfl rfl (ixb_in hq29) dX3_moveInCode_232 ?_
            refine lv_iconst (v := 1) hx hb dX3_moveInCode_233 (by decide) ?_
            refine lv_isub hx hb dX3_moveInCode_234 ?_
            obtain ⟨hq30, hrun⟩ := chk9 hrun
            refine va_iald hx hb hK hP 28 24 rfl rfl (ixb_in hq30) dX3_moveInCode_235 ?_
            refine lv_istore (lv' := [(8, .int (((p0_6_1w 1) 3) (nn ((((o_23.2) 12) (nn (((o_23.2) 0 9) - 1))) - 1)))), (7, .int (((o_23.2) 0 9) - 1)), (6, .int (w9 16 (nn ((((p0w 0 9) - 1) * 320) + (((p0_6_1w 4) 4) (nn (p0w 12 (nn ((p0w 0 9) - 1))))))))), (5, .int (((p0_6_1w 4) 4) (nn (p0w 12 (nn ((p0w 0 9) - 1)))))), (4, .int (((p0w 0 9) - 1) * 320)), (3, .int (p0w 12 (nn ((p0w 0 9) - 1)))), (2, .ref (p0_6_1a 4 0)), (1, .int ((p0w 0 9) - 1)), (0, .ref (p0a 0))]) hx hb dX3_moveInCode_236 hl (by decide) rfl (fun ls hl => ?_)
            refine lv_aload_n hx hb dX3_moveInCode_238 rfl (lv_at hl 8 rfl) ?_
            refine va_get (D := (dC, dI)) (ci := 10) (v := .ref (p0a 16)) (C := RX3) (T := TX3) (N := 20) hx hb hts i_X3 hown hK hP 0 rfl rfl 15 (by decide) (hts _ qw906) (fun _ h9 => h9) rfl dX3_moveInCode_239 ?_
            refine lv_iload hx hb dX3_moveInCode_242 (lv_at hl 1 rfl) ?_
            refine lv_sipush (v := 320) hx hb dX3_moveInCode_244 (by decide) ?_
            refine lv_imul hx hb dX3_moveInCode_247 ?_
            refine lv_iload hx hb dX3_moveInCode_248 (lv_at hl 0 rfl) ?_
            refine lv_iadd hx hb dX3_moveInCode_250 ?_
            refine lv_iload hx hb dX3_moveInCode_251 (lv_at hl 2 rfl) ?_
            obtain ⟨hq31, hrun⟩ := chk9 hrun
            refine va_iast hx hb hK hP hD hS 8 7 rfl rfl (ixb_in hq31) dX3_moveInCode_253 (fun H locs hP hD hS => ?_)
            have hP : va_P (dC, dI) cls (List.flatten ([(oX3 (p0a 0) p0a p0k p0n (upw (o_23.2) 16 (nn (((((o_23.2) 0 9) - 1) * 320) + (((p0_6_1w 1) 3) (nn ((((o_23.2) 12) (nn (((o_23.2) 0 9) - 1))) - 1))))) (w9 16 (nn ((((p0w 0 9) - 1) * 320) + (((p0_6_1w 4) 4) (nn (p0w 12 (nn ((p0w 0 9) - 1)))))))))), (oX0 (p0a 7) p0_6a p0_6k p0_6n p0_6w), (oX9 (p0_6_1a 0 0) (p0_6_1a 0) (p0_6_1k 0) (p0_6_1n 0) (p0_6_1w 0)), (oX9 (p0_6_1a 1 0) (p0_6_1a 1) (p0_6_1k 1) (p0_6_1n 1) (p0_6_1w 1)), (oX9 (p0_6_1a 2 0) (p0_6_1a 2) (p0_6_1k 2) (p0_6_1n 2) (p0_6_1w 2)), (oX9 (p0_6_1a 3 0) (p0_6_1a 3) (p0_6_1k 3) (p0_6_1n 3) (p0_6_1w 3)), (oX9 (p0_6_1a 4 0) (p0_6_1a 4) (p0_6_1k 4) (p0_6_1n 4) (p0_6_1w 4)), (oX9 (p0_6_1a 5 0) (p0_6_1a 5) (p0_6_1k 5) (p0_6_1n 5) (p0_6_1w 5)), (oX6 (p0a 5) p0_4a p0_4k p0_4w p0_4l), [((p0_6a 2), .inl (p0_6_1c, 6, .inr (.inr (.inr (.inr (fun i => some (p0_6_1a i 0)))))))]] : List va_W)) H := hP
            have hD : va_D A (List.flatten ([(oX3 (p0a 0) p0a p0k p0n (upw (o_23.2) 16 (nn (((((o_23.2) 0 9) - 1) * 320) + (((p0_6_1w 1) 3) (nn ((((o_23.2) 12) (nn (((o_23.2) 0 9) - 1))) - 1))))) (w9 16 (nn ((((p0w 0 9) - 1) * 320) + (((p0_6_1w 4) 4) (nn (p0w 12 (nn ((p0w 0 9) - 1)))))))))), (oX0 (p0a 7) p0_6a p0_6k p0_6n p0_6w), (oX9 (p0_6_1a 0 0) (p0_6_1a 0) (p0_6_1k 0) (p0_6_1n 0) (p0_6_1w 0)), (oX9 (p0_6_1a 1 0) (p0_6_1a 1) (p0_6_1k 1) (p0_6_1n 1) (p0_6_1w 1)), (oX9 (p0_6_1a 2 0) (p0_6_1a 2) (p0_6_1k 2) (p0_6_1n 2) (p0_6_1w 2)), (oX9 (p0_6_1a 3 0) (p0_6_1a 3) (p0_6_1k 3) (p0_6_1n 3) (p0_6_1w 3)), (oX9 (p0_6_1a 4 0) (p0_6_1a 4) (p0_6_1k 4) (p0_6_1n 4) (p0_6_1w 4)), (oX9 (p0_6_1a 5 0) (p0_6_1a 5) (p0_6_1k 5) (p0_6_1n 5) (p0_6_1w 5)), (oX6 (p0a 5) p0_4a p0_4k p0_4w p0_4l), [((p0_6a 2), .inl (p0_6_1c, 6, .inr (.inr (.inr (.inr (fun i => some (p0_6_1a i 0)))))))]] : List va_W)) := hD
            obtain ⟨w32, ew32, hrun⟩ := let9 hrun
            rw [← ew32] at hP hD
            refine lv_goto (tgt := 353) hx hb dX3_moveInCode_254 (by decide) ?_
            exact J353 w32 _ _ _ hrun hP hD hK hS (lv_sub hl [] rfl)
          · refine W.eq (g2 := F0 m 223 ls [.ref (p0_6_1a 2 0)]) rfl ?_
            refine va_get (D := (dC, dI)) (ci := 3) (v := .ref ((p0_6_1a 2) 3)) (C := RX9) (T := TX9) (N := 6) hx hb hts i_X9 hown hK hP 32 rfl rfl 2 (by decide) (hts _ qw918) (fun _ h9 => h9) rfl dX3_moveInCode_223 ?_
            refine lv_aload_n hx hb dX3_moveInCode_226 rfl (lv_at hl 7 rfl) ?_
            refine va_get (D := (dC, dI)) (ci := 10) (v := .ref (p0a 12)) (C := RX3) (T := TX3) (N := 20) hx hb hts i_X3 hown hK hP 0 rfl rfl 11 (by decide) (hts _ qw915) (fun _ h9 => h9) rfl dX3_moveInCode_227 ?_
            refine lv_iload hx hb dX3_moveInCode_230 (lv_at hl 0 rfl) ?_
            obtain ⟨hq29, hrun⟩ := chk9 hrun
            refine va_iald hx hb hK hP 4 3 rfl rfl (ixb_in hq29) dX3_moveInCode_232 ?_
            refine lv_iconst (v := 1) hx hb dX3_moveInCode_233 (by decide) ?_
            refine lv_isub hx hb dX3_moveInCode_234 ?_
            obtain ⟨hq30, hrun⟩ := chk9 hrun
            refine va_iald hx hb hK hP 34 29 rfl rfl (ixb_in hq30) dX3_moveInCode_235 ?_
            refine lv_istore (lv' := [(8, .int (((p0_6_1w 2) 3) (nn ((((o_23.2) 12) (nn (((o_23.2) 0 9) - 1))) - 1)))), (7, .int (((o_23.2) 0 9) - 1)), (6, .int (w9 16 (nn ((((p0w 0 9) - 1) * 320) + (((p0_6_1w 4) 4) (nn (p0w 12 (nn ((p0w 0 9) - 1))))))))), (5, .int (((p0_6_1w 4) 4) (nn (p0w 12 (nn ((p0w 0 9) - 1)))))), (4, .int (((p0w 0 9) - 1) * 320)), (3, .int (p0w 12 (nn ((p0w 0 9) - 1)))), (2, .ref (p0_6_1a 4 0)), (1, .int ((p0w 0 9) - 1)), (0, .ref (p0a 0))]) hx hb dX3_moveInCode_236 hl (by decide) rfl (fun ls hl => ?_)
            refine lv_aload_n hx hb dX3_moveInCode_238 rfl (lv_at hl 8 rfl) ?_
            refine va_get (D := (dC, dI)) (ci := 10) (v := .ref (p0a 16)) (C := RX3) (T := TX3) (N := 20) hx hb hts i_X3 hown hK hP 0 rfl rfl 15 (by decide) (hts _ qw906) (fun _ h9 => h9) rfl dX3_moveInCode_239 ?_
            refine lv_iload hx hb dX3_moveInCode_242 (lv_at hl 1 rfl) ?_
            refine lv_sipush (v := 320) hx hb dX3_moveInCode_244 (by decide) ?_
            refine lv_imul hx hb dX3_moveInCode_247 ?_
            refine lv_iload hx hb dX3_moveInCode_248 (lv_at hl 0 rfl) ?_
            refine lv_iadd hx hb dX3_moveInCode_250 ?_
            refine lv_iload hx hb dX3_moveInCode_251 (lv_at hl 2 rfl) ?_
            obtain ⟨hq31, hrun⟩ := chk9 hrun
            refine va_iast hx hb hK hP hD hS 8 7 rfl rfl (ixb_in hq31) dX3_moveInCode_253 (fun H locs hP hD hS => ?_)
            have hP : va_P (dC, dI) cls (List.flatten ([(oX3 (p0a 0) p0a p0k p0n (upw (o_23.2) 16 (nn (((((o_23.2) 0 9) - 1) * 320) + (((p0_6_1w 2) 3) (nn ((((o_23.2) 12) (nn (((o_23.2) 0 9) - 1))) - 1))))) (w9 16 (nn ((((p0w 0 9) - 1) * 320) + (((p0_6_1w 4) 4) (nn (p0w 12 (nn ((p0w 0 9) - 1)))))))))), (oX0 (p0a 7) p0_6a p0_6k p0_6n p0_6w), (oX9 (p0_6_1a 0 0) (p0_6_1a 0) (p0_6_1k 0) (p0_6_1n 0) (p0_6_1w 0)), (oX9 (p0_6_1a 1 0) (p0_6_1a 1) (p0_6_1k 1) (p0_6_1n 1) (p0_6_1w 1)), (oX9 (p0_6_1a 2 0) (p0_6_1a 2) (p0_6_1k 2) (p0_6_1n 2) (p0_6_1w 2)), (oX9 (p0_6_1a 3 0) (p0_6_1a 3) (p0_6_1k 3) (p0_6_1n 3) (p0_6_1w 3)), (oX9 (p0_6_1a 4 0) (p0_6_1a 4) (p0_6_1k 4) (p0_6_1n 4) (p0_6_1w 4)), (oX9 (p0_6_1a 5 0) (p0_6_1a 5) (p0_6_1k 5) (p0_6_1n 5) (p0_6_1w 5)), (oX6 (p0a 5) p0_4a p0_4k p0_4w p0_4l), [((p0_6a 2), .inl (p0_6_1c, 6, .inr (.inr (.inr (.inr (fun i => some (p0_6_1a i 0)))))))]] : List va_W)) H := hP
            have hD : va_D A (List.flatten ([(oX3 (p0a 0) p0a p0k p0n (upw (o_23.2) 16 (nn (((((o_23.2) 0 9) - 1) * 320) + (((p0_6_1w 2) 3) (nn ((((o_23.2) 12) (nn (((o_23.2) 0 9) - 1))) - 1))))) (w9 16 (nn ((((p0w 0 9) - 1) * 320) + (((p0_6_1w 4) 4) (nn (p0w 12 (nn ((p0w 0 9) - 1)))))))))), (oX0 (p0a 7) p0_6a p0_6k p0_6n p0_6w), (oX9 (p0_6_1a 0 0) (p0_6_1a 0) (p0_6_1k 0) (p0_6_1n 0) (p0_6_1w 0)), (oX9 (p0_6_1a 1 0) (p0_6_1a 1) (p0_6_1k 1) (p0_6_1n 1) (p0_6_1w 1)), (oX9 (p0_6_1a 2 0) (p0_6_1a 2) (p0_6_1k 2) (p0_6_1n 2) (p0_6_1w 2)), (oX9 (p0_6_1a 3 0) (p0_6_1a 3) (p0_6_1k 3) (p0_6_1n 3) (p0_6_1w 3)), (oX9 (p0_6_1a 4 0) (p0_6_1a 4) (p0_6_1k 4) (p0_6_1n 4) (p0_6_1w 4)), (oX9 (p0_6_1a 5 0) (p0_6_1a 5) (p0_6_1k 5) (p0_6_1n 5) (p0_6_1w 5)), (oX6 (p0a 5) p0_4a p0_4k p0_4w p0_4l), [((p0_6a 2), .inl (p0_6_1c, 6, .inr (.inr (.inr (.inr (fun i => some (p0_6_1a i 0)))))))]] : List va_W)) := hD
            obtain ⟨w32, ew32, hrun⟩ := let9 hrun
            rw [← ew32] at hP hD
            refine lv_goto (tgt := 353) hx hb dX3_moveInCode_254 (by decide) ?_
            exact J353 w32 _ _ _ hrun hP hD hK hS (lv_sub hl [] rfl)
          · refine W.eq (g2 := F0 m 223 ls [.ref (p0_6_1a 3 0)]) rfl ?_
            refine va_get (D := (dC, dI)) (ci := 3) (v := .ref ((p0_6_1a 3) 3)) (C := RX9) (T := TX9) (N := 6) hx hb hts i_X9 hown hK hP 38 rfl rfl 2 (by decide) (hts _ qw918) (fun _ h9 => h9) rfl dX3_moveInCode_223 ?_
            refine lv_aload_n hx hb dX3_moveInCode_226 rfl (lv_at hl 7 rfl) ?_
            refine va_get (D := (dC, dI)) (ci := 10) (v := .ref (p0a 12)) (C := RX3) (T := TX3) (N := 20) hx hb hts i_X3 hown hK hP 0 rfl rfl 11 (by decide) (hts _ qw915) (fun _ h9 => h9) rfl dX3_moveInCode_227 ?_
            refine lv_iload hx hb dX3_moveInCode_230 (lv_at hl 0 rfl) ?_
            obtain ⟨hq29, hrun⟩ := chk9 hrun
            refine va_iald hx hb hK hP 4 3 rfl rfl (ixb_in hq29) dX3_moveInCode_232 ?_
            refine lv_iconst (v := 1) hx hb dX3_moveInCode_233 (by decide) ?_
            refine lv_isub hx hb dX3_moveInCode_234 ?_
            obtain ⟨hq30, hrun⟩ := chk9 hrun
            refine va_iald hx hb hK hP 40 34 rfl rfl (ixb_in hq30) dX3_moveInCode_235 ?_
            refine lv_istore (lv' := [(8, .int (((p0_6_1w 3) 3) (nn ((((o_23.2) 12) (nn (((o_23.2) 0 9) - 1))) - 1)))), (7, .int (((o_23.2) 0 9) - 1)), (6, .int (w9 16 (nn ((((p0w 0 9) - 1) * 320) + (((p0_6_1w 4) 4) (nn (p0w 12 (nn ((p0w 0 9) - 1))))))))), (5, .int (((p0_6_1w 4) 4) (nn (p0w 12 (nn ((p0w 0 9) - 1)))))), (4, .int (((p0w 0 9) - 1) * 320)), (3, .int (p0w 12 (nn ((p0w 0 9) - 1)))), (2, .ref (p0_6_1a 4 0)), (1, .int ((p0w 0 9) - 1)), (0, .ref (p0a 0))]) hx hb dX3_moveInCode_236 hl (by decide) rfl (fun ls hl => ?_)
            refine lv_aload_n hx hb dX3_moveInCode_238 rfl (lv_at hl 8 rfl) ?_
            refine va_get (D := (dC, dI)) (ci := 10) (v := .ref (p0a 16)) (C := RX3) (T := TX3) (N := 20) hx hb hts i_X3 hown hK hP 0 rfl rfl 15 (by decide) (hts _ qw906) (fun _ h9 => h9) rfl dX3_moveInCode_239 ?_
            refine lv_iload hx hb dX3_moveInCode_242 (lv_at hl 1 rfl) ?_
            refine lv_sipush (v := 320) hx hb dX3_moveInCode_244 (by decide) ?_
            refine lv_imul hx hb dX3_moveInCode_247 ?_
            refine lv_iload hx hb dX3_moveInCode_248 (lv_at hl 0 rfl) ?_
            refine lv_iadd hx hb dX3_moveInCode_250 ?_
            refine lv_iload hx hb dX3_moveInCode_251 (lv_at hl 2 rfl) ?_
            obtain ⟨hq31, hrun⟩ := chk9 hrun
            refine va_iast hx hb hK hP hD hS 8 7 rfl rfl (ixb_in hq31) dX3_moveInCode_253 (fun H locs hP hD hS => ?_)
            have hP : va_P (dC, dI) cls (List.flatten ([(oX3 (p0a 0) p0a p0k p0n (upw (o_23.2) 16 (nn (((((o_23.2) 0 9) - 1) * 320) + (((p0_6_1w 3) 3) (nn ((((o_23.2) 12) (nn (((o_23.2) 0 9) - 1))) - 1))))) (w9 16 (nn ((((p0w 0 9) - 1) * 320) + (((p0_6_1w 4) 4) (nn (p0w 12 (nn ((p0w 0 9) - 1)))))))))), (oX0 (p0a 7) p0_6a p0_6k p0_6n p0_6w), (oX9 (p0_6_1a 0 0) (p0_6_1a 0) (p0_6_1k 0) (p0_6_1n 0) (p0_6_1w 0)), (oX9 (p0_6_1a 1 0) (p0_6_1a 1) (p0_6_1k 1) (p0_6_1n 1) (p0_6_1w 1)), (oX9 (p0_6_1a 2 0) (p0_6_1a 2) (p0_6_1k 2) (p0_6_1n 2) (p0_6_1w 2)), (oX9 (p0_6_1a 3 0) (p0_6_1a 3) (p0_6_1k 3) (p0_6_1n 3) (p0_6_1w 3)), (oX9 (p0_6_1a 4 0) (p0_6_1a 4) (p0_6_1k 4) (p0_6_1n 4) (p0_6_1w 4)), (oX9 (p0_6_1a 5 0) (p0_6_1a 5) (p0_6_1k 5) (p0_6_1n 5) (p0_6_1w 5)), (oX6 (p0a 5) p0_4a p0_4k p0_4w p0_4l), [((p0_6a 2), .inl (p0_6_1c, 6, .inr (.inr (.inr (.inr (fun i => some (p0_6_1a i 0)))))))]] : List va_W)) H := hP
            have hD : va_D A (List.flatten ([(oX3 (p0a 0) p0a p0k p0n (upw (o_23.2) 16 (nn (((((o_23.2) 0 9) - 1) * 320) + (((p0_6_1w 3) 3) (nn ((((o_23.2) 12) (nn (((o_23.2) 0 9) - 1))) - 1))))) (w9 16 (nn ((((p0w 0 9) - 1) * 320) + (((p0_6_1w 4) 4) (nn (p0w 12 (nn ((p0w 0 9) - 1)))))))))), (oX0 (p0a 7) p0_6a p0_6k p0_6n p0_6w), (oX9 (p0_6_1a 0 0) (p0_6_1a 0) (p0_6_1k 0) (p0_6_1n 0) (p0_6_1w 0)), (oX9 (p0_6_1a 1 0) (p0_6_1a 1) (p0_6_1k 1) (p0_6_1n 1) (p0_6_1w 1)), (oX9 (p0_6_1a 2 0) (p0_6_1a 2) (p0_6_1k 2) (p0_6_1n 2) (p0_6_1w 2)), (oX9 (p0_6_1a 3 0) (p0_6_1a 3) (p0_6_1k 3) (p0_6_1n 3) (p0_6_1w 3)), (oX9 (p0_6_1a 4 0) (p0_6_1a 4) (p0_6_1k 4) (p0_6_1n 4) (p0_6_1w 4)), (oX9 (p0_6_1a 5 0) (p0_6_1a 5) (p0_6_1k 5) (p0_6_1n 5) (p0_6_1w 5)), (oX6 (p0a 5) p0_4a p0_4k p0_4w p0_4l), [((p0_6a 2), .inl (p0_6_1c, 6, .inr (.inr (.inr (.inr (fun i => some (p0_6_1a i 0)))))))]] : List va_W)) := hD
            obtain ⟨w32, ew32, hrun⟩ := let9 hrun
            rw [← ew32] at hP hD
            refine lv_goto (tgt := 353) hx hb dX3_moveInCode_254 (by decide) ?_
            exact J353 w32 _ _ _ hrun hP hD hK hS (lv_sub hl [] rfl)
          · refine W.eq (g2 := F0 m 223 ls [.ref (p0_6_1a 4 0)]) rfl ?_
            refine va_get (D := (dC, dI)) (ci := 3) (v := .ref ((p0_6_1a 4) 3)) (C := RX9) (T := TX9) (N := 6) hx hb hts i_X9 hown hK hP 44 rfl rfl 2 (by decide) (hts _ qw918) (fun _ h9 => h9) rfl dX3_moveInCode_223 ?_
            refine lv_aload_n hx hb dX3_moveInCode_226 rfl (lv_at hl 7 rfl) ?_
            refine va_get (D := (dC, dI)) (ci := 10) (v := .ref (p0a 12)) (C := RX3) (T := TX3) (N := 20) hx hb hts i_X3 hown hK hP 0 rfl rfl 11 (by decide) (hts _ qw915) (fun _ h9 => h9) rfl dX3_moveInCode_227 ?_
            refine lv_iload hx hb dX3_moveInCode_230 (lv_at hl 0 rfl) ?_
            obtain ⟨hq29, hrun⟩ := chk9 hrun
            refine va_iald hx hb hK hP 4 3 rfl rfl (ixb_in hq29) dX3_moveInCode_232 ?_
            refine lv_iconst (v := 1) hx hb dX3_moveInCode_233 (by decide) ?_
            refine lv_isub hx hb dX3_moveInCode_234 ?_
            obtain ⟨hq30, hrun⟩ := chk9 hrun
            refine va_iald hx hb hK hP 46 39 rfl rfl (ixb_in hq30) dX3_moveInCode_235 ?_
            refine lv_istore (lv' := [(8, .int (((p0_6_1w 4) 3) (nn ((((o_23.2) 12) (nn (((o_23.2) 0 9) - 1))) - 1)))), (7, .int (((o_23.2) 0 9) - 1)), (6, .int (w9 16 (nn ((((p0w 0 9) - 1) * 320) + (((p0_6_1w 4) 4) (nn (p0w 12 (nn ((p0w 0 9) - 1))))))))), (5, .int (((p0_6_1w 4) 4) (nn (p0w 12 (nn ((p0w 0 9) - 1)))))), (4, .int (((p0w 0 9) - 1) * 320)), (3, .int (p0w 12 (nn ((p0w 0 9) - 1)))), (2, .ref (p0_6_1a 4 0)), (1, .int ((p0w 0 9) - 1)), (0, .ref (p0a 0))]) hx hb dX3_moveInCode_236 hl (by decide) rfl (fun ls hl => ?_)
            refine lv_aload_n hx hb dX3_moveInCode_238 rfl (lv_at hl 8 rfl) ?_
            refine va_get (D := (dC, dI)) (ci := 10) (v := .ref (p0a 16)) (C := RX3) (T := TX3) (N := 20) hx hb hts i_X3 hown hK hP 0 rfl rfl 15 (by decide) (hts _ qw906) (fun _ h9 => h9) rfl dX3_moveInCode_239 ?_
            refine lv_iload hx hb dX3_moveInCode_242 (lv_at hl 1 rfl) ?_
            refine lv_sipush (v := 320) hx hb dX3_moveInCode_244 (by decide) ?_
            refine lv_imul hx hb dX3_moveInCode_247 ?_
            refine lv_iload hx hb dX3_moveInCode_248 (lv_at hl 0 rfl) ?_
            refine lv_iadd hx hb dX3_moveInCode_250 ?_
            refine lv_iload hx hb dX3_moveInCode_251 (lv_at hl 2 rfl) ?_
            obtain ⟨hq31, hrun⟩ := chk9 hrun
            refine va_iast hx hb hK hP hD hS 8 7 rfl rfl (ixb_in hq31) dX3_moveInCode_253 (fun H locs hP hD hS => ?_)
            have hP : va_P (dC, dI) cls (List.flatten ([(oX3 (p0a 0) p0a p0k p0n (upw (o_23.2) 16 (nn (((((o_23.2) 0 9) - 1) * 320) + (((p0_6_1w 4) 3) (nn ((((o_23.2) 12) (nn (((o_23.2) 0 9) - 1))) - 1))))) (w9 16 (nn ((((p0w 0 9) - 1) * 320) + (((p0_6_1w 4) 4) (nn (p0w 12 (nn ((p0w 0 9) - 1)))))))))), (oX0 (p0a 7) p0_6a p0_6k p0_6n p0_6w), (oX9 (p0_6_1a 0 0) (p0_6_1a 0) (p0_6_1k 0) (p0_6_1n 0) (p0_6_1w 0)), (oX9 (p0_6_1a 1 0) (p0_6_1a 1) (p0_6_1k 1) (p0_6_1n 1) (p0_6_1w 1)), (oX9 (p0_6_1a 2 0) (p0_6_1a 2) (p0_6_1k 2) (p0_6_1n 2) (p0_6_1w 2)), (oX9 (p0_6_1a 3 0) (p0_6_1a 3) (p0_6_1k 3) (p0_6_1n 3) (p0_6_1w 3)), (oX9 (p0_6_1a 4 0) (p0_6_1a 4) (p0_6_1k 4) (p0_6_1n 4) (p0_6_1w 4)), (oX9 (p0_6_1a 5 0) (p0_6_1a 5) (p0_6_1k 5) (p0_6_1n 5) (p0_6_1w 5)), (oX6 (p0a 5) p0_4a p0_4k p0_4w p0_4l), [((p0_6a 2), .inl (p0_6_1c, 6, .inr (.inr (.inr (.inr (fun i => some (p0_6_1a i 0)))))))]] : List va_W)) H := hP
            have hD : va_D A (List.flatten ([(oX3 (p0a 0) p0a p0k p0n (upw (o_23.2) 16 (nn (((((o_23.2) 0 9) - 1) * 320) + (((p0_6_1w 4) 3) (nn ((((o_23.2) 12) (nn (((o_23.2) 0 9) - 1))) - 1))))) (w9 16 (nn ((((p0w 0 9) - 1) * 320) + (((p0_6_1w 4) 4) (nn (p0w 12 (nn ((p0w 0 9) - 1)))))))))), (oX0 (p0a 7) p0_6a p0_6k p0_6n p0_6w), (oX9 (p0_6_1a 0 0) (p0_6_1a 0) (p0_6_1k 0) (p0_6_1n 0) (p0_6_1w 0)), (oX9 (p0_6_1a 1 0) (p0_6_1a 1) (p0_6_1k 1) (p0_6_1n 1) (p0_6_1w 1)), (oX9 (p0_6_1a 2 0) (p0_6_1a 2) (p0_6_1k 2) (p0_6_1n 2) (p0_6_1w 2)), (oX9 (p0_6_1a 3 0) (p0_6_1a 3) (p0_6_1k 3) (p0_6_1n 3) (p0_6_1w 3)), (oX9 (p0_6_1a 4 0) (p0_6_1a 4) (p0_6_1k 4) (p0_6_1n 4) (p0_6_1w 4)), (oX9 (p0_6_1a 5 0) (p0_6_1a 5) (p0_6_1k 5) (p0_6_1n 5) (p0_6_1w 5)), (oX6 (p0a 5) p0_4a p0_4k p0_4w p0_4l), [((p0_6a 2), .inl (p0_6_1c, 6, .inr (.inr (.inr (.inr (fun i => some (p0_6_1a i 0)))))))]] : List va_W)) := hD
            obtain ⟨w32, ew32, hrun⟩ := let9 hrun
            rw [← ew32] at hP hD
            refine lv_goto (tgt := 353) hx hb dX3_moveInCode_254 (by decide) ?_
            exact J353 w32 _ _ _ hrun hP hD hK hS (lv_sub hl [] rfl)
          · refine W.eq (g2 := F0 m 223 ls [.ref (p0_6_1a 5 0)]) rfl ?_
            refine va_get (D := (dC, dI)) (ci := 3) (v := .ref ((p0_6_1a 5) 3)) (C := RX9) (T := TX9) (N := 6) hx hb hts i_X9 hown hK hP 50 rfl rfl 2 (by decide) (hts _ qw918) (fun _ h9 => h9) rfl dX3_moveInCode_223 ?_
            refine lv_aload_n hx hb dX3_moveInCode_226 rfl (lv_at hl 7 rfl) ?_
            refine va_get (D := (dC, dI)) (ci := 10) (v := .ref (p0a 12)) (C := RX3) (T := TX3) (N := 20) hx hb hts i_X3 hown hK hP 0 rfl rfl 11 (by decide) (hts _ qw915) (fun _ h9 => h9) rfl dX3_moveInCode_227 ?_
            refine lv_iload hx hb dX3_moveInCode_230 (lv_at hl 0 rfl) ?_
            obtain ⟨hq29, hrun⟩ := chk9 hrun
            refine va_iald hx hb hK hP 4 3 rfl rfl (ixb_in hq29) dX3_moveInCode_232 ?_
            refine lv_iconst (v := 1) hx hb dX3_moveInCode_233 (by decide) ?_
            refine lv_isub hx hb dX3_moveInCode_234 ?_
            obtain ⟨hq30, hrun⟩ := chk9 hrun
            refine va_iald hx hb hK hP 52 44 rfl rfl (ixb_in hq30) dX3_moveInCode_235 ?_
            refine lv_istore (lv' := [(8, .int (((p0_6_1w 5) 3) (nn ((((o_23.2) 12) (nn (((o_23.2) 0 9) - 1))) - 1)))), (7, .int (((o_23.2) 0 9) - 1)), (6, .int (w9 16 (nn ((((p0w 0 9) - 1) * 320) + (((p0_6_1w 4) 4) (nn (p0w 12 (nn ((p0w 0 9) - 1))))))))), (5, .int (((p0_6_1w 4) 4) (nn (p0w 12 (nn ((p0w 0 9) - 1)))))), (4, .int (((p0w 0 9) - 1) * 320)), (3, .int (p0w 12 (nn ((p0w 0 9) - 1)))), (2, .ref (p0_6_1a 4 0)), (1, .int ((p0w 0 9) - 1)), (0, .ref (p0a 0))]) hx hb dX3_moveInCode_236 hl (by decide) rfl (fun ls hl => ?_)
            refine lv_aload_n hx hb dX3_moveInCode_238 rfl (lv_at hl 8 rfl) ?_
            refine va_get (D := (dC, dI)) (ci := 10) (v := .ref (p0a 16)) (C := RX3) (T := TX3) (N := 20) hx hb hts i_X3 hown hK hP 0 rfl rfl 15 (by decide) (hts _ qw906) (fun _ h9 => h9) rfl dX3_moveInCode_239 ?_
            refine lv_iload hx hb dX3_moveInCode_242 (lv_at hl 1 rfl) ?_
            refine lv_sipush (v := 320) hx hb dX3_moveInCode_244 (by decide) ?_
            refine lv_imul hx hb dX3_moveInCode_247 ?_
            refine lv_iload hx hb dX3_moveInCode_248 (lv_at hl 0 rfl) ?_
            refine lv_iadd hx hb dX3_moveInCode_250 ?_
            refine lv_iload hx hb dX3_moveInCode_251 (lv_at hl 2 rfl) ?_
            obtain ⟨hq31, hrun⟩ := chk9 hrun
            refine va_iast hx hb hK hP hD hS 8 7 rfl rfl (ixb_in hq31) dX3_moveInCode_253 (fun H locs hP hD hS => ?_)
            have hP : va_P (dC, dI) cls (List.flatten ([(oX3 (p0a 0) p0a p0k p0n (upw (o_23.2) 16 (nn (((((o_23.2) 0 9) - 1) * 320) + (((p0_6_1w 5) 3) (nn ((((o_23.2) 12) (nn (((o_23.2) 0 9) - 1))) - 1))))) (w9 16 (nn ((((p0w 0 9) - 1) * 320) + (((p0_6_1w 4) 4) (nn (p0w 12 (nn ((p0w 0 9) - 1)))))))))), (oX0 (p0a 7) p0_6a p0_6k p0_6n p0_6w), (oX9 (p0_6_1a 0 0) (p0_6_1a 0) (p0_6_1k 0) (p0_6_1n 0) (p0_6_1w 0)), (oX9 (p0_6_1a 1 0) (p0_6_1a 1) (p0_6_1k 1) (p0_6_1n 1) (p0_6_1w 1)), (oX9 (p0_6_1a 2 0) (p0_6_1a 2) (p0_6_1k 2) (p0_6_1n 2) (p0_6_1w 2)), (oX9 (p0_6_1a 3 0) (p0_6_1a 3) (p0_6_1k 3) (p0_6_1n 3) (p0_6_1w 3)), (oX9 (p0_6_1a 4 0) (p0_6_1a 4) (p0_6_1k 4) (p0_6_1n 4) (p0_6_1w 4)), (oX9 (p0_6_1a 5 0) (p0_6_1a 5) (p0_6_1k 5) (p0_6_1n 5) (p0_6_1w 5)), (oX6 (p0a 5) p0_4a p0_4k p0_4w p0_4l), [((p0_6a 2), .inl (p0_6_1c, 6, .inr (.inr (.inr (.inr (fun i => some (p0_6_1a i 0)))))))]] : List va_W)) H := hP
            have hD : va_D A (List.flatten ([(oX3 (p0a 0) p0a p0k p0n (upw (o_23.2) 16 (nn (((((o_23.2) 0 9) - 1) * 320) + (((p0_6_1w 5) 3) (nn ((((o_23.2) 12) (nn (((o_23.2) 0 9) - 1))) - 1))))) (w9 16 (nn ((((p0w 0 9) - 1) * 320) + (((p0_6_1w 4) 4) (nn (p0w 12 (nn ((p0w 0 9) - 1)))))))))), (oX0 (p0a 7) p0_6a p0_6k p0_6n p0_6w), (oX9 (p0_6_1a 0 0) (p0_6_1a 0) (p0_6_1k 0) (p0_6_1n 0) (p0_6_1w 0)), (oX9 (p0_6_1a 1 0) (p0_6_1a 1) (p0_6_1k 1) (p0_6_1n 1) (p0_6_1w 1)), (oX9 (p0_6_1a 2 0) (p0_6_1a 2) (p0_6_1k 2) (p0_6_1n 2) (p0_6_1w 2)), (oX9 (p0_6_1a 3 0) (p0_6_1a 3) (p0_6_1k 3) (p0_6_1n 3) (p0_6_1w 3)), (oX9 (p0_6_1a 4 0) (p0_6_1a 4) (p0_6_1k 4) (p0_6_1n 4) (p0_6_1w 4)), (oX9 (p0_6_1a 5 0) (p0_6_1a 5) (p0_6_1k 5) (p0_6_1n 5) (p0_6_1w 5)), (oX6 (p0a 5) p0_4a p0_4k p0_4w p0_4l), [((p0_6a 2), .inl (p0_6_1c, 6, .inr (.inr (.inr (.inr (fun i => some (p0_6_1a i 0)))))))]] : List va_W)) := hD
            obtain ⟨w32, ew32, hrun⟩ := let9 hrun
            rw [← ew32] at hP hD
            refine lv_goto (tgt := 353) hx hb dX3_moveInCode_254 (by decide) ?_
            exact J353 w32 _ _ _ hrun hP hD hK hS (lv_sub hl [] rfl)
      rcases br9 hrun with ⟨hc33, hrun⟩ | ⟨hc33, hrun⟩
      · refine lv_tableIn (off := 189) (tgt := 257) hx hb dX3_moveInCode_68 (by rw [hc33]; decide) (by rw [hc33]; decide) (by rw [hc33]; rfl) (by decide) ?_
        refine lv_aload_n hx hb dX3_moveInCode_257 rfl (lv_at hl 5 rfl) ?_
        refine va_get (D := (dC, dI)) (ci := 10) (v := .ref (p0a 16)) (C := RX3) (T := TX3) (N := 20) hx hb hts i_X3 hown hK hP 0 rfl rfl 15 (by decide) (hts _ qw906) (fun _ h9 => h9) rfl dX3_moveInCode_258 ?_
        refine lv_iload hx hb dX3_moveInCode_261 (lv_at hl 1 rfl) ?_
        refine lv_aload_n hx hb dX3_moveInCode_263 rfl (lv_at hl 3 rfl) ?_
        refine va_get (D := (dC, dI)) (ci := 3) (v := .ref ((p0_6_1a 4) 3)) (C := RX9) (T := TX9) (N := 6) hx hb hts i_X9 hown hK hP 44 rfl rfl 2 (by decide) (hts _ qw918) (fun _ h9 => h9) rfl dX3_moveInCode_264 ?_
        refine lv_iload_n hx hb dX3_moveInCode_267 rfl (lv_at hl 2 rfl) ?_
        obtain ⟨hq34, hrun⟩ := chk9 hrun
        refine va_iald hx hb hK hP 46 39 rfl rfl (ixb_in hq34) dX3_moveInCode_268 ?_
        refine lv_iadd hx hb dX3_moveInCode_269 ?_
        refine lv_aload_n hx hb dX3_moveInCode_270 rfl (lv_at hl 5 rfl) ?_
        refine va_get (D := (dC, dI)) (ci := 10) (v := .ref (p0a 16)) (C := RX3) (T := TX3) (N := 20) hx hb hts i_X3 hown hK hP 0 rfl rfl 15 (by decide) (hts _ qw906) (fun _ h9 => h9) rfl dX3_moveInCode_271 ?_
        refine lv_iload hx hb dX3_moveInCode_274 (lv_at hl 1 rfl) ?_
        refine lv_iload hx hb dX3_moveInCode_276 (lv_at hl 0 rfl) ?_
        refine lv_iadd hx hb dX3_moveInCode_278 ?_
        obtain ⟨hq35, hrun⟩ := chk9 hrun
        refine va_iald hx hb hK hP 8 7 rfl rfl (ixb_in hq35) dX3_moveInCode_279 ?_
        obtain ⟨hq36, hrun⟩ := chk9 hrun
        refine va_iast hx hb hK hP hD hS 8 7 rfl rfl (ixb_in hq36) dX3_moveInCode_280 (fun H locs hP hD hS => ?_)
        have hP : va_P (dC, dI) cls (List.flatten ([(oX3 (p0a 0) p0a p0k p0n (upw w9 16 (nn ((((p0w 0 9) - 1) * 320) + (((p0_6_1w 4) 3) (nn (p0w 12 (nn ((p0w 0 9) - 1))))))) (w9 16 (nn ((((p0w 0 9) - 1) * 320) + (((p0_6_1w 4) 4) (nn (p0w 12 (nn ((p0w 0 9) - 1)))))))))), (oX0 (p0a 7) p0_6a p0_6k p0_6n p0_6w), (oX9 (p0_6_1a 0 0) (p0_6_1a 0) (p0_6_1k 0) (p0_6_1n 0) (p0_6_1w 0)), (oX9 (p0_6_1a 1 0) (p0_6_1a 1) (p0_6_1k 1) (p0_6_1n 1) (p0_6_1w 1)), (oX9 (p0_6_1a 2 0) (p0_6_1a 2) (p0_6_1k 2) (p0_6_1n 2) (p0_6_1w 2)), (oX9 (p0_6_1a 3 0) (p0_6_1a 3) (p0_6_1k 3) (p0_6_1n 3) (p0_6_1w 3)), (oX9 (p0_6_1a 4 0) (p0_6_1a 4) (p0_6_1k 4) (p0_6_1n 4) (p0_6_1w 4)), (oX9 (p0_6_1a 5 0) (p0_6_1a 5) (p0_6_1k 5) (p0_6_1n 5) (p0_6_1w 5)), (oX6 (p0a 5) p0_4a p0_4k p0_4w p0_4l), [((p0_6a 2), .inl (p0_6_1c, 6, .inr (.inr (.inr (.inr (fun i => some (p0_6_1a i 0)))))))]] : List va_W)) H := hP
        have hD : va_D A (List.flatten ([(oX3 (p0a 0) p0a p0k p0n (upw w9 16 (nn ((((p0w 0 9) - 1) * 320) + (((p0_6_1w 4) 3) (nn (p0w 12 (nn ((p0w 0 9) - 1))))))) (w9 16 (nn ((((p0w 0 9) - 1) * 320) + (((p0_6_1w 4) 4) (nn (p0w 12 (nn ((p0w 0 9) - 1)))))))))), (oX0 (p0a 7) p0_6a p0_6k p0_6n p0_6w), (oX9 (p0_6_1a 0 0) (p0_6_1a 0) (p0_6_1k 0) (p0_6_1n 0) (p0_6_1w 0)), (oX9 (p0_6_1a 1 0) (p0_6_1a 1) (p0_6_1k 1) (p0_6_1n 1) (p0_6_1w 1)), (oX9 (p0_6_1a 2 0) (p0_6_1a 2) (p0_6_1k 2) (p0_6_1n 2) (p0_6_1w 2)), (oX9 (p0_6_1a 3 0) (p0_6_1a 3) (p0_6_1k 3) (p0_6_1n 3) (p0_6_1w 3)), (oX9 (p0_6_1a 4 0) (p0_6_1a 4) (p0_6_1k 4) (p0_6_1n 4) (p0_6_1w 4)), (oX9 (p0_6_1a 5 0) (p0_6_1a 5) (p0_6_1k 5) (p0_6_1n 5) (p0_6_1w 5)), (oX6 (p0a 5) p0_4a p0_4k p0_4w p0_4l), [((p0_6a 2), .inl (p0_6_1c, 6, .inr (.inr (.inr (.inr (fun i => some (p0_6_1a i 0)))))))]] : List va_W)) := hD
        obtain ⟨w37, ew37, hrun⟩ := let9 hrun
        rw [← ew37] at hP hD
        refine lv_goto (tgt := 353) hx hb dX3_moveInCode_281 (by decide) ?_
        exact J353 w37 _ _ _ hrun hP hD hK hS (lv_sub hl [] rfl)
      rcases br9 hrun with ⟨hc38, hrun⟩ | ⟨hc38, hrun⟩
      · refine lv_tableIn (off := 216) (tgt := 284) hx hb dX3_moveInCode_68 (by rw [hc38]; decide) (by rw [hc38]; decide) (by rw [hc38]; rfl) (by decide) ?_
        refine lv_aload_n hx hb dX3_moveInCode_284 rfl (lv_at hl 5 rfl) ?_
        refine va_get (D := (dC, dI)) (ci := 10) (v := .ref (p0a 16)) (C := RX3) (T := TX3) (N := 20) hx hb hts i_X3 hown hK hP 0 rfl rfl 15 (by decide) (hts _ qw906) (fun _ h9 => h9) rfl dX3_moveInCode_285 ?_
        refine lv_iload hx hb dX3_moveInCode_288 (lv_at hl 1 rfl) ?_
        refine lv_aload_n hx hb dX3_moveInCode_290 rfl (lv_at hl 3 rfl) ?_
        refine va_get (D := (dC, dI)) (ci := 3) (v := .ref ((p0_6_1a 4) 3)) (C := RX9) (T := TX9) (N := 6) hx hb hts i_X9 hown hK hP 44 rfl rfl 2 (by decide) (hts _ qw918) (fun _ h9 => h9) rfl dX3_moveInCode_291 ?_
        refine lv_iload_n hx hb dX3_moveInCode_294 rfl (lv_at hl 2 rfl) ?_
        obtain ⟨hq39, hrun⟩ := chk9 hrun
        refine va_iald hx hb hK hP 46 39 rfl rfl (ixb_in hq39) dX3_moveInCode_295 ?_
        refine lv_iadd hx hb dX3_moveInCode_296 ?_
        refine lv_aload_n hx hb dX3_moveInCode_297 rfl (lv_at hl 5 rfl) ?_
        refine va_get (D := (dC, dI)) (ci := 10) (v := .ref (p0a 17)) (C := RX3) (T := TX3) (N := 20) hx hb hts i_X3 hown hK hP 0 rfl rfl 16 (by decide) (hts _ qw935) (fun _ h9 => h9) rfl dX3_moveInCode_298 ?_
        refine lv_iload_n hx hb dX3_moveInCode_301 rfl (lv_at hl 4 rfl) ?_
        refine lv_aload_n hx hb dX3_moveInCode_302 rfl (lv_at hl 5 rfl) ?_
        refine va_get (D := (dC, dI)) (ci := 10) (v := .int (w9 0 17)) (C := RX3) (T := TX3) (N := 20) hx hb hts i_X3 hown hK hP 0 rfl rfl 17 (by decide) (hts _ qw936) (fun _ h9 => h9) rfl dX3_moveInCode_303 ?_
        refine lv_imul hx hb dX3_moveInCode_306 ?_
        refine lv_iload hx hb dX3_moveInCode_307 (lv_at hl 0 rfl) ?_
        refine lv_iadd hx hb dX3_moveInCode_309 ?_
        obtain ⟨hq40, hrun⟩ := chk9 hrun
        refine va_iald hx hb hK hP 9 8 rfl rfl (ixb_in hq40) dX3_moveInCode_310 ?_
        obtain ⟨hq41, hrun⟩ := chk9 hrun
        refine va_iast hx hb hK hP hD hS 8 7 rfl rfl (ixb_in hq41) dX3_moveInCode_311 (fun H locs hP hD hS => ?_)
        have hP : va_P (dC, dI) cls (List.flatten ([(oX3 (p0a 0) p0a p0k p0n (upw w9 16 (nn ((((p0w 0 9) - 1) * 320) + (((p0_6_1w 4) 3) (nn (p0w 12 (nn ((p0w 0 9) - 1))))))) (w9 17 (nn ((((p0w 0 9) - 1) * (w9 0 17)) + (((p0_6_1w 4) 4) (nn (p0w 12 (nn ((p0w 0 9) - 1)))))))))), (oX0 (p0a 7) p0_6a p0_6k p0_6n p0_6w), (oX9 (p0_6_1a 0 0) (p0_6_1a 0) (p0_6_1k 0) (p0_6_1n 0) (p0_6_1w 0)), (oX9 (p0_6_1a 1 0) (p0_6_1a 1) (p0_6_1k 1) (p0_6_1n 1) (p0_6_1w 1)), (oX9 (p0_6_1a 2 0) (p0_6_1a 2) (p0_6_1k 2) (p0_6_1n 2) (p0_6_1w 2)), (oX9 (p0_6_1a 3 0) (p0_6_1a 3) (p0_6_1k 3) (p0_6_1n 3) (p0_6_1w 3)), (oX9 (p0_6_1a 4 0) (p0_6_1a 4) (p0_6_1k 4) (p0_6_1n 4) (p0_6_1w 4)), (oX9 (p0_6_1a 5 0) (p0_6_1a 5) (p0_6_1k 5) (p0_6_1n 5) (p0_6_1w 5)), (oX6 (p0a 5) p0_4a p0_4k p0_4w p0_4l), [((p0_6a 2), .inl (p0_6_1c, 6, .inr (.inr (.inr (.inr (fun i => some (p0_6_1a i 0)))))))]] : List va_W)) H := hP
        have hD : va_D A (List.flatten ([(oX3 (p0a 0) p0a p0k p0n (upw w9 16 (nn ((((p0w 0 9) - 1) * 320) + (((p0_6_1w 4) 3) (nn (p0w 12 (nn ((p0w 0 9) - 1))))))) (w9 17 (nn ((((p0w 0 9) - 1) * (w9 0 17)) + (((p0_6_1w 4) 4) (nn (p0w 12 (nn ((p0w 0 9) - 1)))))))))), (oX0 (p0a 7) p0_6a p0_6k p0_6n p0_6w), (oX9 (p0_6_1a 0 0) (p0_6_1a 0) (p0_6_1k 0) (p0_6_1n 0) (p0_6_1w 0)), (oX9 (p0_6_1a 1 0) (p0_6_1a 1) (p0_6_1k 1) (p0_6_1n 1) (p0_6_1w 1)), (oX9 (p0_6_1a 2 0) (p0_6_1a 2) (p0_6_1k 2) (p0_6_1n 2) (p0_6_1w 2)), (oX9 (p0_6_1a 3 0) (p0_6_1a 3) (p0_6_1k 3) (p0_6_1n 3) (p0_6_1w 3)), (oX9 (p0_6_1a 4 0) (p0_6_1a 4) (p0_6_1k 4) (p0_6_1n 4) (p0_6_1w 4)), (oX9 (p0_6_1a 5 0) (p0_6_1a 5) (p0_6_1k 5) (p0_6_1n 5) (p0_6_1w 5)), (oX6 (p0a 5) p0_4a p0_4k p0_4w p0_4l), [((p0_6a 2), .inl (p0_6_1c, 6, .inr (.inr (.inr (.inr (fun i => some (p0_6_1a i 0)))))))]] : List va_W)) := hD
        obtain ⟨w42, ew42, hrun⟩ := let9 hrun
        rw [← ew42] at hP hD
        refine lv_goto (tgt := 353) hx hb dX3_moveInCode_312 (by decide) ?_
        exact J353 w42 _ _ _ hrun hP hD hK hS (lv_sub hl [] rfl)
      rcases br9 hrun with ⟨hc43, hrun⟩ | ⟨hc43, hrun⟩
      · refine lv_tableIn (off := 247) (tgt := 315) hx hb dX3_moveInCode_68 (by rw [hc43]; decide) (by rw [hc43]; decide) (by rw [hc43]; rfl) (by decide) ?_
        refine lv_aload_n hx hb dX3_moveInCode_315 rfl (lv_at hl 5 rfl) ?_
        refine va_get (D := (dC, dI)) (ci := 10) (v := .ref (p0a 17)) (C := RX3) (T := TX3) (N := 20) hx hb hts i_X3 hown hK hP 0 rfl rfl 16 (by decide) (hts _ qw935) (fun _ h9 => h9) rfl dX3_moveInCode_316 ?_
        refine lv_iload_n hx hb dX3_moveInCode_319 rfl (lv_at hl 4 rfl) ?_
        refine lv_aload_n hx hb dX3_moveInCode_320 rfl (lv_at hl 5 rfl) ?_
        refine va_get (D := (dC, dI)) (ci := 10) (v := .int (w9 0 17)) (C := RX3) (T := TX3) (N := 20) hx hb hts i_X3 hown hK hP 0 rfl rfl 17 (by decide) (hts _ qw936) (fun _ h9 => h9) rfl dX3_moveInCode_321 ?_
        refine lv_imul hx hb dX3_moveInCode_324 ?_
        refine lv_aload_n hx hb dX3_moveInCode_325 rfl (lv_at hl 3 rfl) ?_
        refine va_get (D := (dC, dI)) (ci := 3) (v := .ref ((p0_6_1a 4) 5)) (C := RX9) (T := TX9) (N := 6) hx hb hts i_X9 hown hK hP 44 rfl rfl 4 (by decide) (hts _ qw967) (fun _ h9 => h9) rfl dX3_moveInCode_326 ?_
        refine lv_iload_n hx hb dX3_moveInCode_329 rfl (lv_at hl 2 rfl) ?_
        obtain ⟨hq44, hrun⟩ := chk9 hrun
        refine va_iald hx hb hK hP 48 41 rfl rfl (ixb_in hq44) dX3_moveInCode_330 ?_
        refine lv_iadd hx hb dX3_moveInCode_331 ?_
        refine lv_aload_n hx hb dX3_moveInCode_332 rfl (lv_at hl 5 rfl) ?_
        refine va_get (D := (dC, dI)) (ci := 10) (v := .ref (p0a 16)) (C := RX3) (T := TX3) (N := 20) hx hb hts i_X3 hown hK hP 0 rfl rfl 15 (by decide) (hts _ qw906) (fun _ h9 => h9) rfl dX3_moveInCode_333 ?_
        refine lv_iload hx hb dX3_moveInCode_336 (lv_at hl 1 rfl) ?_
        refine lv_iload hx hb dX3_moveInCode_338 (lv_at hl 0 rfl) ?_
        refine lv_iadd hx hb dX3_moveInCode_340 ?_
        obtain ⟨hq45, hrun⟩ := chk9 hrun
        refine va_iald hx hb hK hP 8 7 rfl rfl (ixb_in hq45) dX3_moveInCode_341 ?_
        obtain ⟨hq46, hrun⟩ := chk9 hrun
        refine va_iast hx hb hK hP hD hS 9 8 rfl rfl (ixb_in hq46) dX3_moveInCode_342 (fun H locs hP hD hS => ?_)
        have hP : va_P (dC, dI) cls (List.flatten ([(oX3 (p0a 0) p0a p0k p0n (upw w9 17 (nn ((((p0w 0 9) - 1) * (w9 0 17)) + (((p0_6_1w 4) 5) (nn (p0w 12 (nn ((p0w 0 9) - 1))))))) (w9 16 (nn ((((p0w 0 9) - 1) * 320) + (((p0_6_1w 4) 4) (nn (p0w 12 (nn ((p0w 0 9) - 1)))))))))), (oX0 (p0a 7) p0_6a p0_6k p0_6n p0_6w), (oX9 (p0_6_1a 0 0) (p0_6_1a 0) (p0_6_1k 0) (p0_6_1n 0) (p0_6_1w 0)), (oX9 (p0_6_1a 1 0) (p0_6_1a 1) (p0_6_1k 1) (p0_6_1n 1) (p0_6_1w 1)), (oX9 (p0_6_1a 2 0) (p0_6_1a 2) (p0_6_1k 2) (p0_6_1n 2) (p0_6_1w 2)), (oX9 (p0_6_1a 3 0) (p0_6_1a 3) (p0_6_1k 3) (p0_6_1n 3) (p0_6_1w 3)), (oX9 (p0_6_1a 4 0) (p0_6_1a 4) (p0_6_1k 4) (p0_6_1n 4) (p0_6_1w 4)), (oX9 (p0_6_1a 5 0) (p0_6_1a 5) (p0_6_1k 5) (p0_6_1n 5) (p0_6_1w 5)), (oX6 (p0a 5) p0_4a p0_4k p0_4w p0_4l), [((p0_6a 2), .inl (p0_6_1c, 6, .inr (.inr (.inr (.inr (fun i => some (p0_6_1a i 0)))))))]] : List va_W)) H := hP
        have hD : va_D A (List.flatten ([(oX3 (p0a 0) p0a p0k p0n (upw w9 17 (nn ((((p0w 0 9) - 1) * (w9 0 17)) + (((p0_6_1w 4) 5) (nn (p0w 12 (nn ((p0w 0 9) - 1))))))) (w9 16 (nn ((((p0w 0 9) - 1) * 320) + (((p0_6_1w 4) 4) (nn (p0w 12 (nn ((p0w 0 9) - 1)))))))))), (oX0 (p0a 7) p0_6a p0_6k p0_6n p0_6w), (oX9 (p0_6_1a 0 0) (p0_6_1a 0) (p0_6_1k 0) (p0_6_1n 0) (p0_6_1w 0)), (oX9 (p0_6_1a 1 0) (p0_6_1a 1) (p0_6_1k 1) (p0_6_1n 1) (p0_6_1w 1)), (oX9 (p0_6_1a 2 0) (p0_6_1a 2) (p0_6_1k 2) (p0_6_1n 2) (p0_6_1w 2)), (oX9 (p0_6_1a 3 0) (p0_6_1a 3) (p0_6_1k 3) (p0_6_1n 3) (p0_6_1w 3)), (oX9 (p0_6_1a 4 0) (p0_6_1a 4) (p0_6_1k 4) (p0_6_1n 4) (p0_6_1w 4)), (oX9 (p0_6_1a 5 0) (p0_6_1a 5) (p0_6_1k 5) (p0_6_1n 5) (p0_6_1w 5)), (oX6 (p0a 5) p0_4a p0_4k p0_4w p0_4l), [((p0_6a 2), .inl (p0_6_1c, 6, .inr (.inr (.inr (.inr (fun i => some (p0_6_1a i 0)))))))]] : List va_W)) := hD
        obtain ⟨w47, ew47, hrun⟩ := let9 hrun
        rw [← ew47] at hP hD
        refine lv_goto (tgt := 353) hx hb dX3_moveInCode_343 (by decide) ?_
        exact J353 w47 _ _ _ hrun hP hD hK hS (lv_sub hl [] rfl)
      rcases br9 hrun with ⟨hc48, hrun⟩ | ⟨hc48, hrun⟩
      · refine lv_tableIn (off := 83) (tgt := 151) hx hb dX3_moveInCode_68 (by rw [hc48]; decide) (by rw [hc48]; decide) (by rw [hc48]; rfl) (by decide) ?_
        refine lv_aload_n hx hb dX3_moveInCode_151 rfl (lv_at hl 5 rfl) ?_
        refine va_get (D := (dC, dI)) (ci := 10) (v := .ref (p0a 16)) (C := RX3) (T := TX3) (N := 20) hx hb hts i_X3 hown hK hP 0 rfl rfl 15 (by decide) (hts _ qw906) (fun _ h9 => h9) rfl dX3_moveInCode_152 ?_
        refine lv_iload hx hb dX3_moveInCode_155 (lv_at hl 1 rfl) ?_
        refine lv_iload hx hb dX3_moveInCode_157 (lv_at hl 0 rfl) ?_
        refine lv_iadd hx hb dX3_moveInCode_159 ?_
        obtain ⟨hq49, hrun⟩ := chk9 hrun
        refine va_iald hx hb hK hP 8 7 rfl rfl (ixb_in hq49) dX3_moveInCode_160 ?_
        rcases br9 hrun with ⟨hc50, hrun⟩ | ⟨hc50, hrun⟩
        · refine lv_if_ne (tgt := 353) hx hb dX3_moveInCode_161 (by decide) (fun c => absurd hc50 c) (fun _ => ?_)
          refine lv_aload_n hx hb dX3_moveInCode_164 rfl (lv_at hl 5 rfl) ?_
          refine va_get (D := (dC, dI)) (ci := 10) (v := .ref (p0a 12)) (C := RX3) (T := TX3) (N := 20) hx hb hts i_X3 hown hK hP 0 rfl rfl 11 (by decide) (hts _ qw915) (fun _ h9 => h9) rfl dX3_moveInCode_165 ?_
          refine lv_iload_n hx hb dX3_moveInCode_168 rfl (lv_at hl 4 rfl) ?_
          refine lv_aload_n hx hb dX3_moveInCode_169 rfl (lv_at hl 3 rfl) ?_
          refine va_get (D := (dC, dI)) (ci := 3) (v := .ref ((p0_6_1a 4) 5)) (C := RX9) (T := TX9) (N := 6) hx hb hts i_X9 hown hK hP 44 rfl rfl 4 (by decide) (hts _ qw967) (fun _ h9 => h9) rfl dX3_moveInCode_170 ?_
          refine lv_iload_n hx hb dX3_moveInCode_173 rfl (lv_at hl 2 rfl) ?_
          obtain ⟨hq51, hrun⟩ := chk9 hrun
          refine va_iald hx hb hK hP 48 41 rfl rfl (ixb_in hq51) dX3_moveInCode_174 ?_
          obtain ⟨hq52, hrun⟩ := chk9 hrun
          refine va_iast hx hb hK hP hD hS 4 3 rfl rfl (ixb_in hq52) dX3_moveInCode_175 (fun H locs hP hD hS => ?_)
          have hP : va_P (dC, dI) cls (List.flatten ([(oX3 (p0a 0) p0a p0k p0n (upw w9 12 (nn ((p0w 0 9) - 1)) (((p0_6_1w 4) 5) (nn (p0w 12 (nn ((p0w 0 9) - 1))))))), (oX0 (p0a 7) p0_6a p0_6k p0_6n p0_6w), (oX9 (p0_6_1a 0 0) (p0_6_1a 0) (p0_6_1k 0) (p0_6_1n 0) (p0_6_1w 0)), (oX9 (p0_6_1a 1 0) (p0_6_1a 1) (p0_6_1k 1) (p0_6_1n 1) (p0_6_1w 1)), (oX9 (p0_6_1a 2 0) (p0_6_1a 2) (p0_6_1k 2) (p0_6_1n 2) (p0_6_1w 2)), (oX9 (p0_6_1a 3 0) (p0_6_1a 3) (p0_6_1k 3) (p0_6_1n 3) (p0_6_1w 3)), (oX9 (p0_6_1a 4 0) (p0_6_1a 4) (p0_6_1k 4) (p0_6_1n 4) (p0_6_1w 4)), (oX9 (p0_6_1a 5 0) (p0_6_1a 5) (p0_6_1k 5) (p0_6_1n 5) (p0_6_1w 5)), (oX6 (p0a 5) p0_4a p0_4k p0_4w p0_4l), [((p0_6a 2), .inl (p0_6_1c, 6, .inr (.inr (.inr (.inr (fun i => some (p0_6_1a i 0)))))))]] : List va_W)) H := hP
          have hD : va_D A (List.flatten ([(oX3 (p0a 0) p0a p0k p0n (upw w9 12 (nn ((p0w 0 9) - 1)) (((p0_6_1w 4) 5) (nn (p0w 12 (nn ((p0w 0 9) - 1))))))), (oX0 (p0a 7) p0_6a p0_6k p0_6n p0_6w), (oX9 (p0_6_1a 0 0) (p0_6_1a 0) (p0_6_1k 0) (p0_6_1n 0) (p0_6_1w 0)), (oX9 (p0_6_1a 1 0) (p0_6_1a 1) (p0_6_1k 1) (p0_6_1n 1) (p0_6_1w 1)), (oX9 (p0_6_1a 2 0) (p0_6_1a 2) (p0_6_1k 2) (p0_6_1n 2) (p0_6_1w 2)), (oX9 (p0_6_1a 3 0) (p0_6_1a 3) (p0_6_1k 3) (p0_6_1n 3) (p0_6_1w 3)), (oX9 (p0_6_1a 4 0) (p0_6_1a 4) (p0_6_1k 4) (p0_6_1n 4) (p0_6_1w 4)), (oX9 (p0_6_1a 5 0) (p0_6_1a 5) (p0_6_1k 5) (p0_6_1n 5) (p0_6_1w 5)), (oX6 (p0a 5) p0_4a p0_4k p0_4w p0_4l), [((p0_6a 2), .inl (p0_6_1c, 6, .inr (.inr (.inr (.inr (fun i => some (p0_6_1a i 0)))))))]] : List va_W)) := hD
          obtain ⟨w53, ew53, hrun⟩ := let9 hrun
          rw [← ew53] at hP hD
          refine lv_goto (tgt := 353) hx hb dX3_moveInCode_176 (by decide) ?_
          exact J353 w53 _ _ _ hrun hP hD hK hS (lv_sub hl [] rfl)
        · refine lv_if_ne (tgt := 353) hx hb dX3_moveInCode_161 (by decide) (fun _ => ?_) (fun c => absurd c hc50)
          exact J353 w9 _ _ _ hrun hP hD hK hS (lv_sub hl [] rfl)
      refine lv_tableOut (tgt := 346) hx hb dX3_moveInCode_68 (show Int32.toInt (((p0_6_1w 4) 2) (nn (p0w 12 (nn ((p0w 0 9) - 1))))) < 22 ∨ (28 : Int) < Int32.toInt (((p0_6_1w 4) 2) (nn (p0w 12 (nn ((p0w 0 9) - 1))))) from by have g0 := lv_neT hc12 (show Int32.toInt 22 = 22 by decide); have g1 := lv_neT hc15 (show Int32.toInt 23 = 23 by decide); have g2 := lv_neT hc21 (show Int32.toInt 24 = 24 by decide); have g3 := lv_neT hc33 (show Int32.toInt 25 = 25 by decide); have g4 := lv_neT hc38 (show Int32.toInt 26 = 26 by decide); have g5 := lv_neT hc43 (show Int32.toInt 27 = 27 by decide); have g6 := lv_neT hc48 (show Int32.toInt 28 = 28 by decide); omega) (by decide) ?_
      refine lv_aload_n hx hb dX3_moveInCode_346 rfl (lv_at hl 5 rfl) ?_
      refine lv_aload_n hx hb dX3_moveInCode_347 rfl (lv_at hl 3 rfl) ?_
      refine lv_iload_n hx hb dX3_moveInCode_348 rfl (lv_at hl 4 rfl) ?_
      refine lv_iload_n hx hb dX3_moveInCode_349 rfl (lv_at hl 2 rfl) ?_
      obtain ⟨o_54, hc_54, hrun⟩ := bnd9 hrun
      have hPx : va_P (dC, dI) cls ((List.flatten ([(oX3 (p0a 0) p0a p0k p0n w9), (oX9 (p0_6_1a 4 0) (p0_6_1a 4) (p0_6_1k 4) (p0_6_1n 4) (p0_6_1w 4)), (oX6 (p0a 5) p0_4a p0_4k p0_4w p0_4l)] : List va_W)) ++ (List.flatten ([(oX0 (p0a 7) p0_6a p0_6k p0_6n p0_6w), (oX9 (p0_6_1a 0 0) (p0_6_1a 0) (p0_6_1k 0) (p0_6_1n 0) (p0_6_1w 0)), (oX9 (p0_6_1a 1 0) (p0_6_1a 1) (p0_6_1k 1) (p0_6_1n 1) (p0_6_1w 1)), (oX9 (p0_6_1a 2 0) (p0_6_1a 2) (p0_6_1k 2) (p0_6_1n 2) (p0_6_1w 2)), (oX9 (p0_6_1a 3 0) (p0_6_1a 3) (p0_6_1k 3) (p0_6_1n 3) (p0_6_1w 3)), (oX9 (p0_6_1a 5 0) (p0_6_1a 5) (p0_6_1k 5) (p0_6_1n 5) (p0_6_1w 5)), [((p0_6a 2), .inl (p0_6_1c, 6, .inr (.inr (.inr (.inr (fun i => some (p0_6_1a i 0)))))))]] : List va_W))) H := vP_fa (vP_perm hP (bP (((List.Perm.refl _)).trans ((((((((((((((((((((List.Perm.refl _)).cons _).trans (List.Perm.swap _ _ _))).cons _).trans (List.Perm.swap _ _ _))).cons _).trans (List.Perm.swap _ _ _))).cons _).trans (List.Perm.swap _ _ _))).cons _).trans (List.Perm.swap _ _ _))).trans (((((((((((((((((((((List.Perm.refl _)).cons _).trans (List.Perm.swap _ _ _))).cons _).trans (List.Perm.swap _ _ _))).cons _).trans (List.Perm.swap _ _ _))).cons _).trans (List.Perm.swap _ _ _))).cons _).trans (List.Perm.swap _ _ _))).cons _).trans (List.Perm.swap _ _ _))).cons _))).cons _))))
      have hDx : va_D A ((List.flatten ([(oX3 (p0a 0) p0a p0k p0n w9), (oX9 (p0_6_1a 4 0) (p0_6_1a 4) (p0_6_1k 4) (p0_6_1n 4) (p0_6_1w 4)), (oX6 (p0a 5) p0_4a p0_4k p0_4w p0_4l)] : List va_W)) ++ (List.flatten ([(oX0 (p0a 7) p0_6a p0_6k p0_6n p0_6w), (oX9 (p0_6_1a 0 0) (p0_6_1a 0) (p0_6_1k 0) (p0_6_1n 0) (p0_6_1w 0)), (oX9 (p0_6_1a 1 0) (p0_6_1a 1) (p0_6_1k 1) (p0_6_1n 1) (p0_6_1w 1)), (oX9 (p0_6_1a 2 0) (p0_6_1a 2) (p0_6_1k 2) (p0_6_1n 2) (p0_6_1w 2)), (oX9 (p0_6_1a 3 0) (p0_6_1a 3) (p0_6_1k 3) (p0_6_1n 3) (p0_6_1w 3)), (oX9 (p0_6_1a 5 0) (p0_6_1a 5) (p0_6_1k 5) (p0_6_1n 5) (p0_6_1w 5)), [((p0_6a 2), .inl (p0_6_1c, 6, .inr (.inr (.inr (.inr (fun i => some (p0_6_1a i 0)))))))]] : List va_W))) := vD_fa (vD_perm hD (bP (((List.Perm.refl _)).trans ((((((((((((((((((((List.Perm.refl _)).cons _).trans (List.Perm.swap _ _ _))).cons _).trans (List.Perm.swap _ _ _))).cons _).trans (List.Perm.swap _ _ _))).cons _).trans (List.Perm.swap _ _ _))).cons _).trans (List.Perm.swap _ _ _))).trans (((((((((((((((((((((List.Perm.refl _)).cons _).trans (List.Perm.swap _ _ _))).cons _).trans (List.Perm.swap _ _ _))).cons _).trans (List.Perm.swap _ _ _))).cons _).trans (List.Perm.swap _ _ _))).cons _).trans (List.Perm.swap _ _ _))).cons _).trans (List.Perm.swap _ _ _))).cons _))).cons _))))
      have hKx : va_K (dC, dI) cls ((List.flatten ([(tX3 p0k), (tX9 (p0_6_1k 4)), (tX6 p0_4k)] : List (List (ClassId × FieldType)))) ++ (List.flatten ([(tX0 p0_6k), (tX9 (p0_6_1k 0)), (tX9 (p0_6_1k 1)), (tX9 (p0_6_1k 2)), (tX9 (p0_6_1k 3)), (tX9 (p0_6_1k 5)), [(p0_6_1c, .object RX9)]] : List (List (ClassId × FieldType))))) s := vK_fa (vK_perm hK (bP (((List.Perm.refl _)).trans ((((((((((((((((((((List.Perm.refl _)).cons _).trans (List.Perm.swap _ _ _))).cons _).trans (List.Perm.swap _ _ _))).cons _).trans (List.Perm.swap _ _ _))).cons _).trans (List.Perm.swap _ _ _))).cons _).trans (List.Perm.swap _ _ _))).trans (((((((((((((((((((((List.Perm.refl _)).cons _).trans (List.Perm.swap _ _ _))).cons _).trans (List.Perm.swap _ _ _))).cons _).trans (List.Perm.swap _ _ _))).cons _).trans (List.Perm.swap _ _ _))).cons _).trans (List.Perm.swap _ _ _))).cons _).trans (List.Perm.swap _ _ _))).cons _))).cons _))))
      have hPc := vP_l hPx
      have hDc := vD_l hDx
      have hKc := vK_l hKx
      have hFc := vfree hDx hS hA
      refine va_callv (va_runV (As := [.ref (p0_6_1a 4 0), .int ((p0w 0 9) - 1), .int (p0w 12 (nn ((p0w 0 9) - 1)))]) (rest := []) ⟨hx, hb, hml, hown, hts⟩ (kX3_moveLine l dC dI (p0a := p0a) (p0k := p0k) (p0n := p0n) (p0w := w9) (p1a := (st0 (p0_6_1a 4 0) (p0_6_1a 4))) (p1k := (p0_6_1k 4)) (p1n := (p0_6_1n 4)) (p1w := (p0_6_1w 4)) (p2 := ((p0w 0 9) - 1)) (p3 := (p0w 12 (nn ((p0w 0 9) - 1)))) (p0_4a := p0_4a) (p0_4k := p0_4k) (p0_4w := p0_4w) (p0_4l := p0_4l) (sz := _) (o := o_54) (hrun := hc_54)) (cwV 3 hts (gi_V qw990 qw991 qw992 qw903 (gi_z qw989)) rfl rfl rfl (by decide +kernel) ⟨Nat.le_of_ble_eq_true rfl, Nat.le_of_ble_eq_true rfl⟩) ⟨PRE.blind, va_recv hKc hPc (ci := 10) (q0 := 0) rfl rfl, PRE.of hE hS hFc hPc hKc hDc⟩ rfl rfl hl.1 rfl (lv_room (Nat.le_of_ble_eq_true rfl)) dX3_moveInCode_350 ⟨(Nat.le_of_ble_eq_true rfl), (Nat.le_of_ble_eq_true rfl)⟩) hS (fun q _ h => hFc q h) hFc (fun u t H locs ht hvm hw hB hz1 hk1 hS => ?_)
      obtain ⟨b1, b2, b3⟩ := hB
      rw [ht] at b1
      obtain ⟨hP, hD, hK⟩ := JOINC (wc := (List.flatten ([(oX3 (p0a 0) p0a p0k p0n w9), (oX9 (p0_6_1a 4 0) (p0_6_1a 4) (p0_6_1k 4) (p0_6_1n 4) (p0_6_1w 4)), (oX6 (p0a 5) p0_4a p0_4k p0_4w p0_4l)] : List va_W))) (wr := (List.flatten ([(oX0 (p0a 7) p0_6a p0_6k p0_6n p0_6w), (oX9 (p0_6_1a 0 0) (p0_6_1a 0) (p0_6_1k 0) (p0_6_1n 0) (p0_6_1w 0)), (oX9 (p0_6_1a 1 0) (p0_6_1a 1) (p0_6_1k 1) (p0_6_1n 1) (p0_6_1w 1)), (oX9 (p0_6_1a 2 0) (p0_6_1a 2) (p0_6_1k 2) (p0_6_1n 2) (p0_6_1w 2)), (oX9 (p0_6_1a 3 0) (p0_6_1a 3) (p0_6_1k 3) (p0_6_1n 3) (p0_6_1w 3)), (oX9 (p0_6_1a 5 0) (p0_6_1a 5) (p0_6_1k 5) (p0_6_1n 5) (p0_6_1w 5)), [((p0_6a 2), .inl (p0_6_1c, 6, .inr (.inr (.inr (.inr (fun i => some (p0_6_1a i 0)))))))]] : List va_W))) (w1 := (List.flatten ([(oX3 (p0a 0) p0a p0k p0n o_54), (oX9 (p0_6_1a 4 0) (p0_6_1a 4) (p0_6_1k 4) (p0_6_1n 4) (p0_6_1w 4)), (oX6 (p0a 5) p0_4a p0_4k p0_4w p0_4l)] : List va_W))) (t1 := (List.flatten ([(tX3 p0k), (tX9 (p0_6_1k 4)), (tX6 p0_4k)] : List (List (ClassId × FieldType))))) hPx hDx hKx hk1 hFc b1 (va_K.moved hvm.symm b2) b3
      have hP : va_P (dC, dI) cls (List.flatten ([(oX3 (p0a 0) p0a p0k p0n o_54), (oX0 (p0a 7) p0_6a p0_6k p0_6n p0_6w), (oX9 (p0_6_1a 0 0) (p0_6_1a 0) (p0_6_1k 0) (p0_6_1n 0) (p0_6_1w 0)), (oX9 (p0_6_1a 1 0) (p0_6_1a 1) (p0_6_1k 1) (p0_6_1n 1) (p0_6_1w 1)), (oX9 (p0_6_1a 2 0) (p0_6_1a 2) (p0_6_1k 2) (p0_6_1n 2) (p0_6_1w 2)), (oX9 (p0_6_1a 3 0) (p0_6_1a 3) (p0_6_1k 3) (p0_6_1n 3) (p0_6_1w 3)), (oX9 (p0_6_1a 4 0) (p0_6_1a 4) (p0_6_1k 4) (p0_6_1n 4) (p0_6_1w 4)), (oX9 (p0_6_1a 5 0) (p0_6_1a 5) (p0_6_1k 5) (p0_6_1n 5) (p0_6_1w 5)), (oX6 (p0a 5) p0_4a p0_4k p0_4w p0_4l), [((p0_6a 2), .inl (p0_6_1c, 6, .inr (.inr (.inr (.inr (fun i => some (p0_6_1a i 0)))))))]] : List va_W)) H := vP_perm (vP_fb hP) (bP (((List.Perm.refl _)).trans (((((((((((List.Perm.refl _)).cons _).trans (List.Perm.swap _ _ _))).cons _).trans (List.Perm.swap _ _ _))).trans (((((((((((List.Perm.refl _)).cons _).trans (List.Perm.swap _ _ _))).cons _).trans (List.Perm.swap _ _ _))).trans (((((((((((List.Perm.refl _)).cons _).trans (List.Perm.swap _ _ _))).cons _).trans (List.Perm.swap _ _ _))).trans (((((((((((List.Perm.refl _)).cons _).trans (List.Perm.swap _ _ _))).cons _).trans (List.Perm.swap _ _ _))).trans (((((((((((List.Perm.refl _)).cons _).trans (List.Perm.swap _ _ _))).cons _).trans (List.Perm.swap _ _ _))).trans (((((List.Perm.refl _)).trans ((((((List.Perm.refl _)).cons _).trans (List.Perm.swap _ _ _))).cons _))).cons _))).cons _))).cons _))).cons _))).cons _))).cons _)))
      have hD : va_D A (List.flatten ([(oX3 (p0a 0) p0a p0k p0n o_54), (oX0 (p0a 7) p0_6a p0_6k p0_6n p0_6w), (oX9 (p0_6_1a 0 0) (p0_6_1a 0) (p0_6_1k 0) (p0_6_1n 0) (p0_6_1w 0)), (oX9 (p0_6_1a 1 0) (p0_6_1a 1) (p0_6_1k 1) (p0_6_1n 1) (p0_6_1w 1)), (oX9 (p0_6_1a 2 0) (p0_6_1a 2) (p0_6_1k 2) (p0_6_1n 2) (p0_6_1w 2)), (oX9 (p0_6_1a 3 0) (p0_6_1a 3) (p0_6_1k 3) (p0_6_1n 3) (p0_6_1w 3)), (oX9 (p0_6_1a 4 0) (p0_6_1a 4) (p0_6_1k 4) (p0_6_1n 4) (p0_6_1w 4)), (oX9 (p0_6_1a 5 0) (p0_6_1a 5) (p0_6_1k 5) (p0_6_1n 5) (p0_6_1w 5)), (oX6 (p0a 5) p0_4a p0_4k p0_4w p0_4l), [((p0_6a 2), .inl (p0_6_1c, 6, .inr (.inr (.inr (.inr (fun i => some (p0_6_1a i 0)))))))]] : List va_W)) := vD_perm (vD_fb hD) (bP (((List.Perm.refl _)).trans (((((((((((List.Perm.refl _)).cons _).trans (List.Perm.swap _ _ _))).cons _).trans (List.Perm.swap _ _ _))).trans (((((((((((List.Perm.refl _)).cons _).trans (List.Perm.swap _ _ _))).cons _).trans (List.Perm.swap _ _ _))).trans (((((((((((List.Perm.refl _)).cons _).trans (List.Perm.swap _ _ _))).cons _).trans (List.Perm.swap _ _ _))).trans (((((((((((List.Perm.refl _)).cons _).trans (List.Perm.swap _ _ _))).cons _).trans (List.Perm.swap _ _ _))).trans (((((((((((List.Perm.refl _)).cons _).trans (List.Perm.swap _ _ _))).cons _).trans (List.Perm.swap _ _ _))).trans (((((List.Perm.refl _)).trans ((((((List.Perm.refl _)).cons _).trans (List.Perm.swap _ _ _))).cons _))).cons _))).cons _))).cons _))).cons _))).cons _))).cons _)))
      have hK : va_K (dC, dI) cls (List.flatten ([(tX3 p0k), (tX0 p0_6k), (tX9 (p0_6_1k 0)), (tX9 (p0_6_1k 1)), (tX9 (p0_6_1k 2)), (tX9 (p0_6_1k 3)), (tX9 (p0_6_1k 4)), (tX9 (p0_6_1k 5)), (tX6 p0_4k), [(p0_6_1c, .object RX9)]] : List (List (ClassId × FieldType)))) s := vK_perm (vK_fb hK) (bP (((List.Perm.refl _)).trans (((((((((((List.Perm.refl _)).cons _).trans (List.Perm.swap _ _ _))).cons _).trans (List.Perm.swap _ _ _))).trans (((((((((((List.Perm.refl _)).cons _).trans (List.Perm.swap _ _ _))).cons _).trans (List.Perm.swap _ _ _))).trans (((((((((((List.Perm.refl _)).cons _).trans (List.Perm.swap _ _ _))).cons _).trans (List.Perm.swap _ _ _))).trans (((((((((((List.Perm.refl _)).cons _).trans (List.Perm.swap _ _ _))).cons _).trans (List.Perm.swap _ _ _))).trans (((((((((((List.Perm.refl _)).cons _).trans (List.Perm.swap _ _ _))).cons _).trans (List.Perm.swap _ _ _))).trans (((((List.Perm.refl _)).trans ((((((List.Perm.refl _)).cons _).trans (List.Perm.swap _ _ _))).cons _))).cons _))).cons _))).cons _))).cons _))).cons _))).cons _)))
      exact J353 o_54 _ _ _ hrun hP hD hK hS (lv_sub hl [] rfl)
  · refine W.eq (g2 := F0 m 21 ls [.ref (p0_6_1a 5 0)]) rfl ?_
    refine lv_astore_n (lv' := [(2, .ref (p0_6_1a 5 0)), (1, .int ((p0w 0 9) - 1)), (0, .ref (p0a 0))]) hx hb dX3_moveInCode_21 rfl hl (by decide) rfl (fun ls hl => ?_)
    refine lv_aload_n hx hb dX3_moveInCode_22 rfl (lv_at hl 2 rfl) ?_
    refine va_get (D := (dC, dI)) (ci := 10) (v := .ref (p0a 12)) (C := RX3) (T := TX3) (N := 20) hx hb hts i_X3 hown hK hP 0 rfl rfl 11 (by decide) (hts _ qw915) (fun _ h9 => h9) rfl dX3_moveInCode_23 ?_
    refine lv_iload_n hx hb dX3_moveInCode_26 rfl (lv_at hl 1 rfl) ?_
    obtain ⟨hq4, hrun⟩ := chk9 hrun
    refine va_iald hx hb hK hP 4 3 rfl rfl (ixb_in hq4) dX3_moveInCode_27 ?_
    refine lv_istore_n (lv' := [(3, .int (p0w 12 (nn ((p0w 0 9) - 1)))), (2, .ref (p0_6_1a 5 0)), (1, .int ((p0w 0 9) - 1)), (0, .ref (p0a 0))]) hx hb dX3_moveInCode_28 rfl hl (by decide) rfl (fun ls hl => ?_)
    refine lv_aload_n hx hb dX3_moveInCode_29 rfl (lv_at hl 3 rfl) ?_
    refine lv_iconst (v := 1) hx hb dX3_moveInCode_30 (by decide) ?_
    obtain ⟨o_5, hc_5, hrun⟩ := bnd9 hrun
    have hPx : va_P (dC, dI) cls ((List.flatten ([(oX3 (p0a 0) p0a p0k p0n p0w)] : List va_W)) ++ (List.flatten ([(oX0 (p0a 7) p0_6a p0_6k p0_6n p0_6w), (oX9 (p0_6_1a 0 0) (p0_6_1a 0) (p0_6_1k 0) (p0_6_1n 0) (p0_6_1w 0)), (oX9 (p0_6_1a 1 0) (p0_6_1a 1) (p0_6_1k 1) (p0_6_1n 1) (p0_6_1w 1)), (oX9 (p0_6_1a 2 0) (p0_6_1a 2) (p0_6_1k 2) (p0_6_1n 2) (p0_6_1w 2)), (oX9 (p0_6_1a 3 0) (p0_6_1a 3) (p0_6_1k 3) (p0_6_1n 3) (p0_6_1w 3)), (oX9 (p0_6_1a 4 0) (p0_6_1a 4) (p0_6_1k 4) (p0_6_1n 4) (p0_6_1w 4)), (oX9 (p0_6_1a 5 0) (p0_6_1a 5) (p0_6_1k 5) (p0_6_1n 5) (p0_6_1w 5)), (oX6 (p0a 5) p0_4a p0_4k p0_4w p0_4l), [((p0_6a 2), .inl (p0_6_1c, 6, .inr (.inr (.inr (.inr (fun i => some (p0_6_1a i 0)))))))]] : List va_W))) H := vP_fa (vP_perm hP (bP (List.Perm.refl _)))
    have hDx : va_D A ((List.flatten ([(oX3 (p0a 0) p0a p0k p0n p0w)] : List va_W)) ++ (List.flatten ([(oX0 (p0a 7) p0_6a p0_6k p0_6n p0_6w), (oX9 (p0_6_1a 0 0) (p0_6_1a 0) (p0_6_1k 0) (p0_6_1n 0) (p0_6_1w 0)), (oX9 (p0_6_1a 1 0) (p0_6_1a 1) (p0_6_1k 1) (p0_6_1n 1) (p0_6_1w 1)), (oX9 (p0_6_1a 2 0) (p0_6_1a 2) (p0_6_1k 2) (p0_6_1n 2) (p0_6_1w 2)), (oX9 (p0_6_1a 3 0) (p0_6_1a 3) (p0_6_1k 3) (p0_6_1n 3) (p0_6_1w 3)), (oX9 (p0_6_1a 4 0) (p0_6_1a 4) (p0_6_1k 4) (p0_6_1n 4) (p0_6_1w 4)), (oX9 (p0_6_1a 5 0) (p0_6_1a 5) (p0_6_1k 5) (p0_6_1n 5) (p0_6_1w 5)), (oX6 (p0a 5) p0_4a p0_4k p0_4w p0_4l), [((p0_6a 2), .inl (p0_6_1c, 6, .inr (.inr (.inr (.inr (fun i => some (p0_6_1a i 0)))))))]] : List va_W))) := vD_fa (vD_perm hD (bP (List.Perm.refl _)))
    have hKx : va_K (dC, dI) cls ((List.flatten ([(tX3 p0k)] : List (List (ClassId × FieldType)))) ++ (List.flatten ([(tX0 p0_6k), (tX9 (p0_6_1k 0)), (tX9 (p0_6_1k 1)), (tX9 (p0_6_1k 2)), (tX9 (p0_6_1k 3)), (tX9 (p0_6_1k 4)), (tX9 (p0_6_1k 5)), (tX6 p0_4k), [(p0_6_1c, .object RX9)]] : List (List (ClassId × FieldType))))) s := vK_fa (vK_perm hK (bP (List.Perm.refl _)))
    have hPc := vP_l hPx
    have hDc := vD_l hDx
    have hKc := vK_l hKx
    have hFc := vfree hDx hS hA
    refine va_calli (va_runV (As := [.int 1]) (rest := []) ⟨hx, hb, hml, hown, hts⟩ (kX3_tick l dC dI (p0a := p0a) (p0k := p0k) (p0n := p0n) (p0w := p0w) (p1 := 1) (sz := _) (o := o_5) (hrun := hc_5)) (cwV 1 hts (gi_V qw939 qw940 qw941 qw903 (gi_z qw938)) rfl rfl rfl (by decide +kernel) ⟨Nat.le_of_ble_eq_true rfl, Nat.le_of_ble_eq_true rfl⟩) ⟨PRE.blind, va_recv hKc hPc (ci := 10) (q0 := 0) rfl rfl, PRE.of hE hS hFc hPc hKc hDc⟩ rfl rfl hl.1 rfl (lv_room (Nat.le_of_ble_eq_true rfl)) dX3_moveInCode_31 ⟨(Nat.le_of_ble_eq_true rfl), (Nat.le_of_ble_eq_true rfl)⟩) hS (fun q _ h => hFc q h) hFc (fun r6 u t H locs ht hvm hw hB hz1 hk1 hS => ?_)
    obtain ⟨b1, b2, b3⟩ := hB
    rw [ht] at b1
    obtain ⟨hP, hD, hK⟩ := JOINC (wc := (List.flatten ([(oX3 (p0a 0) p0a p0k p0n p0w)] : List va_W))) (wr := (List.flatten ([(oX0 (p0a 7) p0_6a p0_6k p0_6n p0_6w), (oX9 (p0_6_1a 0 0) (p0_6_1a 0) (p0_6_1k 0) (p0_6_1n 0) (p0_6_1w 0)), (oX9 (p0_6_1a 1 0) (p0_6_1a 1) (p0_6_1k 1) (p0_6_1n 1) (p0_6_1w 1)), (oX9 (p0_6_1a 2 0) (p0_6_1a 2) (p0_6_1k 2) (p0_6_1n 2) (p0_6_1w 2)), (oX9 (p0_6_1a 3 0) (p0_6_1a 3) (p0_6_1k 3) (p0_6_1n 3) (p0_6_1w 3)), (oX9 (p0_6_1a 4 0) (p0_6_1a 4) (p0_6_1k 4) (p0_6_1n 4) (p0_6_1w 4)), (oX9 (p0_6_1a 5 0) (p0_6_1a 5) (p0_6_1k 5) (p0_6_1n 5) (p0_6_1w 5)), (oX6 (p0a 5) p0_4a p0_4k p0_4w p0_4l), [((p0_6a 2), .inl (p0_6_1c, 6, .inr (.inr (.inr (.inr (fun i => some (p0_6_1a i 0)))))))]] : List va_W))) (w1 := (List.flatten ([(oX3 (p0a 0) p0a p0k p0n (o_5.2))] : List va_W))) (t1 := (List.flatten ([(tX3 p0k)] : List (List (ClassId × FieldType))))) hPx hDx hKx hk1 hFc b1 (va_K.moved hvm.symm b2) b3
    have hP : va_P (dC, dI) cls (List.flatten ([(oX3 (p0a 0) p0a p0k p0n (o_5.2)), (oX0 (p0a 7) p0_6a p0_6k p0_6n p0_6w), (oX9 (p0_6_1a 0 0) (p0_6_1a 0) (p0_6_1k 0) (p0_6_1n 0) (p0_6_1w 0)), (oX9 (p0_6_1a 1 0) (p0_6_1a 1) (p0_6_1k 1) (p0_6_1n 1) (p0_6_1w 1)), (oX9 (p0_6_1a 2 0) (p0_6_1a 2) (p0_6_1k 2) (p0_6_1n 2) (p0_6_1w 2)), (oX9 (p0_6_1a 3 0) (p0_6_1a 3) (p0_6_1k 3) (p0_6_1n 3) (p0_6_1w 3)), (oX9 (p0_6_1a 4 0) (p0_6_1a 4) (p0_6_1k 4) (p0_6_1n 4) (p0_6_1w 4)), (oX9 (p0_6_1a 5 0) (p0_6_1a 5) (p0_6_1k 5) (p0_6_1n 5) (p0_6_1w 5)), (oX6 (p0a 5) p0_4a p0_4k p0_4w p0_4l), [((p0_6a 2), .inl (p0_6_1c, 6, .inr (.inr (.inr (.inr (fun i => some (p0_6_1a i 0)))))))]] : List va_W)) H := vP_perm (vP_fb hP) (bP (List.Perm.refl _))
    have hD : va_D A (List.flatten ([(oX3 (p0a 0) p0a p0k p0n (o_5.2)), (oX0 (p0a 7) p0_6a p0_6k p0_6n p0_6w), (oX9 (p0_6_1a 0 0) (p0_6_1a 0) (p0_6_1k 0) (p0_6_1n 0) (p0_6_1w 0)), (oX9 (p0_6_1a 1 0) (p0_6_1a 1) (p0_6_1k 1) (p0_6_1n 1) (p0_6_1w 1)), (oX9 (p0_6_1a 2 0) (p0_6_1a 2) (p0_6_1k 2) (p0_6_1n 2) (p0_6_1w 2)), (oX9 (p0_6_1a 3 0) (p0_6_1a 3) (p0_6_1k 3) (p0_6_1n 3) (p0_6_1w 3)), (oX9 (p0_6_1a 4 0) (p0_6_1a 4) (p0_6_1k 4) (p0_6_1n 4) (p0_6_1w 4)), (oX9 (p0_6_1a 5 0) (p0_6_1a 5) (p0_6_1k 5) (p0_6_1n 5) (p0_6_1w 5)), (oX6 (p0a 5) p0_4a p0_4k p0_4w p0_4l), [((p0_6a 2), .inl (p0_6_1c, 6, .inr (.inr (.inr (.inr (fun i => some (p0_6_1a i 0)))))))]] : List va_W)) := vD_perm (vD_fb hD) (bP (List.Perm.refl _))
    have hK : va_K (dC, dI) cls (List.flatten ([(tX3 p0k), (tX0 p0_6k), (tX9 (p0_6_1k 0)), (tX9 (p0_6_1k 1)), (tX9 (p0_6_1k 2)), (tX9 (p0_6_1k 3)), (tX9 (p0_6_1k 4)), (tX9 (p0_6_1k 5)), (tX6 p0_4k), [(p0_6_1c, .object RX9)]] : List (List (ClassId × FieldType)))) s := vK_perm (vK_fb hK) (bP (List.Perm.refl _))
    obtain rfl : r6 = (o_5.1) := hw
    rcases br9 hrun with ⟨hc7, hrun⟩ | ⟨hc7, hrun⟩
    · refine lv_if_ne (tgt := 38) hx hb dX3_moveInCode_34 (by decide) (fun c => absurd hc7 c) (fun _ => ?_)
      have ho9 : (o_5.2) = o := Option.some.inj hrun
      have hP9 : va_P (dC, dI) cls (List.flatten ([(oX3 (p0a 0) p0a p0k p0n o), (oX0 (p0a 7) p0_6a p0_6k p0_6n p0_6w), (oX9 (p0_6_1a 0 0) (p0_6_1a 0) (p0_6_1k 0) (p0_6_1n 0) (p0_6_1w 0)), (oX9 (p0_6_1a 1 0) (p0_6_1a 1) (p0_6_1k 1) (p0_6_1n 1) (p0_6_1w 1)), (oX9 (p0_6_1a 2 0) (p0_6_1a 2) (p0_6_1k 2) (p0_6_1n 2) (p0_6_1w 2)), (oX9 (p0_6_1a 3 0) (p0_6_1a 3) (p0_6_1k 3) (p0_6_1n 3) (p0_6_1w 3)), (oX9 (p0_6_1a 4 0) (p0_6_1a 4) (p0_6_1k 4) (p0_6_1n 4) (p0_6_1w 4)), (oX9 (p0_6_1a 5 0) (p0_6_1a 5) (p0_6_1k 5) (p0_6_1n 5) (p0_6_1w 5)), (oX6 (p0a 5) p0_4a p0_4k p0_4w p0_4l), [((p0_6a 2), .inl (p0_6_1c, 6, .inr (.inr (.inr (.inr (fun i => some (p0_6_1a i 0)))))))]] : List va_W)) H := by first | exact hP | (rw [← ho9]; exact hP)
      have hD9 : va_D A (List.flatten ([(oX3 (p0a 0) p0a p0k p0n o), (oX0 (p0a 7) p0_6a p0_6k p0_6n p0_6w), (oX9 (p0_6_1a 0 0) (p0_6_1a 0) (p0_6_1k 0) (p0_6_1n 0) (p0_6_1w 0)), (oX9 (p0_6_1a 1 0) (p0_6_1a 1) (p0_6_1k 1) (p0_6_1n 1) (p0_6_1w 1)), (oX9 (p0_6_1a 2 0) (p0_6_1a 2) (p0_6_1k 2) (p0_6_1n 2) (p0_6_1w 2)), (oX9 (p0_6_1a 3 0) (p0_6_1a 3) (p0_6_1k 3) (p0_6_1n 3) (p0_6_1w 3)), (oX9 (p0_6_1a 4 0) (p0_6_1a 4) (p0_6_1k 4) (p0_6_1n 4) (p0_6_1w 4)), (oX9 (p0_6_1a 5 0) (p0_6_1a 5) (p0_6_1k 5) (p0_6_1n 5) (p0_6_1w 5)), (oX6 (p0a 5) p0_4a p0_4k p0_4w p0_4l), [((p0_6a 2), .inl (p0_6_1c, 6, .inr (.inr (.inr (.inr (fun i => some (p0_6_1a i 0)))))))]] : List va_W)) := by first | exact hD | (rw [← ho9]; exact hD)
      subst hQ
      exact W.vret hx hb hr (fun t ht hW => ⟨⟨(), rfl, trivial, ⟨by rw [ht]; exact hP9, va_K.moved hW.alike hK, hD9⟩⟩, hS.F ht⟩) hS.2.2 dX3_moveInCode_37
    · refine lv_if_ne (tgt := 38) hx hb dX3_moveInCode_34 (by decide) (fun _ => ?_) (fun c => absurd c hc7)
      refine lv_aload_n hx hb dX3_moveInCode_38 rfl (lv_at hl 3 rfl) ?_
      refine va_get (D := (dC, dI)) (ci := 10) (v := .ref (p0a 12)) (C := RX3) (T := TX3) (N := 20) hx hb hts i_X3 hown hK hP 0 rfl rfl 11 (by decide) (hts _ qw915) (fun _ h9 => h9) rfl dX3_moveInCode_39 ?_
      refine lv_iload_n hx hb dX3_moveInCode_42 rfl (lv_at hl 2 rfl) ?_
      refine lv_iload_n hx hb dX3_moveInCode_43 rfl (lv_at hl 0 rfl) ?_
      refine lv_iconst (v := 1) hx hb dX3_moveInCode_44 (by decide) ?_
      refine lv_iadd hx hb dX3_moveInCode_45 ?_
      obtain ⟨hq8, hrun⟩ := chk9 hrun
      refine va_iast hx hb hK hP hD hS 4 3 rfl rfl (ixb_in hq8) dX3_moveInCode_46 (fun H locs hP hD hS => ?_)
      have hP : va_P (dC, dI) cls (List.flatten ([(oX3 (p0a 0) p0a p0k p0n (upw (o_5.2) 12 (nn ((p0w 0 9) - 1)) ((p0w 12 (nn ((p0w 0 9) - 1))) + 1))), (oX0 (p0a 7) p0_6a p0_6k p0_6n p0_6w), (oX9 (p0_6_1a 0 0) (p0_6_1a 0) (p0_6_1k 0) (p0_6_1n 0) (p0_6_1w 0)), (oX9 (p0_6_1a 1 0) (p0_6_1a 1) (p0_6_1k 1) (p0_6_1n 1) (p0_6_1w 1)), (oX9 (p0_6_1a 2 0) (p0_6_1a 2) (p0_6_1k 2) (p0_6_1n 2) (p0_6_1w 2)), (oX9 (p0_6_1a 3 0) (p0_6_1a 3) (p0_6_1k 3) (p0_6_1n 3) (p0_6_1w 3)), (oX9 (p0_6_1a 4 0) (p0_6_1a 4) (p0_6_1k 4) (p0_6_1n 4) (p0_6_1w 4)), (oX9 (p0_6_1a 5 0) (p0_6_1a 5) (p0_6_1k 5) (p0_6_1n 5) (p0_6_1w 5)), (oX6 (p0a 5) p0_4a p0_4k p0_4w p0_4l), [((p0_6a 2), .inl (p0_6_1c, 6, .inr (.inr (.inr (.inr (fun i => some (p0_6_1a i 0)))))))]] : List va_W)) H := hP
      have hD : va_D A (List.flatten ([(oX3 (p0a 0) p0a p0k p0n (upw (o_5.2) 12 (nn ((p0w 0 9) - 1)) ((p0w 12 (nn ((p0w 0 9) - 1))) + 1))), (oX0 (p0a 7) p0_6a p0_6k p0_6n p0_6w), (oX9 (p0_6_1a 0 0) (p0_6_1a 0) (p0_6_1k 0) (p0_6_1n 0) (p0_6_1w 0)), (oX9 (p0_6_1a 1 0) (p0_6_1a 1) (p0_6_1k 1) (p0_6_1n 1) (p0_6_1w 1)), (oX9 (p0_6_1a 2 0) (p0_6_1a 2) (p0_6_1k 2) (p0_6_1n 2) (p0_6_1w 2)), (oX9 (p0_6_1a 3 0) (p0_6_1a 3) (p0_6_1k 3) (p0_6_1n 3) (p0_6_1w 3)), (oX9 (p0_6_1a 4 0) (p0_6_1a 4) (p0_6_1k 4) (p0_6_1n 4) (p0_6_1w 4)), (oX9 (p0_6_1a 5 0) (p0_6_1a 5) (p0_6_1k 5) (p0_6_1n 5) (p0_6_1w 5)), (oX6 (p0a 5) p0_4a p0_4k p0_4w p0_4l), [((p0_6a 2), .inl (p0_6_1c, 6, .inr (.inr (.inr (.inr (fun i => some (p0_6_1a i 0)))))))]] : List va_W)) := hD
      obtain ⟨w9, ew9, hrun⟩ := let9 hrun
      rw [← ew9] at hP hD
      refine lv_iload_n hx hb dX3_moveInCode_47 rfl (lv_at hl 2 rfl) ?_
      refine lv_sipush (v := 320) hx hb dX3_moveInCode_48 (by decide) ?_
      refine lv_imul hx hb dX3_moveInCode_51 ?_
      refine lv_istore (lv' := [(4, .int (((p0w 0 9) - 1) * 320)), (3, .int (p0w 12 (nn ((p0w 0 9) - 1)))), (2, .ref (p0_6_1a 5 0)), (1, .int ((p0w 0 9) - 1)), (0, .ref (p0a 0))]) hx hb dX3_moveInCode_52 hl (by decide) rfl (fun ls hl => ?_)
      refine lv_aload_n hx hb dX3_moveInCode_54 rfl (lv_at hl 2 rfl) ?_
      refine va_get (D := (dC, dI)) (ci := 3) (v := .ref ((p0_6_1a 5) 4)) (C := RX9) (T := TX9) (N := 6) hx hb hts i_X9 hown hK hP 50 rfl rfl 3 (by decide) (hts _ qw954) (fun _ h9 => h9) rfl dX3_moveInCode_55 ?_
      refine lv_iload_n hx hb dX3_moveInCode_58 rfl (lv_at hl 1 rfl) ?_
      obtain ⟨hq10, hrun⟩ := chk9 hrun
      refine va_iald hx hb hK hP 53 45 rfl rfl (ixb_in hq10) dX3_moveInCode_59 ?_
      refine lv_istore (lv' := [(5, .int (((p0_6_1w 5) 4) (nn (p0w 12 (nn ((p0w 0 9) - 1)))))), (4, .int (((p0w 0 9) - 1) * 320)), (3, .int (p0w 12 (nn ((p0w 0 9) - 1)))), (2, .ref (p0_6_1a 5 0)), (1, .int ((p0w 0 9) - 1)), (0, .ref (p0a 0))]) hx hb dX3_moveInCode_60 hl (by decide) rfl (fun ls hl => ?_)
      refine lv_aload_n hx hb dX3_moveInCode_62 rfl (lv_at hl 3 rfl) ?_
      refine va_get (D := (dC, dI)) (ci := 3) (v := .ref ((p0_6_1a 5) 2)) (C := RX9) (T := TX9) (N := 6) hx hb hts i_X9 hown hK hP 50 rfl rfl 1 (by decide) (hts _ qw953) (fun _ h9 => h9) rfl dX3_moveInCode_63 ?_
      refine lv_iload_n hx hb dX3_moveInCode_66 rfl (lv_at hl 2 rfl) ?_
      obtain ⟨hq11, hrun⟩ := chk9 hrun
      refine va_iald hx hb hK hP 51 43 rfl rfl (ixb_in hq11) dX3_moveInCode_67 ?_
      have J353 : ∀ (p0w_353 : ST) (H : Heap) (locs : List Loc) (ls : Array Slot), (fX3_moveInCode_J353 p0w_353) = some o → va_P (dC, dI) cls (List.flatten ([(oX3 (p0a 0) p0a p0k p0n p0w_353), (oX0 (p0a 7) p0_6a p0_6k p0_6n p0_6w), (oX9 (p0_6_1a 0 0) (p0_6_1a 0) (p0_6_1k 0) (p0_6_1n 0) (p0_6_1w 0)), (oX9 (p0_6_1a 1 0) (p0_6_1a 1) (p0_6_1k 1) (p0_6_1n 1) (p0_6_1w 1)), (oX9 (p0_6_1a 2 0) (p0_6_1a 2) (p0_6_1k 2) (p0_6_1n 2) (p0_6_1w 2)), (oX9 (p0_6_1a 3 0) (p0_6_1a 3) (p0_6_1k 3) (p0_6_1n 3) (p0_6_1w 3)), (oX9 (p0_6_1a 4 0) (p0_6_1a 4) (p0_6_1k 4) (p0_6_1n 4) (p0_6_1w 4)), (oX9 (p0_6_1a 5 0) (p0_6_1a 5) (p0_6_1k 5) (p0_6_1n 5) (p0_6_1w 5)), (oX6 (p0a 5) p0_4a p0_4k p0_4w p0_4l), [((p0_6a 2), .inl (p0_6_1c, 6, .inr (.inr (.inr (.inr (fun i => some (p0_6_1a i 0)))))))]] : List va_W)) H → va_D A (List.flatten ([(oX3 (p0a 0) p0a p0k p0n p0w_353), (oX0 (p0a 7) p0_6a p0_6k p0_6n p0_6w), (oX9 (p0_6_1a 0 0) (p0_6_1a 0) (p0_6_1k 0) (p0_6_1n 0) (p0_6_1w 0)), (oX9 (p0_6_1a 1 0) (p0_6_1a 1) (p0_6_1k 1) (p0_6_1n 1) (p0_6_1w 1)), (oX9 (p0_6_1a 2 0) (p0_6_1a 2) (p0_6_1k 2) (p0_6_1n 2) (p0_6_1w 2)), (oX9 (p0_6_1a 3 0) (p0_6_1a 3) (p0_6_1k 3) (p0_6_1n 3) (p0_6_1w 3)), (oX9 (p0_6_1a 4 0) (p0_6_1a 4) (p0_6_1k 4) (p0_6_1n 4) (p0_6_1w 4)), (oX9 (p0_6_1a 5 0) (p0_6_1a 5) (p0_6_1k 5) (p0_6_1n 5) (p0_6_1w 5)), (oX6 (p0a 5) p0_4a p0_4k p0_4w p0_4l), [((p0_6a 2), .inl (p0_6_1c, 6, .inr (.inr (.inr (.inr (fun i => some (p0_6_1a i 0)))))))]] : List va_W)) → va_K (dC, dI) cls (List.flatten ([(tX3 p0k), (tX0 p0_6k), (tX9 (p0_6_1k 0)), (tX9 (p0_6_1k 1)), (tX9 (p0_6_1k 2)), (tX9 (p0_6_1k 3)), (tX9 (p0_6_1k 4)), (tX9 (p0_6_1k 5)), (tX6 p0_4k), [(p0_6_1c, .object RX9)]] : List (List (ClassId × FieldType)))) s → va_S A s.heap H locs → lv_has ls 9 [] → W p l e ({ frames := 5, cells := 0, slots := 0, locals := 120 } : Room) s m ([.ref (p0a 0)] : List Value).toArray below meth c H locs 0 0 Q (F0 m 353 ls []) := by
        intro p0w_353 H locs ls hrun hP hD hK hS hl 
        unfold fX3_moveInCode_J353 at hrun
        have ho9 : p0w_353 = o := Option.some.inj hrun
        have hP9 : va_P (dC, dI) cls (List.flatten ([(oX3 (p0a 0) p0a p0k p0n o), (oX0 (p0a 7) p0_6a p0_6k p0_6n p0_6w), (oX9 (p0_6_1a 0 0) (p0_6_1a 0) (p0_6_1k 0) (p0_6_1n 0) (p0_6_1w 0)), (oX9 (p0_6_1a 1 0) (p0_6_1a 1) (p0_6_1k 1) (p0_6_1n 1) (p0_6_1w 1)), (oX9 (p0_6_1a 2 0) (p0_6_1a 2) (p0_6_1k 2) (p0_6_1n 2) (p0_6_1w 2)), (oX9 (p0_6_1a 3 0) (p0_6_1a 3) (p0_6_1k 3) (p0_6_1n 3) (p0_6_1w 3)), (oX9 (p0_6_1a 4 0) (p0_6_1a 4) (p0_6_1k 4) (p0_6_1n 4) (p0_6_1w 4)), (oX9 (p0_6_1a 5 0) (p0_6_1a 5) (p0_6_1k 5) (p0_6_1n 5) (p0_6_1w 5)), (oX6 (p0a 5) p0_4a p0_4k p0_4w p0_4l), [((p0_6a 2), .inl (p0_6_1c, 6, .inr (.inr (.inr (.inr (fun i => some (p0_6_1a i 0)))))))]] : List va_W)) H := by first | exact hP | (rw [← ho9]; exact hP)
        have hD9 : va_D A (List.flatten ([(oX3 (p0a 0) p0a p0k p0n o), (oX0 (p0a 7) p0_6a p0_6k p0_6n p0_6w), (oX9 (p0_6_1a 0 0) (p0_6_1a 0) (p0_6_1k 0) (p0_6_1n 0) (p0_6_1w 0)), (oX9 (p0_6_1a 1 0) (p0_6_1a 1) (p0_6_1k 1) (p0_6_1n 1) (p0_6_1w 1)), (oX9 (p0_6_1a 2 0) (p0_6_1a 2) (p0_6_1k 2) (p0_6_1n 2) (p0_6_1w 2)), (oX9 (p0_6_1a 3 0) (p0_6_1a 3) (p0_6_1k 3) (p0_6_1n 3) (p0_6_1w 3)), (oX9 (p0_6_1a 4 0) (p0_6_1a 4) (p0_6_1k 4) (p0_6_1n 4) (p0_6_1w 4)), (oX9 (p0_6_1a 5 0) (p0_6_1a 5) (p0_6_1k 5) (p0_6_1n 5) (p0_6_1w 5)), (oX6 (p0a 5) p0_4a p0_4k p0_4w p0_4l), [((p0_6a 2), .inl (p0_6_1c, 6, .inr (.inr (.inr (.inr (fun i => some (p0_6_1a i 0)))))))]] : List va_W)) := by first | exact hD | (rw [← ho9]; exact hD)
        subst hQ
        exact W.vret hx hb hr (fun t ht hW => ⟨⟨(), rfl, trivial, ⟨by rw [ht]; exact hP9, va_K.moved hW.alike hK, hD9⟩⟩, hS.F ht⟩) hS.2.2 dX3_moveInCode_353
      rcases br9 hrun with ⟨hc12, hrun⟩ | ⟨hc12, hrun⟩
      · refine lv_tableIn (off := 44) (tgt := 112) hx hb dX3_moveInCode_68 (by rw [hc12]; decide) (by rw [hc12]; decide) (by rw [hc12]; rfl) (by decide) ?_
        refine lv_aload_n hx hb dX3_moveInCode_112 rfl (lv_at hl 5 rfl) ?_
        refine va_get (D := (dC, dI)) (ci := 10) (v := .ref (p0a 12)) (C := RX3) (T := TX3) (N := 20) hx hb hts i_X3 hown hK hP 0 rfl rfl 11 (by decide) (hts _ qw915) (fun _ h9 => h9) rfl dX3_moveInCode_113 ?_
        refine lv_iload_n hx hb dX3_moveInCode_116 rfl (lv_at hl 4 rfl) ?_
        refine lv_iload hx hb dX3_moveInCode_117 (lv_at hl 0 rfl) ?_
        obtain ⟨hq13, hrun⟩ := chk9 hrun
        refine va_iast hx hb hK hP hD hS 4 3 rfl rfl (ixb_in hq13) dX3_moveInCode_119 (fun H locs hP hD hS => ?_)
        have hP : va_P (dC, dI) cls (List.flatten ([(oX3 (p0a 0) p0a p0k p0n (upw w9 12 (nn ((p0w 0 9) - 1)) (((p0_6_1w 5) 4) (nn (p0w 12 (nn ((p0w 0 9) - 1))))))), (oX0 (p0a 7) p0_6a p0_6k p0_6n p0_6w), (oX9 (p0_6_1a 0 0) (p0_6_1a 0) (p0_6_1k 0) (p0_6_1n 0) (p0_6_1w 0)), (oX9 (p0_6_1a 1 0) (p0_6_1a 1) (p0_6_1k 1) (p0_6_1n 1) (p0_6_1w 1)), (oX9 (p0_6_1a 2 0) (p0_6_1a 2) (p0_6_1k 2) (p0_6_1n 2) (p0_6_1w 2)), (oX9 (p0_6_1a 3 0) (p0_6_1a 3) (p0_6_1k 3) (p0_6_1n 3) (p0_6_1w 3)), (oX9 (p0_6_1a 4 0) (p0_6_1a 4) (p0_6_1k 4) (p0_6_1n 4) (p0_6_1w 4)), (oX9 (p0_6_1a 5 0) (p0_6_1a 5) (p0_6_1k 5) (p0_6_1n 5) (p0_6_1w 5)), (oX6 (p0a 5) p0_4a p0_4k p0_4w p0_4l), [((p0_6a 2), .inl (p0_6_1c, 6, .inr (.inr (.inr (.inr (fun i => some (p0_6_1a i 0)))))))]] : List va_W)) H := hP
        have hD : va_D A (List.flatten ([(oX3 (p0a 0) p0a p0k p0n (upw w9 12 (nn ((p0w 0 9) - 1)) (((p0_6_1w 5) 4) (nn (p0w 12 (nn ((p0w 0 9) - 1))))))), (oX0 (p0a 7) p0_6a p0_6k p0_6n p0_6w), (oX9 (p0_6_1a 0 0) (p0_6_1a 0) (p0_6_1k 0) (p0_6_1n 0) (p0_6_1w 0)), (oX9 (p0_6_1a 1 0) (p0_6_1a 1) (p0_6_1k 1) (p0_6_1n 1) (p0_6_1w 1)), (oX9 (p0_6_1a 2 0) (p0_6_1a 2) (p0_6_1k 2) (p0_6_1n 2) (p0_6_1w 2)), (oX9 (p0_6_1a 3 0) (p0_6_1a 3) (p0_6_1k 3) (p0_6_1n 3) (p0_6_1w 3)), (oX9 (p0_6_1a 4 0) (p0_6_1a 4) (p0_6_1k 4) (p0_6_1n 4) (p0_6_1w 4)), (oX9 (p0_6_1a 5 0) (p0_6_1a 5) (p0_6_1k 5) (p0_6_1n 5) (p0_6_1w 5)), (oX6 (p0a 5) p0_4a p0_4k p0_4w p0_4l), [((p0_6a 2), .inl (p0_6_1c, 6, .inr (.inr (.inr (.inr (fun i => some (p0_6_1a i 0)))))))]] : List va_W)) := hD
        obtain ⟨w14, ew14, hrun⟩ := let9 hrun
        rw [← ew14] at hP hD
        refine lv_goto (tgt := 353) hx hb dX3_moveInCode_120 (by decide) ?_
        exact J353 w14 _ _ _ hrun hP hD hK hS (lv_sub hl [] rfl)
      rcases br9 hrun with ⟨hc15, hrun⟩ | ⟨hc15, hrun⟩
      · refine lv_tableIn (off := 55) (tgt := 123) hx hb dX3_moveInCode_68 (by rw [hc15]; decide) (by rw [hc15]; decide) (by rw [hc15]; rfl) (by decide) ?_
        refine lv_aload_n hx hb dX3_moveInCode_123 rfl (lv_at hl 5 rfl) ?_
        refine va_get (D := (dC, dI)) (ci := 10) (v := .ref (p0a 16)) (C := RX3) (T := TX3) (N := 20) hx hb hts i_X3 hown hK hP 0 rfl rfl 15 (by decide) (hts _ qw906) (fun _ h9 => h9) rfl dX3_moveInCode_124 ?_
        refine lv_iload hx hb dX3_moveInCode_127 (lv_at hl 1 rfl) ?_
        refine lv_iload hx hb dX3_moveInCode_129 (lv_at hl 0 rfl) ?_
        refine lv_iadd hx hb dX3_moveInCode_131 ?_
        obtain ⟨hq16, hrun⟩ := chk9 hrun
        refine va_iald hx hb hK hP 8 7 rfl rfl (ixb_in hq16) dX3_moveInCode_132 ?_
        rcases br9 hrun with ⟨hc17, hrun⟩ | ⟨hc17, hrun⟩
        · refine lv_if_eq (tgt := 353) hx hb dX3_moveInCode_133 (by decide) (fun _ => ?_) (fun c => absurd hc17 c)
          exact J353 w9 _ _ _ hrun hP hD hK hS (lv_sub hl [] rfl)
        · refine lv_if_eq (tgt := 353) hx hb dX3_moveInCode_133 (by decide) (fun c => absurd c hc17) (fun _ => ?_)
          refine lv_aload_n hx hb dX3_moveInCode_136 rfl (lv_at hl 5 rfl) ?_
          refine va_get (D := (dC, dI)) (ci := 10) (v := .ref (p0a 12)) (C := RX3) (T := TX3) (N := 20) hx hb hts i_X3 hown hK hP 0 rfl rfl 11 (by decide) (hts _ qw915) (fun _ h9 => h9) rfl dX3_moveInCode_137 ?_
          refine lv_iload_n hx hb dX3_moveInCode_140 rfl (lv_at hl 4 rfl) ?_
          refine lv_aload_n hx hb dX3_moveInCode_141 rfl (lv_at hl 3 rfl) ?_
          refine va_get (D := (dC, dI)) (ci := 3) (v := .ref ((p0_6_1a 5) 5)) (C := RX9) (T := TX9) (N := 6) hx hb hts i_X9 hown hK hP 50 rfl rfl 4 (by decide) (hts _ qw967) (fun _ h9 => h9) rfl dX3_moveInCode_142 ?_
          refine lv_iload_n hx hb dX3_moveInCode_145 rfl (lv_at hl 2 rfl) ?_
          obtain ⟨hq18, hrun⟩ := chk9 hrun
          refine va_iald hx hb hK hP 54 46 rfl rfl (ixb_in hq18) dX3_moveInCode_146 ?_
          obtain ⟨hq19, hrun⟩ := chk9 hrun
          refine va_iast hx hb hK hP hD hS 4 3 rfl rfl (ixb_in hq19) dX3_moveInCode_147 (fun H locs hP hD hS => ?_)
          have hP : va_P (dC, dI) cls (List.flatten ([(oX3 (p0a 0) p0a p0k p0n (upw w9 12 (nn ((p0w 0 9) - 1)) (((p0_6_1w 5) 5) (nn (p0w 12 (nn ((p0w 0 9) - 1))))))), (oX0 (p0a 7) p0_6a p0_6k p0_6n p0_6w), (oX9 (p0_6_1a 0 0) (p0_6_1a 0) (p0_6_1k 0) (p0_6_1n 0) (p0_6_1w 0)), (oX9 (p0_6_1a 1 0) (p0_6_1a 1) (p0_6_1k 1) (p0_6_1n 1) (p0_6_1w 1)), (oX9 (p0_6_1a 2 0) (p0_6_1a 2) (p0_6_1k 2) (p0_6_1n 2) (p0_6_1w 2)), (oX9 (p0_6_1a 3 0) (p0_6_1a 3) (p0_6_1k 3) (p0_6_1n 3) (p0_6_1w 3)), (oX9 (p0_6_1a 4 0) (p0_6_1a 4) (p0_6_1k 4) (p0_6_1n 4) (p0_6_1w 4)), (oX9 (p0_6_1a 5 0) (p0_6_1a 5) (p0_6_1k 5) (p0_6_1n 5) (p0_6_1w 5)), (oX6 (p0a 5) p0_4a p0_4k p0_4w p0_4l), [((p0_6a 2), .inl (p0_6_1c, 6, .inr (.inr (.inr (.inr (fun i => some (p0_6_1a i 0)))))))]] : List va_W)) H := hP
          have hD : va_D A (List.flatten ([(oX3 (p0a 0) p0a p0k p0n (upw w9 12 (nn ((p0w 0 9) - 1)) (((p0_6_1w 5) 5) (nn (p0w 12 (nn ((p0w 0 9) - 1))))))), (oX0 (p0a 7) p0_6a p0_6k p0_6n p0_6w), (oX9 (p0_6_1a 0 0) (p0_6_1a 0) (p0_6_1k 0) (p0_6_1n 0) (p0_6_1w 0)), (oX9 (p0_6_1a 1 0) (p0_6_1a 1) (p0_6_1k 1) (p0_6_1n 1) (p0_6_1w 1)), (oX9 (p0_6_1a 2 0) (p0_6_1a 2) (p0_6_1k 2) (p0_6_1n 2) (p0_6_1w 2)), (oX9 (p0_6_1a 3 0) (p0_6_1a 3) (p0_6_1k 3) (p0_6_1n 3) (p0_6_1w 3)), (oX9 (p0_6_1a 4 0) (p0_6_1a 4) (p0_6_1k 4) (p0_6_1n 4) (p0_6_1w 4)), (oX9 (p0_6_1a 5 0) (p0_6_1a 5) (p0_6_1k 5) (p0_6_1n 5) (p0_6_1w 5)), (oX6 (p0a 5) p0_4a p0_4k p0_4w p0_4l), [((p0_6a 2), .inl (p0_6_1c, 6, .inr (.inr (.inr (.inr (fun i => some (p0_6_1a i 0)))))))]] : List va_W)) := hD
          obtain ⟨w20, ew20, hrun⟩ := let9 hrun
          rw [← ew20] at hP hD
          refine lv_goto (tgt := 353) hx hb dX3_moveInCode_148 (by decide) ?_
          exact J353 w20 _ _ _ hrun hP hD hK hS (lv_sub hl [] rfl)
      rcases br9 hrun with ⟨hc21, hrun⟩ | ⟨hc21, hrun⟩
      · refine lv_tableIn (off := 111) (tgt := 179) hx hb dX3_moveInCode_68 (by rw [hc21]; decide) (by rw [hc21]; decide) (by rw [hc21]; rfl) (by decide) ?_
        refine lv_aload_n hx hb dX3_moveInCode_179 rfl (lv_at hl 5 rfl) ?_
        refine va_get (D := (dC, dI)) (ci := 10) (v := .ref (p0a 16)) (C := RX3) (T := TX3) (N := 20) hx hb hts i_X3 hown hK hP 0 rfl rfl 15 (by decide) (hts _ qw906) (fun _ h9 => h9) rfl dX3_moveInCode_180 ?_
        refine lv_iload hx hb dX3_moveInCode_183 (lv_at hl 1 rfl) ?_
        refine lv_iload hx hb dX3_moveInCode_185 (lv_at hl 0 rfl) ?_
        refine lv_iadd hx hb dX3_moveInCode_187 ?_
        obtain ⟨hq22, hrun⟩ := chk9 hrun
        refine va_iald hx hb hK hP 8 7 rfl rfl (ixb_in hq22) dX3_moveInCode_188 ?_
        refine lv_istore (lv' := [(6, .int (w9 16 (nn ((((p0w 0 9) - 1) * 320) + (((p0_6_1w 5) 4) (nn (p0w 12 (nn ((p0w 0 9) - 1))))))))), (5, .int (((p0_6_1w 5) 4) (nn (p0w 12 (nn ((p0w 0 9) - 1)))))), (4, .int (((p0w 0 9) - 1) * 320)), (3, .int (p0w 12 (nn ((p0w 0 9) - 1)))), (2, .ref (p0_6_1a 5 0)), (1, .int ((p0w 0 9) - 1)), (0, .ref (p0a 0))]) hx hb dX3_moveInCode_189 hl (by decide) rfl (fun ls hl => ?_)
        refine lv_aload_n hx hb dX3_moveInCode_191 rfl (lv_at hl 6 rfl) ?_
        refine lv_iload hx hb dX3_moveInCode_192 (lv_at hl 0 rfl) ?_
        obtain ⟨o_23, hc_23, hrun⟩ := bnd9 hrun
        have hPx : va_P (dC, dI) cls ((List.flatten ([(oX3 (p0a 0) p0a p0k p0n w9)] : List va_W)) ++ (List.flatten ([(oX0 (p0a 7) p0_6a p0_6k p0_6n p0_6w), (oX9 (p0_6_1a 0 0) (p0_6_1a 0) (p0_6_1k 0) (p0_6_1n 0) (p0_6_1w 0)), (oX9 (p0_6_1a 1 0) (p0_6_1a 1) (p0_6_1k 1) (p0_6_1n 1) (p0_6_1w 1)), (oX9 (p0_6_1a 2 0) (p0_6_1a 2) (p0_6_1k 2) (p0_6_1n 2) (p0_6_1w 2)), (oX9 (p0_6_1a 3 0) (p0_6_1a 3) (p0_6_1k 3) (p0_6_1n 3) (p0_6_1w 3)), (oX9 (p0_6_1a 4 0) (p0_6_1a 4) (p0_6_1k 4) (p0_6_1n 4) (p0_6_1w 4)), (oX9 (p0_6_1a 5 0) (p0_6_1a 5) (p0_6_1k 5) (p0_6_1n 5) (p0_6_1w 5)), (oX6 (p0a 5) p0_4a p0_4k p0_4w p0_4l), [((p0_6a 2), .inl (p0_6_1c, 6, .inr (.inr (.inr (.inr (fun i => some (p0_6_1a i 0)))))))]] : List va_W))) H := vP_fa (vP_perm hP (bP (List.Perm.refl _)))
        have hDx : va_D A ((List.flatten ([(oX3 (p0a 0) p0a p0k p0n w9)] : List va_W)) ++ (List.flatten ([(oX0 (p0a 7) p0_6a p0_6k p0_6n p0_6w), (oX9 (p0_6_1a 0 0) (p0_6_1a 0) (p0_6_1k 0) (p0_6_1n 0) (p0_6_1w 0)), (oX9 (p0_6_1a 1 0) (p0_6_1a 1) (p0_6_1k 1) (p0_6_1n 1) (p0_6_1w 1)), (oX9 (p0_6_1a 2 0) (p0_6_1a 2) (p0_6_1k 2) (p0_6_1n 2) (p0_6_1w 2)), (oX9 (p0_6_1a 3 0) (p0_6_1a 3) (p0_6_1k 3) (p0_6_1n 3) (p0_6_1w 3)), (oX9 (p0_6_1a 4 0) (p0_6_1a 4) (p0_6_1k 4) (p0_6_1n 4) (p0_6_1w 4)), (oX9 (p0_6_1a 5 0) (p0_6_1a 5) (p0_6_1k 5) (p0_6_1n 5) (p0_6_1w 5)), (oX6 (p0a 5) p0_4a p0_4k p0_4w p0_4l), [((p0_6a 2), .inl (p0_6_1c, 6, .inr (.inr (.inr (.inr (fun i => some (p0_6_1a i 0)))))))]] : List va_W))) := vD_fa (vD_perm hD (bP (List.Perm.refl _)))
        have hKx : va_K (dC, dI) cls ((List.flatten ([(tX3 p0k)] : List (List (ClassId × FieldType)))) ++ (List.flatten ([(tX0 p0_6k), (tX9 (p0_6_1k 0)), (tX9 (p0_6_1k 1)), (tX9 (p0_6_1k 2)), (tX9 (p0_6_1k 3)), (tX9 (p0_6_1k 4)), (tX9 (p0_6_1k 5)), (tX6 p0_4k), [(p0_6_1c, .object RX9)]] : List (List (ClassId × FieldType))))) s := vK_fa (vK_perm hK (bP (List.Perm.refl _)))
        have hPc := vP_l hPx
        have hDc := vD_l hDx
        have hKc := vK_l hKx
        have hFc := vfree hDx hS hA
        refine va_calli (va_runV (As := [.int (w9 16 (nn ((((p0w 0 9) - 1) * 320) + (((p0_6_1w 5) 4) (nn (p0w 12 (nn ((p0w 0 9) - 1))))))))]) (rest := []) ⟨hx, hb, hml, hown, hts⟩ (kX3_close l dC dI (p0a := p0a) (p0k := p0k) (p0n := p0n) (p0w := w9) (p1 := (w9 16 (nn ((((p0w 0 9) - 1) * 320) + (((p0_6_1w 5) 4) (nn (p0w 12 (nn ((p0w 0 9) - 1))))))))) (sz := _) (o := o_23) (hrun := hc_23)) (cwV 1 hts (gi_V qw909 qw910 qw911 qw903 (gi_z qw908)) rfl rfl rfl (by decide +kernel) ⟨Nat.le_of_ble_eq_true rfl, Nat.le_of_ble_eq_true rfl⟩) ⟨PRE.blind, va_recv hKc hPc (ci := 10) (q0 := 0) rfl rfl, PRE.of hE hS hFc hPc hKc hDc⟩ rfl rfl hl.1 rfl (lv_room (Nat.le_of_ble_eq_true rfl)) dX3_moveInCode_194 ⟨(Nat.le_of_ble_eq_true rfl), (Nat.le_of_ble_eq_true rfl)⟩) hS (fun q _ h => hFc q h) hFc (fun r24 u t H locs ht hvm hw hB hz1 hk1 hS => ?_)
        obtain ⟨b1, b2, b3⟩ := hB
        rw [ht] at b1
        obtain ⟨hP, hD, hK⟩ := JOINC (wc := (List.flatten ([(oX3 (p0a 0) p0a p0k p0n w9)] : List va_W))) (wr := (List.flatten ([(oX0 (p0a 7) p0_6a p0_6k p0_6n p0_6w), (oX9 (p0_6_1a 0 0) (p0_6_1a 0) (p0_6_1k 0) (p0_6_1n 0) (p0_6_1w 0)), (oX9 (p0_6_1a 1 0) (p0_6_1a 1) (p0_6_1k 1) (p0_6_1n 1) (p0_6_1w 1)), (oX9 (p0_6_1a 2 0) (p0_6_1a 2) (p0_6_1k 2) (p0_6_1n 2) (p0_6_1w 2)), (oX9 (p0_6_1a 3 0) (p0_6_1a 3) (p0_6_1k 3) (p0_6_1n 3) (p0_6_1w 3)), (oX9 (p0_6_1a 4 0) (p0_6_1a 4) (p0_6_1k 4) (p0_6_1n 4) (p0_6_1w 4)), (oX9 (p0_6_1a 5 0) (p0_6_1a 5) (p0_6_1k 5) (p0_6_1n 5) (p0_6_1w 5)), (oX6 (p0a 5) p0_4a p0_4k p0_4w p0_4l), [((p0_6a 2), .inl (p0_6_1c, 6, .inr (.inr (.inr (.inr (fun i => some (p0_6_1a i 0)))))))]] : List va_W))) (w1 := (List.flatten ([(oX3 (p0a 0) p0a p0k p0n (o_23.2))] : List va_W))) (t1 := (List.flatten ([(tX3 p0k)] : List (List (ClassId × FieldType))))) hPx hDx hKx hk1 hFc b1 (va_K.moved hvm.symm b2) b3
        have hP : va_P (dC, dI) cls (List.flatten ([(oX3 (p0a 0) p0a p0k p0n (o_23.2)), (oX0 (p0a 7) p0_6a p0_6k p0_6n p0_6w), (oX9 (p0_6_1a 0 0) (p0_6_1a 0) (p0_6_1k 0) (p0_6_1n 0) (p0_6_1w 0)), (oX9 (p0_6_1a 1 0) (p0_6_1a 1) (p0_6_1k 1) (p0_6_1n 1) (p0_6_1w 1)), (oX9 (p0_6_1a 2 0) (p0_6_1a 2) (p0_6_1k 2) (p0_6_1n 2) (p0_6_1w 2)), (oX9 (p0_6_1a 3 0) (p0_6_1a 3) (p0_6_1k 3) (p0_6_1n 3) (p0_6_1w 3)), (oX9 (p0_6_1a 4 0) (p0_6_1a 4) (p0_6_1k 4) (p0_6_1n 4) (p0_6_1w 4)), (oX9 (p0_6_1a 5 0) (p0_6_1a 5) (p0_6_1k 5) (p0_6_1n 5) (p0_6_1w 5)), (oX6 (p0a 5) p0_4a p0_4k p0_4w p0_4l), [((p0_6a 2), .inl (p0_6_1c, 6, .inr (.inr (.inr (.inr (fun i => some (p0_6_1a i 0)))))))]] : List va_W)) H := vP_perm (vP_fb hP) (bP (List.Perm.refl _))
        have hD : va_D A (List.flatten ([(oX3 (p0a 0) p0a p0k p0n (o_23.2)), (oX0 (p0a 7) p0_6a p0_6k p0_6n p0_6w), (oX9 (p0_6_1a 0 0) (p0_6_1a 0) (p0_6_1k 0) (p0_6_1n 0) (p0_6_1w 0)), (oX9 (p0_6_1a 1 0) (p0_6_1a 1) (p0_6_1k 1) (p0_6_1n 1) (p0_6_1w 1)), (oX9 (p0_6_1a 2 0) (p0_6_1a 2) (p0_6_1k 2) (p0_6_1n 2) (p0_6_1w 2)), (oX9 (p0_6_1a 3 0) (p0_6_1a 3) (p0_6_1k 3) (p0_6_1n 3) (p0_6_1w 3)), (oX9 (p0_6_1a 4 0) (p0_6_1a 4) (p0_6_1k 4) (p0_6_1n 4) (p0_6_1w 4)), (oX9 (p0_6_1a 5 0) (p0_6_1a 5) (p0_6_1k 5) (p0_6_1n 5) (p0_6_1w 5)), (oX6 (p0a 5) p0_4a p0_4k p0_4w p0_4l), [((p0_6a 2), .inl (p0_6_1c, 6, .inr (.inr (.inr (.inr (fun i => some (p0_6_1a i 0)))))))]] : List va_W)) := vD_perm (vD_fb hD) (bP (List.Perm.refl _))
        have hK : va_K (dC, dI) cls (List.flatten ([(tX3 p0k), (tX0 p0_6k), (tX9 (p0_6_1k 0)), (tX9 (p0_6_1k 1)), (tX9 (p0_6_1k 2)), (tX9 (p0_6_1k 3)), (tX9 (p0_6_1k 4)), (tX9 (p0_6_1k 5)), (tX6 p0_4k), [(p0_6_1c, .object RX9)]] : List (List (ClassId × FieldType)))) s := vK_perm (vK_fb hK) (bP (List.Perm.refl _))
        obtain rfl : r24 = (o_23.1) := hw
        rcases br9 hrun with ⟨hc25, hrun⟩ | ⟨hc25, hrun⟩
        · refine lv_if_eq (tgt := 353) hx hb dX3_moveInCode_197 (by decide) (fun _ => ?_) (fun c => absurd hc25 c)
          exact J353 (o_23.2) _ _ _ hrun hP hD hK hS (lv_sub hl [] rfl)
        · refine lv_if_eq (tgt := 353) hx hb dX3_moveInCode_197 (by decide) (fun c => absurd c hc25) (fun _ => ?_)
          refine lv_aload_n hx hb dX3_moveInCode_200 rfl (lv_at hl 6 rfl) ?_
          refine va_get (D := (dC, dI)) (ci := 10) (v := .int ((o_23.2) 0 9)) (C := RX3) (T := TX3) (N := 20) hx hb hts i_X3 hown hK hP 0 rfl rfl 9 (by decide) (hts _ qw897) (fun _ h9 => h9) rfl dX3_moveInCode_201 ?_
          refine lv_iconst (v := 1) hx hb dX3_moveInCode_204 (by decide) ?_
          refine lv_isub hx hb dX3_moveInCode_205 ?_
          refine lv_istore (lv' := [(7, .int (((o_23.2) 0 9) - 1)), (6, .int (w9 16 (nn ((((p0w 0 9) - 1) * 320) + (((p0_6_1w 5) 4) (nn (p0w 12 (nn ((p0w 0 9) - 1))))))))), (5, .int (((p0_6_1w 5) 4) (nn (p0w 12 (nn ((p0w 0 9) - 1)))))), (4, .int (((p0w 0 9) - 1) * 320)), (3, .int (p0w 12 (nn ((p0w 0 9) - 1)))), (2, .ref (p0_6_1a 5 0)), (1, .int ((p0w 0 9) - 1)), (0, .ref (p0a 0))]) hx hb dX3_moveInCode_206 hl (by decide) rfl (fun ls hl => ?_)
          refine lv_aload_n hx hb dX3_moveInCode_208 rfl (lv_at hl 7 rfl) ?_
          refine va_get (D := (dC, dI)) (ci := 10) (v := .ref (p0a 7)) (C := RX3) (T := TX3) (N := 20) hx hb hts i_X3 hown hK hP 0 rfl rfl 6 (by decide) (hts _ qw946) (fun _ h9 => h9) rfl dX3_moveInCode_209 ?_
          refine va_get (D := (dC, dI)) (ci := 8) (v := .ref (p0_6a 2)) (C := RX0) (T := TX0) (N := 17) hx hb hts i_X0 hown hK hP 11 rfl rfl 1 (by decide) (hts _ qw988) (fun _ h9 => h9) rfl dX3_moveInCode_212 ?_
          refine lv_aload_n hx hb dX3_moveInCode_215 rfl (lv_at hl 7 rfl) ?_
          refine va_get (D := (dC, dI)) (ci := 10) (v := .ref (p0a 11)) (C := RX3) (T := TX3) (N := 20) hx hb hts i_X3 hown hK hP 0 rfl rfl 10 (by decide) (hts _ qw913) (fun _ h9 => h9) rfl dX3_moveInCode_216 ?_
          refine lv_iload hx hb dX3_moveInCode_219 (lv_at hl 0 rfl) ?_
          obtain ⟨hq26, hrun⟩ := chk9 hrun
          refine va_iald hx hb hK hP 3 2 rfl rfl (ixb_in hq26) dX3_moveInCode_221 ?_
          obtain ⟨hq27, hrun⟩ := chk9 hrun
          refine va_aldq hx hb hK hP 67 58 rfl rfl (ixb_in hq27) dX3_moveInCode_222 ?_
          obtain ⟨i28, ei28, hrun⟩ := let9 hrun
          have hi_i28 : i28 < 6 := by rw [ei28]; exact ixb_lt hq27
          have es_i28 : Int32.toNatClampNeg (((o_23.2) 11) (nn (((o_23.2) 0 9) - 1))) = i28 := ei28.symm
          rw [es_i28]
          clear ei28
          rcases lt6 hi_i28 with rfl | rfl | rfl | rfl | rfl | rfl
          · refine W.eq (g2 := F0 m 223 ls [.ref (p0_6_1a 0 0)]) rfl ?_
            refine va_get (D := (dC, dI)) (ci := 3) (v := .ref ((p0_6_1a 0) 3)) (C := RX9) (T := TX9) (N := 6) hx hb hts i_X9 hown hK hP 20 rfl rfl 2 (by decide) (hts _ qw918) (fun _ h9 => h9) rfl dX3_moveInCode_223 ?_
            refine lv_aload_n hx hb dX3_moveInCode_226 rfl (lv_at hl 7 rfl) ?_
            refine va_get (D := (dC, dI)) (ci := 10) (v := .ref (p0a 12)) (C := RX3) (T := TX3) (N := 20) hx hb hts i_X3 hown hK hP 0 rfl rfl 11 (by decide) (hts _ qw915) (fun _ h9 => h9) rfl dX3_moveInCode_227 ?_
            refine lv_iload hx hb dX3_moveInCode_230 (lv_at hl 0 rfl) ?_
            obtain ⟨hq29, hrun⟩ := chk9 hrun
            refine va_iald hx hb hK hP 4 3 rfl rfl (ixb_in hq29) dX3_moveInCode_232 ?_
            refine lv_iconst (v := 1) hx hb dX3_moveInCode_233 (by decide) ?_
            refine lv_isub hx hb dX3_moveInCode_234 ?_
            obtain ⟨hq30, hrun⟩ := chk9 hrun
            refine va_iald hx hb hK hP 22 19 rfl rfl (ixb_in hq30) dX3_moveInCode_235 ?_
            refine lv_istore (lv' := [(8, .int (((p0_6_1w 0) 3) (nn ((((o_23.2) 12) (nn (((o_23.2) 0 9) - 1))) - 1)))), (7, .int (((o_23.2) 0 9) - 1)), (6, .int (w9 16 (nn ((((p0w 0 9) - 1) * 320) + (((p0_6_1w 5) 4) (nn (p0w 12 (nn ((p0w 0 9) - 1))))))))), (5, .int (((p0_6_1w 5) 4) (nn (p0w 12 (nn ((p0w 0 9) - 1)))))), (4, .int (((p0w 0 9) - 1) * 320)), (3, .int (p0w 12 (nn ((p0w 0 9) - 1)))), (2, .ref (p0_6_1a 5 0)), (1, .int ((p0w 0 9) - 1)), (0, .ref (p0a 0))]) hx hb dX3_moveInCode_236 hl (by decide) rfl (fun ls hl => ?_)
            refine lv_aload_n hx hb dX3_moveInCode_238 rfl (lv_at hl 8 rfl) ?_
            refine va_get (D := (dC, dI)) (ci := 10) (v := .ref (p0a 16)) (C := RX3) (T := TX3) (N := 20) hx hb hts i_X3 hown hK hP 0 rfl rfl 15 (by decide) (hts _ qw906) (fun _ h9 => h9) rfl dX3_moveInCode_239 ?_
            refine lv_iload hx hb dX3_moveInCode_242 (lv_at hl 1 rfl) ?_
            refine lv_sipush (v := 320) hx hb dX3_moveInCode_244 (by decide) ?_
            refine lv_imul hx hb dX3_moveInCode_247 ?_
            refine lv_iload hx hb dX3_moveInCode_248 (lv_at hl 0 rfl) ?_
            refine lv_iadd hx hb dX3_moveInCode_250 ?_
            refine lv_iload hx hb dX3_moveInCode_251 (lv_at hl 2 rfl) ?_
            obtain ⟨hq31, hrun⟩ := chk9 hrun
            refine va_iast hx hb hK hP hD hS 8 7 rfl rfl (ixb_in hq31) dX3_moveInCode_253 (fun H locs hP hD hS => ?_)
            have hP : va_P (dC, dI) cls (List.flatten ([(oX3 (p0a 0) p0a p0k p0n (upw (o_23.2) 16 (nn (((((o_23.2) 0 9) - 1) * 320) + (((p0_6_1w 0) 3) (nn ((((o_23.2) 12) (nn (((o_23.2) 0 9) - 1))) - 1))))) (w9 16 (nn ((((p0w 0 9) - 1) * 320) + (((p0_6_1w 5) 4) (nn (p0w 12 (nn ((p0w 0 9) - 1)))))))))), (oX0 (p0a 7) p0_6a p0_6k p0_6n p0_6w), (oX9 (p0_6_1a 0 0) (p0_6_1a 0) (p0_6_1k 0) (p0_6_1n 0) (p0_6_1w 0)), (oX9 (p0_6_1a 1 0) (p0_6_1a 1) (p0_6_1k 1) (p0_6_1n 1) (p0_6_1w 1)), (oX9 (p0_6_1a 2 0) (p0_6_1a 2) (p0_6_1k 2) (p0_6_1n 2) (p0_6_1w 2)), (oX9 (p0_6_1a 3 0) (p0_6_1a 3) (p0_6_1k 3) (p0_6_1n 3) (p0_6_1w 3)), (oX9 (p0_6_1a 4 0) (p0_6_1a 4) (p0_6_1k 4) (p0_6_1n 4) (p0_6_1w 4)), (oX9 (p0_6_1a 5 0) (p0_6_1a 5) (p0_6_1k 5) (p0_6_1n 5) (p0_6_1w 5)), (oX6 (p0a 5) p0_4a p0_4k p0_4w p0_4l), [((p0_6a 2), .inl (p0_6_1c, 6, .inr (.inr (.inr (.inr (fun i => some (p0_6_1a i 0)))))))]] : List va_W)) H := hP
            have hD : va_D A (List.flatten ([(oX3 (p0a 0) p0a p0k p0n (upw (o_23.2) 16 (nn (((((o_23.2) 0 9) - 1) * 320) + (((p0_6_1w 0) 3) (nn ((((o_23.2) 12) (nn (((o_23.2) 0 9) - 1))) - 1))))) (w9 16 (nn ((((p0w 0 9) - 1) * 320) + (((p0_6_1w 5) 4) (nn (p0w 12 (nn ((p0w 0 9) - 1)))))))))), (oX0 (p0a 7) p0_6a p0_6k p0_6n p0_6w), (oX9 (p0_6_1a 0 0) (p0_6_1a 0) (p0_6_1k 0) (p0_6_1n 0) (p0_6_1w 0)), (oX9 (p0_6_1a 1 0) (p0_6_1a 1) (p0_6_1k 1) (p0_6_1n 1) (p0_6_1w 1)), (oX9 (p0_6_1a 2 0) (p0_6_1a 2) (p0_6_1k 2) (p0_6_1n 2) (p0_6_1w 2)), (oX9 (p0_6_1a 3 0) (p0_6_1a 3) (p0_6_1k 3) (p0_6_1n 3) (p0_6_1w 3)), (oX9 (p0_6_1a 4 0) (p0_6_1a 4) (p0_6_1k 4) (p0_6_1n 4) (p0_6_1w 4)), (oX9 (p0_6_1a 5 0) (p0_6_1a 5) (p0_6_1k 5) (p0_6_1n 5) (p0_6_1w 5)), (oX6 (p0a 5) p0_4a p0_4k p0_4w p0_4l), [((p0_6a 2), .inl (p0_6_1c, 6, .inr (.inr (.inr (.inr (fun i => some (p0_6_1a i 0)))))))]] : List va_W)) := hD
            obtain ⟨w32, ew32, hrun⟩ := let9 hrun
            rw [← ew32] at hP hD
            refine lv_goto (tgt := 353) hx hb dX3_moveInCode_254 (by decide) ?_
            exact J353 w32 _ _ _ hrun hP hD hK hS (lv_sub hl [] rfl)
          · refine W.eq (g2 := F0 m 223 ls [.ref (p0_6_1a 1 0)]) rfl ?_
            refine va_get (D := (dC, dI)) (ci := 3) (v := .ref ((p0_6_1a 1) 3)) (C := RX9) (T := TX9) (N := 6) hx hb hts i_X9 hown hK hP 26 rfl rfl 2 (by decide) (hts _ qw918) (fun _ h9 => h9) rfl dX3_moveInCode_223 ?_
            refine lv_aload_n hx hb dX3_moveInCode_226 rfl (lv_at hl 7 rfl) ?_
            refine va_get (D := (dC, dI)) (ci := 10) (v := .ref (p0a 12)) (C := RX3) (T := TX3) (N := 20) hx hb hts i_X3 hown hK hP 0 rfl rfl 11 (by decide) (hts _ qw915) (fun _ h9 => h9) rfl dX3_moveInCode_227 ?_
            refine lv_iload hx hb dX3_moveInCode_230 (lv_at hl 0 rfl) ?_
            obtain ⟨hq29, hrun⟩ := chk9 hrun
            refine va_iald hx hb hK hP 4 3 rfl rfl (ixb_in hq29) dX3_moveInCode_232 ?_
            refine lv_iconst (v := 1) hx hb dX3_moveInCode_233 (by decide) ?_
            refine lv_isub hx hb dX3_moveInCode_234 ?_
            obtain ⟨hq30, hrun⟩ := chk9 hrun
            refine va_iald hx hb hK hP 28 24 rfl rfl (ixb_in hq30) dX3_moveInCode_235 ?_
            refine lv_istore (lv' := [(8, .int (((p0_6_1w 1) 3) (nn ((((o_23.2) 12) (nn (((o_23.2) 0 9) - 1))) - 1)))), (7, .int (((o_23.2) 0 9) - 1)), (6, .int (w9 16 (nn ((((p0w 0 9) - 1) * 320) + (((p0_6_1w 5) 4) (nn (p0w 12 (nn ((p0w 0 9) - 1))))))))), (5, .int (((p0_6_1w 5) 4) (nn (p0w 12 (nn ((p0w 0 9) - 1)))))), (4, .int (((p0w 0 9) - 1) * 320)), (3, .int (p0w 12 (nn ((p0w 0 9) - 1)))), (2, .ref (p0_6_1a 5 0)), (1, .int ((p0w 0 9) - 1)), (0, .ref (p0a 0))]) hx hb dX3_moveInCode_236 hl (by decide) rfl (fun ls hl => ?_)
            refine lv_aload_n hx hb dX3_moveInCode_238 rfl (lv_at hl 8 rfl) ?_
            refine va_get (D := (dC, dI)) (ci := 10) (v := .ref (p0a 16)) (C := RX3) (T := TX3) (N := 20) hx hb hts i_X3 hown hK hP 0 rfl rfl 15 (by decide) (hts _ qw906) (fun _ h9 => h9) rfl dX3_moveInCode_239 ?_
            refine lv_iload hx hb dX3_moveInCode_242 (lv_at hl 1 rfl) ?_
            refine lv_sipush (v := 320) hx hb dX3_moveInCode_244 (by decide) ?_
            refine lv_imul hx hb dX3_moveInCode_247 ?_
            refine lv_iload hx hb dX3_moveInCode_248 (lv_at hl 0 rfl) ?_
            refine lv_iadd hx hb dX3_moveInCode_250 ?_
            refine lv_iload hx hb dX3_moveInCode_251 (lv_at hl 2 rfl) ?_
            obtain ⟨hq31, hrun⟩ := chk9 hrun
            refine va_iast hx hb hK hP hD hS 8 7 rfl rfl (ixb_in hq31) dX3_moveInCode_253 (fun H locs hP hD hS => ?_)
            have hP : va_P (dC, dI) cls (List.flatten ([(oX3 (p0a 0) p0a p0k p0n (upw (o_23.2) 16 (nn (((((o_23.2) 0 9) - 1) * 320) + (((p0_6_1w 1) 3) (nn ((((o_23.2) 12) (nn (((o_23.2) 0 9) - 1))) - 1))))) (w9 16 (nn ((((p0w 0 9) - 1) * 320) + (((p0_6_1w 5) 4) (nn (p0w 12 (nn ((p0w 0 9) - 1)))))))))), (oX0 (p0a 7) p0_6a p0_6k p0_6n p0_6w), (oX9 (p0_6_1a 0 0) (p0_6_1a 0) (p0_6_1k 0) (p0_6_1n 0) (p0_6_1w 0)), (oX9 (p0_6_1a 1 0) (p0_6_1a 1) (p0_6_1k 1) (p0_6_1n 1) (p0_6_1w 1)), (oX9 (p0_6_1a 2 0) (p0_6_1a 2) (p0_6_1k 2) (p0_6_1n 2) (p0_6_1w 2)), (oX9 (p0_6_1a 3 0) (p0_6_1a 3) (p0_6_1k 3) (p0_6_1n 3) (p0_6_1w 3)), (oX9 (p0_6_1a 4 0) (p0_6_1a 4) (p0_6_1k 4) (p0_6_1n 4) (p0_6_1w 4)), (oX9 (p0_6_1a 5 0) (p0_6_1a 5) (p0_6_1k 5) (p0_6_1n 5) (p0_6_1w 5)), (oX6 (p0a 5) p0_4a p0_4k p0_4w p0_4l), [((p0_6a 2), .inl (p0_6_1c, 6, .inr (.inr (.inr (.inr (fun i => some (p0_6_1a i 0)))))))]] : List va_W)) H := hP
            have hD : va_D A (List.flatten ([(oX3 (p0a 0) p0a p0k p0n (upw (o_23.2) 16 (nn (((((o_23.2) 0 9) - 1) * 320) + (((p0_6_1w 1) 3) (nn ((((o_23.2) 12) (nn (((o_23.2) 0 9) - 1))) - 1))))) (w9 16 (nn ((((p0w 0 9) - 1) * 320) + (((p0_6_1w 5) 4) (nn (p0w 12 (nn ((p0w 0 9) - 1)))))))))), (oX0 (p0a 7) p0_6a p0_6k p0_6n p0_6w), (oX9 (p0_6_1a 0 0) (p0_6_1a 0) (p0_6_1k 0) (p0_6_1n 0) (p0_6_1w 0)), (oX9 (p0_6_1a 1 0) (p0_6_1a 1) (p0_6_1k 1) (p0_6_1n 1) (p0_6_1w 1)), (oX9 (p0_6_1a 2 0) (p0_6_1a 2) (p0_6_1k 2) (p0_6_1n 2) (p0_6_1w 2)), (oX9 (p0_6_1a 3 0) (p0_6_1a 3) (p0_6_1k 3) (p0_6_1n 3) (p0_6_1w 3)), (oX9 (p0_6_1a 4 0) (p0_6_1a 4) (p0_6_1k 4) (p0_6_1n 4) (p0_6_1w 4)), (oX9 (p0_6_1a 5 0) (p0_6_1a 5) (p0_6_1k 5) (p0_6_1n 5) (p0_6_1w 5)), (oX6 (p0a 5) p0_4a p0_4k p0_4w p0_4l), [((p0_6a 2), .inl (p0_6_1c, 6, .inr (.inr (.inr (.inr (fun i => some (p0_6_1a i 0)))))))]] : List va_W)) := hD
            obtain ⟨w32, ew32, hrun⟩ := let9 hrun
            rw [← ew32] at hP hD
            refine lv_goto (tgt := 353) hx hb dX3_moveInCode_254 (by decide) ?_
            exact J353 w32 _ _ _ hrun hP hD hK hS (lv_sub hl [] rfl)
          · refine W.eq (g2 := F0 m 223 ls [.ref (p0_6_1a 2 0)]) rfl ?_
            refine va_get (D := (dC, dI)) (ci := 3) (v := .ref ((p0_6_1a 2) 3)) (C := RX9) (T := TX9) (N := 6) hx hb hts i_X9 hown hK hP 32 rfl rfl 2 (by decide) (hts _ qw918) (fun _ h9 => h9) rfl dX3_moveInCode_223 ?_
            refine lv_aload_n hx hb dX3_moveInCode_226 rfl (lv_at hl 7 rfl) ?_
            refine va_get (D := (dC, dI)) (ci := 10) (v := .ref (p0a 12)) (C := RX3) (T := TX3) (N := 20) hx hb hts i_X3 hown hK hP 0 rfl rfl 11 (by decide) (hts _ qw915) (fun _ h9 => h9) rfl dX3_moveInCode_227 ?_
            refine lv_iload hx hb dX3_moveInCode_230 (lv_at hl 0 rfl) ?_
            obtain ⟨hq29, hrun⟩ := chk9 hrun
            refine va_iald hx hb hK hP 4 3 rfl rfl (ixb_in hq29) dX3_moveInCode_232 ?_
            refine lv_iconst (v := 1) hx hb dX3_moveInCode_233 (by decide) ?_
            refine lv_isub hx hb dX3_moveInCode_234 ?_
            obtain ⟨hq30, hrun⟩ := chk9 hrun
            refine va_iald hx hb hK hP 34 29 rfl rfl (ixb_in hq30) dX3_moveInCode_235 ?_
            refine lv_istore (lv' := [(8, .int (((p0_6_1w 2) 3) (nn ((((o_23.2) 12) (nn (((o_23.2) 0 9) - 1))) - 1)))), (7, .int (((o_23.2) 0 9) - 1)), (6, .int (w9 16 (nn ((((p0w 0 9) - 1) * 320) + (((p0_6_1w 5) 4) (nn (p0w 12 (nn ((p0w 0 9) - 1))))))))), (5, .int (((p0_6_1w 5) 4) (nn (p0w 12 (nn ((p0w 0 9) - 1)))))), (4, .int (((p0w 0 9) - 1) * 320)), (3, .int (p0w 12 (nn ((p0w 0 9) - 1)))), (2, .ref (p0_6_1a 5 0)), (1, .int ((p0w 0 9) - 1)), (0, .ref (p0a 0))]) hx hb dX3_moveInCode_236 hl (by decide) rfl (fun ls hl => ?_)
            refine lv_aload_n hx hb dX3_moveInCode_238 rfl (lv_at hl 8 rfl) ?_
            refine va_get (D := (dC, dI)) (ci := 10) (v := .ref (p0a 16)) (C := RX3) (T := TX3) (N := 20) hx hb hts i_X3 hown hK hP 0 rfl rfl 15 (by decide) (hts _ qw906) (fun _ h9 => h9) rfl dX3_moveInCode_239 ?_
            refine lv_iload hx hb dX3_moveInCode_242 (lv_at hl 1 rfl) ?_
            refine lv_sipush (v := 320) hx hb dX3_moveInCode_244 (by decide) ?_
            refine lv_imul hx hb dX3_moveInCode_247 ?_
            refine lv_iload hx hb dX3_moveInCode_248 (lv_at hl 0 rfl) ?_
            refine lv_iadd hx hb dX3_moveInCode_250 ?_
            refine lv_iload hx hb dX3_moveInCode_251 (lv_at hl 2 rfl) ?_
            obtain ⟨hq31, hrun⟩ := chk9 hrun
            refine va_iast hx hb hK hP hD hS 8 7 rfl rfl (ixb_in hq31) dX3_moveInCode_253 (fun H locs hP hD hS => ?_)
            have hP : va_P (dC, dI) cls (List.flatten ([(oX3 (p0a 0) p0a p0k p0n (upw (o_23.2) 16 (nn (((((o_23.2) 0 9) - 1) * 320) + (((p0_6_1w 2) 3) (nn ((((o_23.2) 12) (nn (((o_23.2) 0 9) - 1))) - 1))))) (w9 16 (nn ((((p0w 0 9) - 1) * 320) + (((p0_6_1w 5) 4) (nn (p0w 12 (nn ((p0w 0 9) - 1)))))))))), (oX0 (p0a 7) p0_6a p0_6k p0_6n p0_6w), (oX9 (p0_6_1a 0 0) (p0_6_1a 0) (p0_6_1k 0) (p0_6_1n 0) (p0_6_1w 0)), (oX9 (p0_6_1a 1 0) (p0_6_1a 1) (p0_6_1k 1) (p0_6_1n 1) (p0_6_1w 1)), (oX9 (p0_6_1a 2 0) (p0_6_1a 2) (p0_6_1k 2) (p0_6_1n 2) (p0_6_1w 2)), (oX9 (p0_6_1a 3 0) (p0_6_1a 3) (p0_6_1k 3) (p0_6_1n 3) (p0_6_1w 3)), (oX9 (p0_6_1a 4 0) (p0_6_1a 4) (p0_6_1k 4) (p0_6_1n 4) (p0_6_1w 4)), (oX9 (p0_6_1a 5 0) (p0_6_1a 5) (p0_6_1k 5) (p0_6_1n 5) (p0_6_1w 5)), (oX6 (p0a 5) p0_4a p0_4k p0_4w p0_4l), [((p0_6a 2), .inl (p0_6_1c, 6, .inr (.inr (.inr (.inr (fun i => some (p0_6_1a i 0)))))))]] : List va_W)) H := hP
            have hD : va_D A (List.flatten ([(oX3 (p0a 0) p0a p0k p0n (upw (o_23.2) 16 (nn (((((o_23.2) 0 9) - 1) * 320) + (((p0_6_1w 2) 3) (nn ((((o_23.2) 12) (nn (((o_23.2) 0 9) - 1))) - 1))))) (w9 16 (nn ((((p0w 0 9) - 1) * 320) + (((p0_6_1w 5) 4) (nn (p0w 12 (nn ((p0w 0 9) - 1)))))))))), (oX0 (p0a 7) p0_6a p0_6k p0_6n p0_6w), (oX9 (p0_6_1a 0 0) (p0_6_1a 0) (p0_6_1k 0) (p0_6_1n 0) (p0_6_1w 0)), (oX9 (p0_6_1a 1 0) (p0_6_1a 1) (p0_6_1k 1) (p0_6_1n 1) (p0_6_1w 1)), (oX9 (p0_6_1a 2 0) (p0_6_1a 2) (p0_6_1k 2) (p0_6_1n 2) (p0_6_1w 2)), (oX9 (p0_6_1a 3 0) (p0_6_1a 3) (p0_6_1k 3) (p0_6_1n 3) (p0_6_1w 3)), (oX9 (p0_6_1a 4 0) (p0_6_1a 4) (p0_6_1k 4) (p0_6_1n 4) (p0_6_1w 4)), (oX9 (p0_6_1a 5 0) (p0_6_1a 5) (p0_6_1k 5) (p0_6_1n 5) (p0_6_1w 5)), (oX6 (p0a 5) p0_4a p0_4k p0_4w p0_4l), [((p0_6a 2), .inl (p0_6_1c, 6, .inr (.inr (.inr (.inr (fun i => some (p0_6_1a i 0)))))))]] : List va_W)) := hD
            obtain ⟨w32, ew32, hrun⟩ := let9 hrun
            rw [← ew32] at hP hD
            refine lv_goto (tgt := 353) hx hb dX3_moveInCode_254 (by decide) ?_
            exact J353 w32 _ _ _ hrun hP hD hK hS (lv_sub hl [] rfl)
          · refine W.eq (g2 := F0 m 223 ls [.ref (p0_6_1a 3 0)]) rfl ?_
            refine va_get (D := (dC, dI)) (ci := 3) (v := .ref ((p0_6_1a 3) 3)) (C := RX9) (T := TX9) (N := 6) hx hb hts i_X9 hown hK hP 38 rfl rfl 2 (by decide) (hts _ qw918) (fun _ h9 => h9) rfl dX3_moveInCode_223 ?_
            refine lv_aload_n hx hb dX3_moveInCode_226 rfl (lv_at hl 7 rfl) ?_
            refine va_get (D := (dC, dI)) (ci := 10) (v := .ref (p0a 12)) (C := RX3) (T := TX3) (N := 20) hx hb hts i_X3 hown hK hP 0 rfl rfl 11 (by decide) (hts _ qw915) (fun _ h9 => h9) rfl dX3_moveInCode_227 ?_
            refine lv_iload hx hb dX3_moveInCode_230 (lv_at hl 0 rfl) ?_
            obtain ⟨hq29, hrun⟩ := chk9 hrun
            refine va_iald hx hb hK hP 4 3 rfl rfl (ixb_in hq29) dX3_moveInCode_232 ?_
            refine lv_iconst (v := 1) hx hb dX3_moveInCode_233 (by decide) ?_
            refine lv_isub hx hb dX3_moveInCode_234 ?_
            obtain ⟨hq30, hrun⟩ := chk9 hrun
            refine va_iald hx hb hK hP 40 34 rfl rfl (ixb_in hq30) dX3_moveInCode_235 ?_
            refine lv_istore (lv' := [(8, .int (((p0_6_1w 3) 3) (nn ((((o_23.2) 12) (nn (((o_23.2) 0 9) - 1))) - 1)))), (7, .int (((o_23.2) 0 9) - 1)), (6, .int (w9 16 (nn ((((p0w 0 9) - 1) * 320) + (((p0_6_1w 5) 4) (nn (p0w 12 (nn ((p0w 0 9) - 1))))))))), (5, .int (((p0_6_1w 5) 4) (nn (p0w 12 (nn ((p0w 0 9) - 1)))))), (4, .int (((p0w 0 9) - 1) * 320)), (3, .int (p0w 12 (nn ((p0w 0 9) - 1)))), (2, .ref (p0_6_1a 5 0)), (1, .int ((p0w 0 9) - 1)), (0, .ref (p0a 0))]) hx hb dX3_moveInCode_236 hl (by decide) rfl (fun ls hl => ?_)
            refine lv_aload_n hx hb dX3_moveInCode_238 rfl (lv_at hl 8 rfl) ?_
            refine va_get (D := (dC, dI)) (ci := 10) (v := .ref (p0a 16)) (C := RX3) (T := TX3) (N := 20) hx hb hts i_X3 hown hK hP 0 rfl rfl 15 (by decide) (hts _ qw906) (fun _ h9 => h9) rfl dX3_moveInCode_239 ?_
            refine lv_iload hx hb dX3_moveInCode_242 (lv_at hl 1 rfl) ?_
            refine lv_sipush (v := 320) hx hb dX3_moveInCode_244 (by decide) ?_
            refine lv_imul hx hb dX3_moveInCode_247 ?_
            refine lv_iload hx hb dX3_moveInCode_248 (lv_at hl 0 rfl) ?_
            refine lv_iadd hx hb dX3_moveInCode_250 ?_
            refine lv_iload hx hb dX3_moveInCode_251 (lv_at hl 2 rfl) ?_
            obtain ⟨hq31, hrun⟩ := chk9 hrun
            refine va_iast hx hb hK hP hD hS 8 7 rfl rfl (ixb_in hq31) dX3_moveInCode_253 (fun H locs hP hD hS => ?_)
            have hP : va_P (dC, dI) cls (List.flatten ([(oX3 (p0a 0) p0a p0k p0n (upw (o_23.2) 16 (nn (((((o_23.2) 0 9) - 1) * 320) + (((p0_6_1w 3) 3) (nn ((((o_23.2) 12) (nn (((o_23.2) 0 9) - 1))) - 1))))) (w9 16 (nn ((((p0w 0 9) - 1) * 320) + (((p0_6_1w 5) 4) (nn (p0w 12 (nn ((p0w 0 9) - 1)))))))))), (oX0 (p0a 7) p0_6a p0_6k p0_6n p0_6w), (oX9 (p0_6_1a 0 0) (p0_6_1a 0) (p0_6_1k 0) (p0_6_1n 0) (p0_6_1w 0)), (oX9 (p0_6_1a 1 0) (p0_6_1a 1) (p0_6_1k 1) (p0_6_1n 1) (p0_6_1w 1)), (oX9 (p0_6_1a 2 0) (p0_6_1a 2) (p0_6_1k 2) (p0_6_1n 2) (p0_6_1w 2)), (oX9 (p0_6_1a 3 0) (p0_6_1a 3) (p0_6_1k 3) (p0_6_1n 3) (p0_6_1w 3)), (oX9 (p0_6_1a 4 0) (p0_6_1a 4) (p0_6_1k 4) (p0_6_1n 4) (p0_6_1w 4)), (oX9 (p0_6_1a 5 0) (p0_6_1a 5) (p0_6_1k 5) (p0_6_1n 5) (p0_6_1w 5)), (oX6 (p0a 5) p0_4a p0_4k p0_4w p0_4l), [((p0_6a 2), .inl (p0_6_1c, 6, .inr (.inr (.inr (.inr (fun i => some (p0_6_1a i 0)))))))]] : List va_W)) H := hP
            have hD : va_D A (List.flatten ([(oX3 (p0a 0) p0a p0k p0n (upw (o_23.2) 16 (nn (((((o_23.2) 0 9) - 1) * 320) + (((p0_6_1w 3) 3) (nn ((((o_23.2) 12) (nn (((o_23.2) 0 9) - 1))) - 1))))) (w9 16 (nn ((((p0w 0 9) - 1) * 320) + (((p0_6_1w 5) 4) (nn (p0w 12 (nn ((p0w 0 9) - 1)))))))))), (oX0 (p0a 7) p0_6a p0_6k p0_6n p0_6w), (oX9 (p0_6_1a 0 0) (p0_6_1a 0) (p0_6_1k 0) (p0_6_1n 0) (p0_6_1w 0)), (oX9 (p0_6_1a 1 0) (p0_6_1a 1) (p0_6_1k 1) (p0_6_1n 1) (p0_6_1w 1)), (oX9 (p0_6_1a 2 0) (p0_6_1a 2) (p0_6_1k 2) (p0_6_1n 2) (p0_6_1w 2)), (oX9 (p0_6_1a 3 0) (p0_6_1a 3) (p0_6_1k 3) (p0_6_1n 3) (p0_6_1w 3)), (oX9 (p0_6_1a 4 0) (p0_6_1a 4) (p0_6_1k 4) (p0_6_1n 4) (p0_6_1w 4)), (oX9 (p0_6_1a 5 0) (p0_6_1a 5) (p0_6_1k 5) (p0_6_1n 5) (p0_6_1w 5)), (oX6 (p0a 5) p0_4a p0_4k p0_4w p0_4l), [((p0_6a 2), .inl (p0_6_1c, 6, .inr (.inr (.inr (.inr (fun i => some (p0_6_1a i 0)))))))]] : List va_W)) := hD
            obtain ⟨w32, ew32, hrun⟩ := let9 hrun
            rw [← ew32] at hP hD
            refine lv_goto (tgt := 353) hx hb dX3_moveInCode_254 (by decide) ?_
            exact J353 w32 _ _ _ hrun hP hD hK hS (lv_sub hl [] rfl)
          · refine W.eq (g2 := F0 m 223 ls [.ref (p0_6_1a 4 0)]) rfl ?_
            refine va_get (D := (dC, dI)) (ci := 3) (v := .ref ((p0_6_1a 4) 3)) (C := RX9) (T := TX9) (N := 6) hx hb hts i_X9 hown hK hP 44 rfl rfl 2 (by decide) (hts _ qw918) (fun _ h9 => h9) rfl dX3_moveInCode_223 ?_
            refine lv_aload_n hx hb dX3_moveInCode_226 rfl (lv_at hl 7 rfl) ?_
            refine va_get (D := (dC, dI)) (ci := 10) (v := .ref (p0a 12)) (C := RX3) (T := TX3) (N := 20) hx hb hts i_X3 hown hK hP 0 rfl rfl 11 (by decide) (hts _ qw915) (fun _ h9 => h9) rfl dX3_moveInCode_227 ?_
            refine lv_iload hx hb dX3_moveInCode_230 (lv_at hl 0 rfl) ?_
            obtain ⟨hq29, hrun⟩ := chk9 hrun
            refine va_iald hx hb hK hP 4 3 rfl rfl (ixb_in hq29) dX3_moveInCode_232 ?_
            refine lv_iconst (v := 1) hx hb dX3_moveInCode_233 (by decide) ?_
            refine lv_isub hx hb dX3_moveInCode_234 ?_
            obtain ⟨hq30, hrun⟩ := chk9 hrun
            refine va_iald hx hb hK hP 46 39 rfl rfl (ixb_in hq30) dX3_moveInCode_235 ?_
            refine lv_istore (lv' := [(8, .int (((p0_6_1w 4) 3) (nn ((((o_23.2) 12) (nn (((o_23.2) 0 9) - 1))) - 1)))), (7, .int (((o_23.2) 0 9) - 1)), (6, .int (w9 16 (nn ((((p0w 0 9) - 1) * 320) + (((p0_6_1w 5) 4) (nn (p0w 12 (nn ((p0w 0 9) - 1))))))))), (5, .int (((p0_6_1w 5) 4) (nn (p0w 12 (nn ((p0w 0 9) - 1)))))), (4, .int (((p0w 0 9) - 1) * 320)), (3, .int (p0w 12 (nn ((p0w 0 9) - 1)))), (2, .ref (p0_6_1a 5 0)), (1, .int ((p0w 0 9) - 1)), (0, .ref (p0a 0))]) hx hb dX3_moveInCode_236 hl (by decide) rfl (fun ls hl => ?_)
            refine lv_aload_n hx hb dX3_moveInCode_238 rfl (lv_at hl 8 rfl) ?_
            refine va_get (D := (dC, dI)) (ci := 10) (v := .ref (p0a 16)) (C := RX3) (T := TX3) (N := 20) hx hb hts i_X3 hown hK hP 0 rfl rfl 15 (by decide) (hts _ qw906) (fun _ h9 => h9) rfl dX3_moveInCode_239 ?_
            refine lv_iload hx hb dX3_moveInCode_242 (lv_at hl 1 rfl) ?_
            refine lv_sipush (v := 320) hx hb dX3_moveInCode_244 (by decide) ?_
            refine lv_imul hx hb dX3_moveInCode_247 ?_
            refine lv_iload hx hb dX3_moveInCode_248 (lv_at hl 0 rfl) ?_
            refine lv_iadd hx hb dX3_moveInCode_250 ?_
            refine lv_iload hx hb dX3_moveInCode_251 (lv_at hl 2 rfl) ?_
            obtain ⟨hq31, hrun⟩ := chk9 hrun
            refine va_iast hx hb hK hP hD hS 8 7 rfl rfl (ixb_in hq31) dX3_moveInCode_253 (fun H locs hP hD hS => ?_)
            have hP : va_P (dC, dI) cls (List.flatten ([(oX3 (p0a 0) p0a p0k p0n (upw (o_23.2) 16 (nn (((((o_23.2) 0 9) - 1) * 320) + (((p0_6_1w 4) 3) (nn ((((o_23.2) 12) (nn (((o_23.2) 0 9) - 1))) - 1))))) (w9 16 (nn ((((p0w 0 9) - 1) * 320) + (((p0_6_1w 5) 4) (nn (p0w 12 (nn ((p0w 0 9) - 1)))))))))), (oX0 (p0a 7) p0_6a p0_6k p0_6n p0_6w), (oX9 (p0_6_1a 0 0) (p0_6_1a 0) (p0_6_1k 0) (p0_6_1n 0) (p0_6_1w 0)), (oX9 (p0_6_1a 1 0) (p0_6_1a 1) (p0_6_1k 1) (p0_6_1n 1) (p0_6_1w 1)), (oX9 (p0_6_1a 2 0) (p0_6_1a 2) (p0_6_1k 2) (p0_6_1n 2) (p0_6_1w 2)), (oX9 (p0_6_1a 3 0) (p0_6_1a 3) (p0_6_1k 3) (p0_6_1n 3) (p0_6_1w 3)), (oX9 (p0_6_1a 4 0) (p0_6_1a 4) (p0_6_1k 4) (p0_6_1n 4) (p0_6_1w 4)), (oX9 (p0_6_1a 5 0) (p0_6_1a 5) (p0_6_1k 5) (p0_6_1n 5) (p0_6_1w 5)), (oX6 (p0a 5) p0_4a p0_4k p0_4w p0_4l), [((p0_6a 2), .inl (p0_6_1c, 6, .inr (.inr (.inr (.inr (fun i => some (p0_6_1a i 0)))))))]] : List va_W)) H := hP
            have hD : va_D A (List.flatten ([(oX3 (p0a 0) p0a p0k p0n (upw (o_23.2) 16 (nn (((((o_23.2) 0 9) - 1) * 320) + (((p0_6_1w 4) 3) (nn ((((o_23.2) 12) (nn (((o_23.2) 0 9) - 1))) - 1))))) (w9 16 (nn ((((p0w 0 9) - 1) * 320) + (((p0_6_1w 5) 4) (nn (p0w 12 (nn ((p0w 0 9) - 1)))))))))), (oX0 (p0a 7) p0_6a p0_6k p0_6n p0_6w), (oX9 (p0_6_1a 0 0) (p0_6_1a 0) (p0_6_1k 0) (p0_6_1n 0) (p0_6_1w 0)), (oX9 (p0_6_1a 1 0) (p0_6_1a 1) (p0_6_1k 1) (p0_6_1n 1) (p0_6_1w 1)), (oX9 (p0_6_1a 2 0) (p0_6_1a 2) (p0_6_1k 2) (p0_6_1n 2) (p0_6_1w 2)), (oX9 (p0_6_1a 3 0) (p0_6_1a 3) (p0_6_1k 3) (p0_6_1n 3) (p0_6_1w 3)), (oX9 (p0_6_1a 4 0) (p0_6_1a 4) (p0_6_1k 4) (p0_6_1n 4) (p0_6_1w 4)), (oX9 (p0_6_1a 5 0) (p0_6_1a 5) (p0_6_1k 5) (p0_6_1n 5) (p0_6_1w 5)), (oX6 (p0a 5) p0_4a p0_4k p0_4w p0_4l), [((p0_6a 2), .inl (p0_6_1c, 6, .inr (.inr (.inr (.inr (fun i => some (p0_6_1a i 0)))))))]] : List va_W)) := hD
            obtain ⟨w32, ew32, hrun⟩ := let9 hrun
            rw [← ew32] at hP hD
            refine lv_goto (tgt := 353) hx hb dX3_moveInCode_254 (by decide) ?_
            exact J353 w32 _ _ _ hrun hP hD hK hS (lv_sub hl [] rfl)
          · refine W.eq (g2 := F0 m 223 ls [.ref (p0_6_1a 5 0)]) rfl ?_
            refine va_get (D := (dC, dI)) (ci := 3) (v := .ref ((p0_6_1a 5) 3)) (C := RX9) (T := TX9) (N := 6) hx hb hts i_X9 hown hK hP 50 rfl rfl 2 (by decide) (hts _ qw918) (fun _ h9 => h9) rfl dX3_moveInCode_223 ?_
            refine lv_aload_n hx hb dX3_moveInCode_226 rfl (lv_at hl 7 rfl) ?_
            refine va_get (D := (dC, dI)) (ci := 10) (v := .ref (p0a 12)) (C := RX3) (T := TX3) (N := 20) hx hb hts i_X3 hown hK hP 0 rfl rfl 11 (by decide) (hts _ qw915) (fun _ h9 => h9) rfl dX3_moveInCode_227 ?_
            refine lv_iload hx hb dX3_moveInCode_230 (lv_at hl 0 rfl) ?_
            obtain ⟨hq29, hrun⟩ := chk9 hrun
            refine va_iald hx hb hK hP 4 3 rfl rfl (ixb_in hq29) dX3_moveInCode_232 ?_
            refine lv_iconst (v := 1) hx hb dX3_moveInCode_233 (by decide) ?_
            refine lv_isub hx hb dX3_moveInCode_234 ?_
            obtain ⟨hq30, hrun⟩ := chk9 hrun
            refine va_iald hx hb hK hP 52 44 rfl rfl (ixb_in hq30) dX3_moveInCode_235 ?_
            refine lv_istore (lv' := [(8, .int (((p0_6_1w 5) 3) (nn ((((o_23.2) 12) (nn (((o_23.2) 0 9) - 1))) - 1)))), (7, .int (((o_23.2) 0 9) - 1)), (6, .int (w9 16 (nn ((((p0w 0 9) - 1) * 320) + (((p0_6_1w 5) 4) (nn (p0w 12 (nn ((p0w 0 9) - 1))))))))), (5, .int (((p0_6_1w 5) 4) (nn (p0w 12 (nn ((p0w 0 9) - 1)))))), (4, .int (((p0w 0 9) - 1) * 320)), (3, .int (p0w 12 (nn ((p0w 0 9) - 1)))), (2, .ref (p0_6_1a 5 0)), (1, .int ((p0w 0 9) - 1)), (0, .ref (p0a 0))]) hx hb dX3_moveInCode_236 hl (by decide) rfl (fun ls hl => ?_)
            refine lv_aload_n hx hb dX3_moveInCode_238 rfl (lv_at hl 8 rfl) ?_
            refine va_get (D := (dC, dI)) (ci := 10) (v := .ref (p0a 16)) (C := RX3) (T := TX3) (N := 20) hx hb hts i_X3 hown hK hP 0 rfl rfl 15 (by decide) (hts _ qw906) (fun _ h9 => h9) rfl dX3_moveInCode_239 ?_
            refine lv_iload hx hb dX3_moveInCode_242 (lv_at hl 1 rfl) ?_
            refine lv_sipush (v := 320) hx hb dX3_moveInCode_244 (by decide) ?_
            refine lv_imul hx hb dX3_moveInCode_247 ?_
            refine lv_iload hx hb dX3_moveInCode_248 (lv_at hl 0 rfl) ?_
            refine lv_iadd hx hb dX3_moveInCode_250 ?_
            refine lv_iload hx hb dX3_moveInCode_251 (lv_at hl 2 rfl) ?_
            obtain ⟨hq31, hrun⟩ := chk9 hrun
            refine va_iast hx hb hK hP hD hS 8 7 rfl rfl (ixb_in hq31) dX3_moveInCode_253 (fun H locs hP hD hS => ?_)
            have hP : va_P (dC, dI) cls (List.flatten ([(oX3 (p0a 0) p0a p0k p0n (upw (o_23.2) 16 (nn (((((o_23.2) 0 9) - 1) * 320) + (((p0_6_1w 5) 3) (nn ((((o_23.2) 12) (nn (((o_23.2) 0 9) - 1))) - 1))))) (w9 16 (nn ((((p0w 0 9) - 1) * 320) + (((p0_6_1w 5) 4) (nn (p0w 12 (nn ((p0w 0 9) - 1)))))))))), (oX0 (p0a 7) p0_6a p0_6k p0_6n p0_6w), (oX9 (p0_6_1a 0 0) (p0_6_1a 0) (p0_6_1k 0) (p0_6_1n 0) (p0_6_1w 0)), (oX9 (p0_6_1a 1 0) (p0_6_1a 1) (p0_6_1k 1) (p0_6_1n 1) (p0_6_1w 1)), (oX9 (p0_6_1a 2 0) (p0_6_1a 2) (p0_6_1k 2) (p0_6_1n 2) (p0_6_1w 2)), (oX9 (p0_6_1a 3 0) (p0_6_1a 3) (p0_6_1k 3) (p0_6_1n 3) (p0_6_1w 3)), (oX9 (p0_6_1a 4 0) (p0_6_1a 4) (p0_6_1k 4) (p0_6_1n 4) (p0_6_1w 4)), (oX9 (p0_6_1a 5 0) (p0_6_1a 5) (p0_6_1k 5) (p0_6_1n 5) (p0_6_1w 5)), (oX6 (p0a 5) p0_4a p0_4k p0_4w p0_4l), [((p0_6a 2), .inl (p0_6_1c, 6, .inr (.inr (.inr (.inr (fun i => some (p0_6_1a i 0)))))))]] : List va_W)) H := hP
            have hD : va_D A (List.flatten ([(oX3 (p0a 0) p0a p0k p0n (upw (o_23.2) 16 (nn (((((o_23.2) 0 9) - 1) * 320) + (((p0_6_1w 5) 3) (nn ((((o_23.2) 12) (nn (((o_23.2) 0 9) - 1))) - 1))))) (w9 16 (nn ((((p0w 0 9) - 1) * 320) + (((p0_6_1w 5) 4) (nn (p0w 12 (nn ((p0w 0 9) - 1)))))))))), (oX0 (p0a 7) p0_6a p0_6k p0_6n p0_6w), (oX9 (p0_6_1a 0 0) (p0_6_1a 0) (p0_6_1k 0) (p0_6_1n 0) (p0_6_1w 0)), (oX9 (p0_6_1a 1 0) (p0_6_1a 1) (p0_6_1k 1) (p0_6_1n 1) (p0_6_1w 1)), (oX9 (p0_6_1a 2 0) (p0_6_1a 2) (p0_6_1k 2) (p0_6_1n 2) (p0_6_1w 2)), (oX9 (p0_6_1a 3 0) (p0_6_1a 3) (p0_6_1k 3) (p0_6_1n 3) (p0_6_1w 3)), (oX9 (p0_6_1a 4 0) (p0_6_1a 4) (p0_6_1k 4) (p0_6_1n 4) (p0_6_1w 4)), (oX9 (p0_6_1a 5 0) (p0_6_1a 5) (p0_6_1k 5) (p0_6_1n 5) (p0_6_1w 5)), (oX6 (p0a 5) p0_4a p0_4k p0_4w p0_4l), [((p0_6a 2), .inl (p0_6_1c, 6, .inr (.inr (.inr (.inr (fun i => some (p0_6_1a i 0)))))))]] : List va_W)) := hD
            obtain ⟨w32, ew32, hrun⟩ := let9 hrun
            rw [← ew32] at hP hD
            refine lv_goto (tgt := 353) hx hb dX3_moveInCode_254 (by decide) ?_
            exact J353 w32 _ _ _ hrun hP hD hK hS (lv_sub hl [] rfl)
      rcases br9 hrun with ⟨hc33, hrun⟩ | ⟨hc33, hrun⟩
      · refine lv_tableIn (off := 189) (tgt := 257) hx hb dX3_moveInCode_68 (by rw [hc33]; decide) (by rw [hc33]; decide) (by rw [hc33]; rfl) (by decide) ?_
        refine lv_aload_n hx hb dX3_moveInCode_257 rfl (lv_at hl 5 rfl) ?_
        refine va_get (D := (dC, dI)) (ci := 10) (v := .ref (p0a 16)) (C := RX3) (T := TX3) (N := 20) hx hb hts i_X3 hown hK hP 0 rfl rfl 15 (by decide) (hts _ qw906) (fun _ h9 => h9) rfl dX3_moveInCode_258 ?_
        refine lv_iload hx hb dX3_moveInCode_261 (lv_at hl 1 rfl) ?_
        refine lv_aload_n hx hb dX3_moveInCode_263 rfl (lv_at hl 3 rfl) ?_
        refine va_get (D := (dC, dI)) (ci := 3) (v := .ref ((p0_6_1a 5) 3)) (C := RX9) (T := TX9) (N := 6) hx hb hts i_X9 hown hK hP 50 rfl rfl 2 (by decide) (hts _ qw918) (fun _ h9 => h9) rfl dX3_moveInCode_264 ?_
        refine lv_iload_n hx hb dX3_moveInCode_267 rfl (lv_at hl 2 rfl) ?_
        obtain ⟨hq34, hrun⟩ := chk9 hrun
        refine va_iald hx hb hK hP 52 44 rfl rfl (ixb_in hq34) dX3_moveInCode_268 ?_
        refine lv_iadd hx hb dX3_moveInCode_269 ?_
        refine lv_aload_n hx hb dX3_moveInCode_270 rfl (lv_at hl 5 rfl) ?_
        refine va_get (D := (dC, dI)) (ci := 10) (v := .ref (p0a 16)) (C := RX3) (T := TX3) (N := 20) hx hb hts i_X3 hown hK hP 0 rfl rfl 15 (by decide) (hts _ qw906) (fun _ h9 => h9) rfl dX3_moveInCode_271 ?_
        refine lv_iload hx hb dX3_moveInCode_274 (lv_at hl 1 rfl) ?_
        refine lv_iload hx hb dX3_moveInCode_276 (lv_at hl 0 rfl) ?_
        refine lv_iadd hx hb dX3_moveInCode_278 ?_
        obtain ⟨hq35, hrun⟩ := chk9 hrun
        refine va_iald hx hb hK hP 8 7 rfl rfl (ixb_in hq35) dX3_moveInCode_279 ?_
        obtain ⟨hq36, hrun⟩ := chk9 hrun
        refine va_iast hx hb hK hP hD hS 8 7 rfl rfl (ixb_in hq36) dX3_moveInCode_280 (fun H locs hP hD hS => ?_)
        have hP : va_P (dC, dI) cls (List.flatten ([(oX3 (p0a 0) p0a p0k p0n (upw w9 16 (nn ((((p0w 0 9) - 1) * 320) + (((p0_6_1w 5) 3) (nn (p0w 12 (nn ((p0w 0 9) - 1))))))) (w9 16 (nn ((((p0w 0 9) - 1) * 320) + (((p0_6_1w 5) 4) (nn (p0w 12 (nn ((p0w 0 9) - 1)))))))))), (oX0 (p0a 7) p0_6a p0_6k p0_6n p0_6w), (oX9 (p0_6_1a 0 0) (p0_6_1a 0) (p0_6_1k 0) (p0_6_1n 0) (p0_6_1w 0)), (oX9 (p0_6_1a 1 0) (p0_6_1a 1) (p0_6_1k 1) (p0_6_1n 1) (p0_6_1w 1)), (oX9 (p0_6_1a 2 0) (p0_6_1a 2) (p0_6_1k 2) (p0_6_1n 2) (p0_6_1w 2)), (oX9 (p0_6_1a 3 0) (p0_6_1a 3) (p0_6_1k 3) (p0_6_1n 3) (p0_6_1w 3)), (oX9 (p0_6_1a 4 0) (p0_6_1a 4) (p0_6_1k 4) (p0_6_1n 4) (p0_6_1w 4)), (oX9 (p0_6_1a 5 0) (p0_6_1a 5) (p0_6_1k 5) (p0_6_1n 5) (p0_6_1w 5)), (oX6 (p0a 5) p0_4a p0_4k p0_4w p0_4l), [((p0_6a 2), .inl (p0_6_1c, 6, .inr (.inr (.inr (.inr (fun i => some (p0_6_1a i 0)))))))]] : List va_W)) H := hP
        have hD : va_D A (List.flatten ([(oX3 (p0a 0) p0a p0k p0n (upw w9 16 (nn ((((p0w 0 9) - 1) * 320) + (((p0_6_1w 5) 3) (nn (p0w 12 (nn ((p0w 0 9) - 1))))))) (w9 16 (nn ((((p0w 0 9) - 1) * 320) + (((p0_6_1w 5) 4) (nn (p0w 12 (nn ((p0w 0 9) - 1)))))))))), (oX0 (p0a 7) p0_6a p0_6k p0_6n p0_6w), (oX9 (p0_6_1a 0 0) (p0_6_1a 0) (p0_6_1k 0) (p0_6_1n 0) (p0_6_1w 0)), (oX9 (p0_6_1a 1 0) (p0_6_1a 1) (p0_6_1k 1) (p0_6_1n 1) (p0_6_1w 1)), (oX9 (p0_6_1a 2 0) (p0_6_1a 2) (p0_6_1k 2) (p0_6_1n 2) (p0_6_1w 2)), (oX9 (p0_6_1a 3 0) (p0_6_1a 3) (p0_6_1k 3) (p0_6_1n 3) (p0_6_1w 3)), (oX9 (p0_6_1a 4 0) (p0_6_1a 4) (p0_6_1k 4) (p0_6_1n 4) (p0_6_1w 4)), (oX9 (p0_6_1a 5 0) (p0_6_1a 5) (p0_6_1k 5) (p0_6_1n 5) (p0_6_1w 5)), (oX6 (p0a 5) p0_4a p0_4k p0_4w p0_4l), [((p0_6a 2), .inl (p0_6_1c, 6, .inr (.inr (.inr (.inr (fun i => some (p0_6_1a i 0)))))))]] : List va_W)) := hD
        obtain ⟨w37, ew37, hrun⟩ := let9 hrun
        rw [← ew37] at hP hD
        refine lv_goto (tgt := 353) hx hb dX3_moveInCode_281 (by decide) ?_
        exact J353 w37 _ _ _ hrun hP hD hK hS (lv_sub hl [] rfl)
      rcases br9 hrun with ⟨hc38, hrun⟩ | ⟨hc38, hrun⟩
      · refine lv_tableIn (off := 216) (tgt := 284) hx hb dX3_moveInCode_68 (by rw [hc38]; decide) (by rw [hc38]; decide) (by rw [hc38]; rfl) (by decide) ?_
        refine lv_aload_n hx hb dX3_moveInCode_284 rfl (lv_at hl 5 rfl) ?_
        refine va_get (D := (dC, dI)) (ci := 10) (v := .ref (p0a 16)) (C := RX3) (T := TX3) (N := 20) hx hb hts i_X3 hown hK hP 0 rfl rfl 15 (by decide) (hts _ qw906) (fun _ h9 => h9) rfl dX3_moveInCode_285 ?_
        refine lv_iload hx hb dX3_moveInCode_288 (lv_at hl 1 rfl) ?_
        refine lv_aload_n hx hb dX3_moveInCode_290 rfl (lv_at hl 3 rfl) ?_
        refine va_get (D := (dC, dI)) (ci := 3) (v := .ref ((p0_6_1a 5) 3)) (C := RX9) (T := TX9) (N := 6) hx hb hts i_X9 hown hK hP 50 rfl rfl 2 (by decide) (hts _ qw918) (fun _ h9 => h9) rfl dX3_moveInCode_291 ?_
        refine lv_iload_n hx hb dX3_moveInCode_294 rfl (lv_at hl 2 rfl) ?_
        obtain ⟨hq39, hrun⟩ := chk9 hrun
        refine va_iald hx hb hK hP 52 44 rfl rfl (ixb_in hq39) dX3_moveInCode_295 ?_
        refine lv_iadd hx hb dX3_moveInCode_296 ?_
        refine lv_aload_n hx hb dX3_moveInCode_297 rfl (lv_at hl 5 rfl) ?_
        refine va_get (D := (dC, dI)) (ci := 10) (v := .ref (p0a 17)) (C := RX3) (T := TX3) (N := 20) hx hb hts i_X3 hown hK hP 0 rfl rfl 16 (by decide) (hts _ qw935) (fun _ h9 => h9) rfl dX3_moveInCode_298 ?_
        refine lv_iload_n hx hb dX3_moveInCode_301 rfl (lv_at hl 4 rfl) ?_
        refine lv_aload_n hx hb dX3_moveInCode_302 rfl (lv_at hl 5 rfl) ?_
        refine va_get (D := (dC, dI)) (ci := 10) (v := .int (w9 0 17)) (C := RX3) (T := TX3) (N := 20) hx hb hts i_X3 hown hK hP 0 rfl rfl 17 (by decide) (hts _ qw936) (fun _ h9 => h9) rfl dX3_moveInCode_303 ?_
        refine lv_imul hx hb dX3_moveInCode_306 ?_
        refine lv_iload hx hb dX3_moveInCode_307 (lv_at hl 0 rfl) ?_
        refine lv_iadd hx hb dX3_moveInCode_309 ?_
        obtain ⟨hq40, hrun⟩ := chk9 hrun
        refine va_iald hx hb hK hP 9 8 rfl rfl (ixb_in hq40) dX3_moveInCode_310 ?_
        obtain ⟨hq41, hrun⟩ := chk9 hrun
        refine va_iast hx hb hK hP hD hS 8 7 rfl rfl (ixb_in hq41) dX3_moveInCode_311 (fun H locs hP hD hS => ?_)
        have hP : va_P (dC, dI) cls (List.flatten ([(oX3 (p0a 0) p0a p0k p0n (upw w9 16 (nn ((((p0w 0 9) - 1) * 320) + (((p0_6_1w 5) 3) (nn (p0w 12 (nn ((p0w 0 9) - 1))))))) (w9 17 (nn ((((p0w 0 9) - 1) * (w9 0 17)) + (((p0_6_1w 5) 4) (nn (p0w 12 (nn ((p0w 0 9) - 1)))))))))), (oX0 (p0a 7) p0_6a p0_6k p0_6n p0_6w), (oX9 (p0_6_1a 0 0) (p0_6_1a 0) (p0_6_1k 0) (p0_6_1n 0) (p0_6_1w 0)), (oX9 (p0_6_1a 1 0) (p0_6_1a 1) (p0_6_1k 1) (p0_6_1n 1) (p0_6_1w 1)), (oX9 (p0_6_1a 2 0) (p0_6_1a 2) (p0_6_1k 2) (p0_6_1n 2) (p0_6_1w 2)), (oX9 (p0_6_1a 3 0) (p0_6_1a 3) (p0_6_1k 3) (p0_6_1n 3) (p0_6_1w 3)), (oX9 (p0_6_1a 4 0) (p0_6_1a 4) (p0_6_1k 4) (p0_6_1n 4) (p0_6_1w 4)), (oX9 (p0_6_1a 5 0) (p0_6_1a 5) (p0_6_1k 5) (p0_6_1n 5) (p0_6_1w 5)), (oX6 (p0a 5) p0_4a p0_4k p0_4w p0_4l), [((p0_6a 2), .inl (p0_6_1c, 6, .inr (.inr (.inr (.inr (fun i => some (p0_6_1a i 0)))))))]] : List va_W)) H := hP
        have hD : va_D A (List.flatten ([(oX3 (p0a 0) p0a p0k p0n (upw w9 16 (nn ((((p0w 0 9) - 1) * 320) + (((p0_6_1w 5) 3) (nn (p0w 12 (nn ((p0w 0 9) - 1))))))) (w9 17 (nn ((((p0w 0 9) - 1) * (w9 0 17)) + (((p0_6_1w 5) 4) (nn (p0w 12 (nn ((p0w 0 9) - 1)))))))))), (oX0 (p0a 7) p0_6a p0_6k p0_6n p0_6w), (oX9 (p0_6_1a 0 0) (p0_6_1a 0) (p0_6_1k 0) (p0_6_1n 0) (p0_6_1w 0)), (oX9 (p0_6_1a 1 0) (p0_6_1a 1) (p0_6_1k 1) (p0_6_1n 1) (p0_6_1w 1)), (oX9 (p0_6_1a 2 0) (p0_6_1a 2) (p0_6_1k 2) (p0_6_1n 2) (p0_6_1w 2)), (oX9 (p0_6_1a 3 0) (p0_6_1a 3) (p0_6_1k 3) (p0_6_1n 3) (p0_6_1w 3)), (oX9 (p0_6_1a 4 0) (p0_6_1a 4) (p0_6_1k 4) (p0_6_1n 4) (p0_6_1w 4)), (oX9 (p0_6_1a 5 0) (p0_6_1a 5) (p0_6_1k 5) (p0_6_1n 5) (p0_6_1w 5)), (oX6 (p0a 5) p0_4a p0_4k p0_4w p0_4l), [((p0_6a 2), .inl (p0_6_1c, 6, .inr (.inr (.inr (.inr (fun i => some (p0_6_1a i 0)))))))]] : List va_W)) := hD
        obtain ⟨w42, ew42, hrun⟩ := let9 hrun
        rw [← ew42] at hP hD
        refine lv_goto (tgt := 353) hx hb dX3_moveInCode_312 (by decide) ?_
        exact J353 w42 _ _ _ hrun hP hD hK hS (lv_sub hl [] rfl)
      rcases br9 hrun with ⟨hc43, hrun⟩ | ⟨hc43, hrun⟩
      · refine lv_tableIn (off := 247) (tgt := 315) hx hb dX3_moveInCode_68 (by rw [hc43]; decide) (by rw [hc43]; decide) (by rw [hc43]; rfl) (by decide) ?_
        refine lv_aload_n hx hb dX3_moveInCode_315 rfl (lv_at hl 5 rfl) ?_
        refine va_get (D := (dC, dI)) (ci := 10) (v := .ref (p0a 17)) (C := RX3) (T := TX3) (N := 20) hx hb hts i_X3 hown hK hP 0 rfl rfl 16 (by decide) (hts _ qw935) (fun _ h9 => h9) rfl dX3_moveInCode_316 ?_
        refine lv_iload_n hx hb dX3_moveInCode_319 rfl (lv_at hl 4 rfl) ?_
        refine lv_aload_n hx hb dX3_moveInCode_320 rfl (lv_at hl 5 rfl) ?_
        refine va_get (D := (dC, dI)) (ci := 10) (v := .int (w9 0 17)) (C := RX3) (T := TX3) (N := 20) hx hb hts i_X3 hown hK hP 0 rfl rfl 17 (by decide) (hts _ qw936) (fun _ h9 => h9) rfl dX3_moveInCode_321 ?_
        refine lv_imul hx hb dX3_moveInCode_324 ?_
        refine lv_aload_n hx hb dX3_moveInCode_325 rfl (lv_at hl 3 rfl) ?_
        refine va_get (D := (dC, dI)) (ci := 3) (v := .ref ((p0_6_1a 5) 5)) (C := RX9) (T := TX9) (N := 6) hx hb hts i_X9 hown hK hP 50 rfl rfl 4 (by decide) (hts _ qw967) (fun _ h9 => h9) rfl dX3_moveInCode_326 ?_
        refine lv_iload_n hx hb dX3_moveInCode_329 rfl (lv_at hl 2 rfl) ?_
        obtain ⟨hq44, hrun⟩ := chk9 hrun
        refine va_iald hx hb hK hP 54 46 rfl rfl (ixb_in hq44) dX3_moveInCode_330 ?_
        refine lv_iadd hx hb dX3_moveInCode_331 ?_
        refine lv_aload_n hx hb dX3_moveInCode_332 rfl (lv_at hl 5 rfl) ?_
        refine va_get (D := (dC, dI)) (ci := 10) (v := .ref (p0a 16)) (C := RX3) (T := TX3) (N := 20) hx hb hts i_X3 hown hK hP 0 rfl rfl 15 (by decide) (hts _ qw906) (fun _ h9 => h9) rfl dX3_moveInCode_333 ?_
        refine lv_iload hx hb dX3_moveInCode_336 (lv_at hl 1 rfl) ?_
        refine lv_iload hx hb dX3_moveInCode_338 (lv_at hl 0 rfl) ?_
        refine lv_iadd hx hb dX3_moveInCode_340 ?_
        obtain ⟨hq45, hrun⟩ := chk9 hrun
        refine va_iald hx hb hK hP 8 7 rfl rfl (ixb_in hq45) dX3_moveInCode_341 ?_
        obtain ⟨hq46, hrun⟩ := chk9 hrun
        refine va_iast hx hb hK hP hD hS 9 8 rfl rfl (ixb_in hq46) dX3_moveInCode_342 (fun H locs hP hD hS => ?_)
        have hP : va_P (dC, dI) cls (List.flatten ([(oX3 (p0a 0) p0a p0k p0n (upw w9 17 (nn ((((p0w 0 9) - 1) * (w9 0 17)) + (((p0_6_1w 5) 5) (nn (p0w 12 (nn ((p0w 0 9) - 1))))))) (w9 16 (nn ((((p0w 0 9) - 1) * 320) + (((p0_6_1w 5) 4) (nn (p0w 12 (nn ((p0w 0 9) - 1)))))))))), (oX0 (p0a 7) p0_6a p0_6k p0_6n p0_6w), (oX9 (p0_6_1a 0 0) (p0_6_1a 0) (p0_6_1k 0) (p0_6_1n 0) (p0_6_1w 0)), (oX9 (p0_6_1a 1 0) (p0_6_1a 1) (p0_6_1k 1) (p0_6_1n 1) (p0_6_1w 1)), (oX9 (p0_6_1a 2 0) (p0_6_1a 2) (p0_6_1k 2) (p0_6_1n 2) (p0_6_1w 2)), (oX9 (p0_6_1a 3 0) (p0_6_1a 3) (p0_6_1k 3) (p0_6_1n 3) (p0_6_1w 3)), (oX9 (p0_6_1a 4 0) (p0_6_1a 4) (p0_6_1k 4) (p0_6_1n 4) (p0_6_1w 4)), (oX9 (p0_6_1a 5 0) (p0_6_1a 5) (p0_6_1k 5) (p0_6_1n 5) (p0_6_1w 5)), (oX6 (p0a 5) p0_4a p0_4k p0_4w p0_4l), [((p0_6a 2), .inl (p0_6_1c, 6, .inr (.inr (.inr (.inr (fun i => some (p0_6_1a i 0)))))))]] : List va_W)) H := hP
        have hD : va_D A (List.flatten ([(oX3 (p0a 0) p0a p0k p0n (upw w9 17 (nn ((((p0w 0 9) - 1) * (w9 0 17)) + (((p0_6_1w 5) 5) (nn (p0w 12 (nn ((p0w 0 9) - 1))))))) (w9 16 (nn ((((p0w 0 9) - 1) * 320) + (((p0_6_1w 5) 4) (nn (p0w 12 (nn ((p0w 0 9) - 1)))))))))), (oX0 (p0a 7) p0_6a p0_6k p0_6n p0_6w), (oX9 (p0_6_1a 0 0) (p0_6_1a 0) (p0_6_1k 0) (p0_6_1n 0) (p0_6_1w 0)), (oX9 (p0_6_1a 1 0) (p0_6_1a 1) (p0_6_1k 1) (p0_6_1n 1) (p0_6_1w 1)), (oX9 (p0_6_1a 2 0) (p0_6_1a 2) (p0_6_1k 2) (p0_6_1n 2) (p0_6_1w 2)), (oX9 (p0_6_1a 3 0) (p0_6_1a 3) (p0_6_1k 3) (p0_6_1n 3) (p0_6_1w 3)), (oX9 (p0_6_1a 4 0) (p0_6_1a 4) (p0_6_1k 4) (p0_6_1n 4) (p0_6_1w 4)), (oX9 (p0_6_1a 5 0) (p0_6_1a 5) (p0_6_1k 5) (p0_6_1n 5) (p0_6_1w 5)), (oX6 (p0a 5) p0_4a p0_4k p0_4w p0_4l), [((p0_6a 2), .inl (p0_6_1c, 6, .inr (.inr (.inr (.inr (fun i => some (p0_6_1a i 0)))))))]] : List va_W)) := hD
        obtain ⟨w47, ew47, hrun⟩ := let9 hrun
        rw [← ew47] at hP hD
        refine lv_goto (tgt := 353) hx hb dX3_moveInCode_343 (by decide) ?_
        exact J353 w47 _ _ _ hrun hP hD hK hS (lv_sub hl [] rfl)
      rcases br9 hrun with ⟨hc48, hrun⟩ | ⟨hc48, hrun⟩
      · refine lv_tableIn (off := 83) (tgt := 151) hx hb dX3_moveInCode_68 (by rw [hc48]; decide) (by rw [hc48]; decide) (by rw [hc48]; rfl) (by decide) ?_
        refine lv_aload_n hx hb dX3_moveInCode_151 rfl (lv_at hl 5 rfl) ?_
        refine va_get (D := (dC, dI)) (ci := 10) (v := .ref (p0a 16)) (C := RX3) (T := TX3) (N := 20) hx hb hts i_X3 hown hK hP 0 rfl rfl 15 (by decide) (hts _ qw906) (fun _ h9 => h9) rfl dX3_moveInCode_152 ?_
        refine lv_iload hx hb dX3_moveInCode_155 (lv_at hl 1 rfl) ?_
        refine lv_iload hx hb dX3_moveInCode_157 (lv_at hl 0 rfl) ?_
        refine lv_iadd hx hb dX3_moveInCode_159 ?_
        obtain ⟨hq49, hrun⟩ := chk9 hrun
        refine va_iald hx hb hK hP 8 7 rfl rfl (ixb_in hq49) dX3_moveInCode_160 ?_
        rcases br9 hrun with ⟨hc50, hrun⟩ | ⟨hc50, hrun⟩
        · refine lv_if_ne (tgt := 353) hx hb dX3_moveInCode_161 (by decide) (fun c => absurd hc50 c) (fun _ => ?_)
          refine lv_aload_n hx hb dX3_moveInCode_164 rfl (lv_at hl 5 rfl) ?_
          refine va_get (D := (dC, dI)) (ci := 10) (v := .ref (p0a 12)) (C := RX3) (T := TX3) (N := 20) hx hb hts i_X3 hown hK hP 0 rfl rfl 11 (by decide) (hts _ qw915) (fun _ h9 => h9) rfl dX3_moveInCode_165 ?_
          refine lv_iload_n hx hb dX3_moveInCode_168 rfl (lv_at hl 4 rfl) ?_
          refine lv_aload_n hx hb dX3_moveInCode_169 rfl (lv_at hl 3 rfl) ?_
          refine va_get (D := (dC, dI)) (ci := 3) (v := .ref ((p0_6_1a 5) 5)) (C := RX9) (T := TX9) (N := 6) hx hb hts i_X9 hown hK hP 50 rfl rfl 4 (by decide) (hts _ qw967) (fun _ h9 => h9) rfl dX3_moveInCode_170 ?_
          refine lv_iload_n hx hb dX3_moveInCode_173 rfl (lv_at hl 2 rfl) ?_
          obtain ⟨hq51, hrun⟩ := chk9 hrun
          refine va_iald hx hb hK hP 54 46 rfl rfl (ixb_in hq51) dX3_moveInCode_174 ?_
          obtain ⟨hq52, hrun⟩ := chk9 hrun
          refine va_iast hx hb hK hP hD hS 4 3 rfl rfl (ixb_in hq52) dX3_moveInCode_175 (fun H locs hP hD hS => ?_)
          have hP : va_P (dC, dI) cls (List.flatten ([(oX3 (p0a 0) p0a p0k p0n (upw w9 12 (nn ((p0w 0 9) - 1)) (((p0_6_1w 5) 5) (nn (p0w 12 (nn ((p0w 0 9) - 1))))))), (oX0 (p0a 7) p0_6a p0_6k p0_6n p0_6w), (oX9 (p0_6_1a 0 0) (p0_6_1a 0) (p0_6_1k 0) (p0_6_1n 0) (p0_6_1w 0)), (oX9 (p0_6_1a 1 0) (p0_6_1a 1) (p0_6_1k 1) (p0_6_1n 1) (p0_6_1w 1)), (oX9 (p0_6_1a 2 0) (p0_6_1a 2) (p0_6_1k 2) (p0_6_1n 2) (p0_6_1w 2)), (oX9 (p0_6_1a 3 0) (p0_6_1a 3) (p0_6_1k 3) (p0_6_1n 3) (p0_6_1w 3)), (oX9 (p0_6_1a 4 0) (p0_6_1a 4) (p0_6_1k 4) (p0_6_1n 4) (p0_6_1w 4)), (oX9 (p0_6_1a 5 0) (p0_6_1a 5) (p0_6_1k 5) (p0_6_1n 5) (p0_6_1w 5)), (oX6 (p0a 5) p0_4a p0_4k p0_4w p0_4l), [((p0_6a 2), .inl (p0_6_1c, 6, .inr (.inr (.inr (.inr (fun i => some (p0_6_1a i 0)))))))]] : List va_W)) H := hP
          have hD : va_D A (List.flatten ([(oX3 (p0a 0) p0a p0k p0n (upw w9 12 (nn ((p0w 0 9) - 1)) (((p0_6_1w 5) 5) (nn (p0w 12 (nn ((p0w 0 9) - 1))))))), (oX0 (p0a 7) p0_6a p0_6k p0_6n p0_6w), (oX9 (p0_6_1a 0 0) (p0_6_1a 0) (p0_6_1k 0) (p0_6_1n 0) (p0_6_1w 0)), (oX9 (p0_6_1a 1 0) (p0_6_1a 1) (p0_6_1k 1) (p0_6_1n 1) (p0_6_1w 1)), (oX9 (p0_6_1a 2 0) (p0_6_1a 2) (p0_6_1k 2) (p0_6_1n 2) (p0_6_1w 2)), (oX9 (p0_6_1a 3 0) (p0_6_1a 3) (p0_6_1k 3) (p0_6_1n 3) (p0_6_1w 3)), (oX9 (p0_6_1a 4 0) (p0_6_1a 4) (p0_6_1k 4) (p0_6_1n 4) (p0_6_1w 4)), (oX9 (p0_6_1a 5 0) (p0_6_1a 5) (p0_6_1k 5) (p0_6_1n 5) (p0_6_1w 5)), (oX6 (p0a 5) p0_4a p0_4k p0_4w p0_4l), [((p0_6a 2), .inl (p0_6_1c, 6, .inr (.inr (.inr (.inr (fun i => some (p0_6_1a i 0)))))))]] : List va_W)) := hD
          obtain ⟨w53, ew53, hrun⟩ := let9 hrun
          rw [← ew53] at hP hD
          refine lv_goto (tgt := 353) hx hb dX3_moveInCode_176 (by decide) ?_
          exact J353 w53 _ _ _ hrun hP hD hK hS (lv_sub hl [] rfl)
        · refine lv_if_ne (tgt := 353) hx hb dX3_moveInCode_161 (by decide) (fun _ => ?_) (fun c => absurd c hc50)
          exact J353 w9 _ _ _ hrun hP hD hK hS (lv_sub hl [] rfl)
      refine lv_tableOut (tgt := 346) hx hb dX3_moveInCode_68 (show Int32.toInt (((p0_6_1w 5) 2) (nn (p0w 12 (nn ((p0w 0 9) - 1))))) < 22 ∨ (28 : Int) < Int32.toInt (((p0_6_1w 5) 2) (nn (p0w 12 (nn ((p0w 0 9) - 1))))) from by have g0 := lv_neT hc12 (show Int32.toInt 22 = 22 by decide); have g1 := lv_neT hc15 (show Int32.toInt 23 = 23 by decide); have g2 := lv_neT hc21 (show Int32.toInt 24 = 24 by decide); have g3 := lv_neT hc33 (show Int32.toInt 25 = 25 by decide); have g4 := lv_neT hc38 (show Int32.toInt 26 = 26 by decide); have g5 := lv_neT hc43 (show Int32.toInt 27 = 27 by decide); have g6 := lv_neT hc48 (show Int32.toInt 28 = 28 by decide); omega) (by decide) ?_
      refine lv_aload_n hx hb dX3_moveInCode_346 rfl (lv_at hl 5 rfl) ?_
      refine lv_aload_n hx hb dX3_moveInCode_347 rfl (lv_at hl 3 rfl) ?_
      refine lv_iload_n hx hb dX3_moveInCode_348 rfl (lv_at hl 4 rfl) ?_
      refine lv_iload_n hx hb dX3_moveInCode_349 rfl (lv_at hl 2 rfl) ?_
      obtain ⟨o_54, hc_54, hrun⟩ := bnd9 hrun
      have hPx : va_P (dC, dI) cls ((List.flatten ([(oX3 (p0a 0) p0a p0k p0n w9), (oX9 (p0_6_1a 5 0) (p0_6_1a 5) (p0_6_1k 5) (p0_6_1n 5) (p0_6_1w 5)), (oX6 (p0a 5) p0_4a p0_4k p0_4w p0_4l)] : List va_W)) ++ (List.flatten ([(oX0 (p0a 7) p0_6a p0_6k p0_6n p0_6w), (oX9 (p0_6_1a 0 0) (p0_6_1a 0) (p0_6_1k 0) (p0_6_1n 0) (p0_6_1w 0)), (oX9 (p0_6_1a 1 0) (p0_6_1a 1) (p0_6_1k 1) (p0_6_1n 1) (p0_6_1w 1)), (oX9 (p0_6_1a 2 0) (p0_6_1a 2) (p0_6_1k 2) (p0_6_1n 2) (p0_6_1w 2)), (oX9 (p0_6_1a 3 0) (p0_6_1a 3) (p0_6_1k 3) (p0_6_1n 3) (p0_6_1w 3)), (oX9 (p0_6_1a 4 0) (p0_6_1a 4) (p0_6_1k 4) (p0_6_1n 4) (p0_6_1w 4)), [((p0_6a 2), .inl (p0_6_1c, 6, .inr (.inr (.inr (.inr (fun i => some (p0_6_1a i 0)))))))]] : List va_W))) H := vP_fa (vP_perm hP (bP (((List.Perm.refl _)).trans (((((((((((((((((((((((List.Perm.refl _)).cons _).trans (List.Perm.swap _ _ _))).cons _).trans (List.Perm.swap _ _ _))).cons _).trans (List.Perm.swap _ _ _))).cons _).trans (List.Perm.swap _ _ _))).cons _).trans (List.Perm.swap _ _ _))).cons _).trans (List.Perm.swap _ _ _))).trans (((((((((((((((((((((List.Perm.refl _)).cons _).trans (List.Perm.swap _ _ _))).cons _).trans (List.Perm.swap _ _ _))).cons _).trans (List.Perm.swap _ _ _))).cons _).trans (List.Perm.swap _ _ _))).cons _).trans (List.Perm.swap _ _ _))).cons _).trans (List.Perm.swap _ _ _))).cons _))).cons _))))
      have hDx : va_D A ((List.flatten ([(oX3 (p0a 0) p0a p0k p0n w9), (oX9 (p0_6_1a 5 0) (p0_6_1a 5) (p0_6_1k 5) (p0_6_1n 5) (p0_6_1w 5)), (oX6 (p0a 5) p0_4a p0_4k p0_4w p0_4l)] : List va_W)) ++ (List.flatten ([(oX0 (p0a 7) p0_6a p0_6k p0_6n p0_6w), (oX9 (p0_6_1a 0 0) (p0_6_1a 0) (p0_6_1k 0) (p0_6_1n 0) (p0_6_1w 0)), (oX9 (p0_6_1a 1 0) (p0_6_1a 1) (p0_6_1k 1) (p0_6_1n 1) (p0_6_1w 1)), (oX9 (p0_6_1a 2 0) (p0_6_1a 2) (p0_6_1k 2) (p0_6_1n 2) (p0_6_1w 2)), (oX9 (p0_6_1a 3 0) (p0_6_1a 3) (p0_6_1k 3) (p0_6_1n 3) (p0_6_1w 3)), (oX9 (p0_6_1a 4 0) (p0_6_1a 4) (p0_6_1k 4) (p0_6_1n 4) (p0_6_1w 4)), [((p0_6a 2), .inl (p0_6_1c, 6, .inr (.inr (.inr (.inr (fun i => some (p0_6_1a i 0)))))))]] : List va_W))) := vD_fa (vD_perm hD (bP (((List.Perm.refl _)).trans (((((((((((((((((((((((List.Perm.refl _)).cons _).trans (List.Perm.swap _ _ _))).cons _).trans (List.Perm.swap _ _ _))).cons _).trans (List.Perm.swap _ _ _))).cons _).trans (List.Perm.swap _ _ _))).cons _).trans (List.Perm.swap _ _ _))).cons _).trans (List.Perm.swap _ _ _))).trans (((((((((((((((((((((List.Perm.refl _)).cons _).trans (List.Perm.swap _ _ _))).cons _).trans (List.Perm.swap _ _ _))).cons _).trans (List.Perm.swap _ _ _))).cons _).trans (List.Perm.swap _ _ _))).cons _).trans (List.Perm.swap _ _ _))).cons _).trans (List.Perm.swap _ _ _))).cons _))).cons _))))
      have hKx : va_K (dC, dI) cls ((List.flatten ([(tX3 p0k), (tX9 (p0_6_1k 5)), (tX6 p0_4k)] : List (List (ClassId × FieldType)))) ++ (List.flatten ([(tX0 p0_6k), (tX9 (p0_6_1k 0)), (tX9 (p0_6_1k 1)), (tX9 (p0_6_1k 2)), (tX9 (p0_6_1k 3)), (tX9 (p0_6_1k 4)), [(p0_6_1c, .object RX9)]] : List (List (ClassId × FieldType))))) s := vK_fa (vK_perm hK (bP (((List.Perm.refl _)).trans (((((((((((((((((((((((List.Perm.refl _)).cons _).trans (List.Perm.swap _ _ _))).cons _).trans (List.Perm.swap _ _ _))).cons _).trans (List.Perm.swap _ _ _))).cons _).trans (List.Perm.swap _ _ _))).cons _).trans (List.Perm.swap _ _ _))).cons _).trans (List.Perm.swap _ _ _))).trans (((((((((((((((((((((List.Perm.refl _)).cons _).trans (List.Perm.swap _ _ _))).cons _).trans (List.Perm.swap _ _ _))).cons _).trans (List.Perm.swap _ _ _))).cons _).trans (List.Perm.swap _ _ _))).cons _).trans (List.Perm.swap _ _ _))).cons _).trans (List.Perm.swap _ _ _))).cons _))).cons _))))
      have hPc := vP_l hPx
      have hDc := vD_l hDx
      have hKc := vK_l hKx
      have hFc := vfree hDx hS hA
      refine va_callv (va_runV (As := [.ref (p0_6_1a 5 0), .int ((p0w 0 9) - 1), .int (p0w 12 (nn ((p0w 0 9) - 1)))]) (rest := []) ⟨hx, hb, hml, hown, hts⟩ (kX3_moveLine l dC dI (p0a := p0a) (p0k := p0k) (p0n := p0n) (p0w := w9) (p1a := (st0 (p0_6_1a 5 0) (p0_6_1a 5))) (p1k := (p0_6_1k 5)) (p1n := (p0_6_1n 5)) (p1w := (p0_6_1w 5)) (p2 := ((p0w 0 9) - 1)) (p3 := (p0w 12 (nn ((p0w 0 9) - 1)))) (p0_4a := p0_4a) (p0_4k := p0_4k) (p0_4w := p0_4w) (p0_4l := p0_4l) (sz := _) (o := o_54) (hrun := hc_54)) (cwV 3 hts (gi_V qw990 qw991 qw992 qw903 (gi_z qw989)) rfl rfl rfl (by decide +kernel) ⟨Nat.le_of_ble_eq_true rfl, Nat.le_of_ble_eq_true rfl⟩) ⟨PRE.blind, va_recv hKc hPc (ci := 10) (q0 := 0) rfl rfl, PRE.of hE hS hFc hPc hKc hDc⟩ rfl rfl hl.1 rfl (lv_room (Nat.le_of_ble_eq_true rfl)) dX3_moveInCode_350 ⟨(Nat.le_of_ble_eq_true rfl), (Nat.le_of_ble_eq_true rfl)⟩) hS (fun q _ h => hFc q h) hFc (fun u t H locs ht hvm hw hB hz1 hk1 hS => ?_)
      obtain ⟨b1, b2, b3⟩ := hB
      rw [ht] at b1
      obtain ⟨hP, hD, hK⟩ := JOINC (wc := (List.flatten ([(oX3 (p0a 0) p0a p0k p0n w9), (oX9 (p0_6_1a 5 0) (p0_6_1a 5) (p0_6_1k 5) (p0_6_1n 5) (p0_6_1w 5)), (oX6 (p0a 5) p0_4a p0_4k p0_4w p0_4l)] : List va_W))) (wr := (List.flatten ([(oX0 (p0a 7) p0_6a p0_6k p0_6n p0_6w), (oX9 (p0_6_1a 0 0) (p0_6_1a 0) (p0_6_1k 0) (p0_6_1n 0) (p0_6_1w 0)), (oX9 (p0_6_1a 1 0) (p0_6_1a 1) (p0_6_1k 1) (p0_6_1n 1) (p0_6_1w 1)), (oX9 (p0_6_1a 2 0) (p0_6_1a 2) (p0_6_1k 2) (p0_6_1n 2) (p0_6_1w 2)), (oX9 (p0_6_1a 3 0) (p0_6_1a 3) (p0_6_1k 3) (p0_6_1n 3) (p0_6_1w 3)), (oX9 (p0_6_1a 4 0) (p0_6_1a 4) (p0_6_1k 4) (p0_6_1n 4) (p0_6_1w 4)), [((p0_6a 2), .inl (p0_6_1c, 6, .inr (.inr (.inr (.inr (fun i => some (p0_6_1a i 0)))))))]] : List va_W))) (w1 := (List.flatten ([(oX3 (p0a 0) p0a p0k p0n o_54), (oX9 (p0_6_1a 5 0) (p0_6_1a 5) (p0_6_1k 5) (p0_6_1n 5) (p0_6_1w 5)), (oX6 (p0a 5) p0_4a p0_4k p0_4w p0_4l)] : List va_W))) (t1 := (List.flatten ([(tX3 p0k), (tX9 (p0_6_1k 5)), (tX6 p0_4k)] : List (List (ClassId × FieldType))))) hPx hDx hKx hk1 hFc b1 (va_K.moved hvm.symm b2) b3
      have hP : va_P (dC, dI) cls (List.flatten ([(oX3 (p0a 0) p0a p0k p0n o_54), (oX0 (p0a 7) p0_6a p0_6k p0_6n p0_6w), (oX9 (p0_6_1a 0 0) (p0_6_1a 0) (p0_6_1k 0) (p0_6_1n 0) (p0_6_1w 0)), (oX9 (p0_6_1a 1 0) (p0_6_1a 1) (p0_6_1k 1) (p0_6_1n 1) (p0_6_1w 1)), (oX9 (p0_6_1a 2 0) (p0_6_1a 2) (p0_6_1k 2) (p0_6_1n 2) (p0_6_1w 2)), (oX9 (p0_6_1a 3 0) (p0_6_1a 3) (p0_6_1k 3) (p0_6_1n 3) (p0_6_1w 3)), (oX9 (p0_6_1a 4 0) (p0_6_1a 4) (p0_6_1k 4) (p0_6_1n 4) (p0_6_1w 4)), (oX9 (p0_6_1a 5 0) (p0_6_1a 5) (p0_6_1k 5) (p0_6_1n 5) (p0_6_1w 5)), (oX6 (p0a 5) p0_4a p0_4k p0_4w p0_4l), [((p0_6a 2), .inl (p0_6_1c, 6, .inr (.inr (.inr (.inr (fun i => some (p0_6_1a i 0)))))))]] : List va_W)) H := vP_perm (vP_fb hP) (bP (((List.Perm.refl _)).trans (((((((((((List.Perm.refl _)).cons _).trans (List.Perm.swap _ _ _))).cons _).trans (List.Perm.swap _ _ _))).trans (((((((((((List.Perm.refl _)).cons _).trans (List.Perm.swap _ _ _))).cons _).trans (List.Perm.swap _ _ _))).trans (((((((((((List.Perm.refl _)).cons _).trans (List.Perm.swap _ _ _))).cons _).trans (List.Perm.swap _ _ _))).trans (((((((((((List.Perm.refl _)).cons _).trans (List.Perm.swap _ _ _))).cons _).trans (List.Perm.swap _ _ _))).trans (((((((((((List.Perm.refl _)).cons _).trans (List.Perm.swap _ _ _))).cons _).trans (List.Perm.swap _ _ _))).trans (((((((((List.Perm.refl _)).cons _).trans (List.Perm.swap _ _ _))).cons _).trans (List.Perm.swap _ _ _))).cons _))).cons _))).cons _))).cons _))).cons _))).cons _)))
      have hD : va_D A (List.flatten ([(oX3 (p0a 0) p0a p0k p0n o_54), (oX0 (p0a 7) p0_6a p0_6k p0_6n p0_6w), (oX9 (p0_6_1a 0 0) (p0_6_1a 0) (p0_6_1k 0) (p0_6_1n 0) (p0_6_1w 0)), (oX9 (p0_6_1a 1 0) (p0_6_1a 1) (p0_6_1k 1) (p0_6_1n 1) (p0_6_1w 1)), (oX9 (p0_6_1a 2 0) (p0_6_1a 2) (p0_6_1k 2) (p0_6_1n 2) (p0_6_1w 2)), (oX9 (p0_6_1a 3 0) (p0_6_1a 3) (p0_6_1k 3) (p0_6_1n 3) (p0_6_1w 3)), (oX9 (p0_6_1a 4 0) (p0_6_1a 4) (p0_6_1k 4) (p0_6_1n 4) (p0_6_1w 4)), (oX9 (p0_6_1a 5 0) (p0_6_1a 5) (p0_6_1k 5) (p0_6_1n 5) (p0_6_1w 5)), (oX6 (p0a 5) p0_4a p0_4k p0_4w p0_4l), [((p0_6a 2), .inl (p0_6_1c, 6, .inr (.inr (.inr (.inr (fun i => some (p0_6_1a i 0)))))))]] : List va_W)) := vD_perm (vD_fb hD) (bP (((List.Perm.refl _)).trans (((((((((((List.Perm.refl _)).cons _).trans (List.Perm.swap _ _ _))).cons _).trans (List.Perm.swap _ _ _))).trans (((((((((((List.Perm.refl _)).cons _).trans (List.Perm.swap _ _ _))).cons _).trans (List.Perm.swap _ _ _))).trans (((((((((((List.Perm.refl _)).cons _).trans (List.Perm.swap _ _ _))).cons _).trans (List.Perm.swap _ _ _))).trans (((((((((((List.Perm.refl _)).cons _).trans (List.Perm.swap _ _ _))).cons _).trans (List.Perm.swap _ _ _))).trans (((((((((((List.Perm.refl _)).cons _).trans (List.Perm.swap _ _ _))).cons _).trans (List.Perm.swap _ _ _))).trans (((((((((List.Perm.refl _)).cons _).trans (List.Perm.swap _ _ _))).cons _).trans (List.Perm.swap _ _ _))).cons _))).cons _))).cons _))).cons _))).cons _))).cons _)))
      have hK : va_K (dC, dI) cls (List.flatten ([(tX3 p0k), (tX0 p0_6k), (tX9 (p0_6_1k 0)), (tX9 (p0_6_1k 1)), (tX9 (p0_6_1k 2)), (tX9 (p0_6_1k 3)), (tX9 (p0_6_1k 4)), (tX9 (p0_6_1k 5)), (tX6 p0_4k), [(p0_6_1c, .object RX9)]] : List (List (ClassId × FieldType)))) s := vK_perm (vK_fb hK) (bP (((List.Perm.refl _)).trans (((((((((((List.Perm.refl _)).cons _).trans (List.Perm.swap _ _ _))).cons _).trans (List.Perm.swap _ _ _))).trans (((((((((((List.Perm.refl _)).cons _).trans (List.Perm.swap _ _ _))).cons _).trans (List.Perm.swap _ _ _))).trans (((((((((((List.Perm.refl _)).cons _).trans (List.Perm.swap _ _ _))).cons _).trans (List.Perm.swap _ _ _))).trans (((((((((((List.Perm.refl _)).cons _).trans (List.Perm.swap _ _ _))).cons _).trans (List.Perm.swap _ _ _))).trans (((((((((((List.Perm.refl _)).cons _).trans (List.Perm.swap _ _ _))).cons _).trans (List.Perm.swap _ _ _))).trans (((((((((List.Perm.refl _)).cons _).trans (List.Perm.swap _ _ _))).cons _).trans (List.Perm.swap _ _ _))).cons _))).cons _))).cons _))).cons _))).cons _))).cons _)))
      exact J353 o_54 _ _ _ hrun hP hD hK hS (lv_sub hl [] rfl)
