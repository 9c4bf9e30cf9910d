def RLW : String := "GearboxLaw"
abbrev cL_below : ByteArray := method_2_code
def yL_below : MethodName := ⟨RLW, "below", "(II)I"⟩
abbrev cL_cell : ByteArray := method_3_code
def yL_cell : MethodName := ⟨RLW, "cell", "([II)I"⟩
abbrev cL_four : ByteArray := method_5_code
def yL_four : MethodName := ⟨RLW, "four", "(Ljava/lang/String;I)I"⟩
abbrev cL_write : ByteArray := method_4_code
def yL_write : MethodName := ⟨RLW, "write", "(LGearbox;Ljava/lang/String;)V"⟩
abbrev cL_isCodeRight : ByteArray := method_6_code
def yL_isCodeRight : MethodName := ⟨RLW, "isCodeRight", "(LGearbox;II)Z"⟩
abbrev cX13_draw : ByteArray := prog_15_method_2_code
def yX13_draw : MethodName := ⟨RX13, "draw", "(I)I"⟩
theorem dL_below_0 : decode cL_below 0 = .ok (.iload_n 0, 1) := by decide +kernel
theorem dL_below_1 : decode cL_below 1 = .ok (.ldc 7, 2) := by decide +kernel
theorem dL_below_3 : decode cL_below 3 = .ok (.iand, 1) := by decide +kernel
theorem dL_below_4 : decode cL_below 4 = .ok (.iload_n 1, 1) := by decide +kernel
theorem dL_below_5 : decode cL_below 5 = .ok (.irem, 1) := by decide +kernel
theorem dL_below_6 : decode cL_below 6 = .ok (.ireturn, 1) := by decide +kernel
theorem dL_cell_0 : decode cL_cell 0 = .ok (.iload_n 1, 1) := by decide +kernel
theorem dL_cell_1 : decode cL_cell 1 = .ok (.aload_n 0, 1) := by decide +kernel
theorem dL_cell_2 : decode cL_cell 2 = .ok (.arraylength, 1) := by decide +kernel
theorem dL_cell_3 : decode cL_cell 3 = .ok (.if_icmp .ge 9, 3) := by decide +kernel
theorem dL_cell_6 : decode cL_cell 6 = .ok (.aload_n 0, 1) := by decide +kernel
theorem dL_cell_7 : decode cL_cell 7 = .ok (.iload_n 1, 1) := by decide +kernel
theorem dL_cell_8 : decode cL_cell 8 = .ok (.iaload, 1) := by decide +kernel
theorem dL_cell_9 : decode cL_cell 9 = .ok (.goto 9, 3) := by decide +kernel
theorem dL_cell_12 : decode cL_cell 12 = .ok (.ldc 8, 2) := by decide +kernel
theorem dL_cell_14 : decode cL_cell 14 = .ok (.iload_n 1, 1) := by decide +kernel
theorem dL_cell_15 : decode cL_cell 15 = .ok (.iconst 3, 1) := by decide +kernel
theorem dL_cell_16 : decode cL_cell 16 = .ok (.iadd, 1) := by decide +kernel
theorem dL_cell_17 : decode cL_cell 17 = .ok (.imul, 1) := by decide +kernel
theorem dL_cell_18 : decode cL_cell 18 = .ok (.ireturn, 1) := by decide +kernel
theorem dL_four_0 : decode cL_four 0 = .ok (.iconst 0, 1) := by decide +kernel
theorem dL_four_1 : decode cL_four 1 = .ok (.istore_n 2, 1) := by decide +kernel
theorem dL_four_2 : decode cL_four 2 = .ok (.iload_n 1, 1) := by decide +kernel
theorem dL_four_3 : decode cL_four 3 = .ok (.istore_n 3, 1) := by decide +kernel
theorem dL_four_4 : decode cL_four 4 = .ok (.iload_n 3, 1) := by decide +kernel
theorem dL_four_5 : decode cL_four 5 = .ok (.iload_n 1, 1) := by decide +kernel
theorem dL_four_6 : decode cL_four 6 = .ok (.iconst 4, 1) := by decide +kernel
theorem dL_four_7 : decode cL_four 7 = .ok (.iadd, 1) := by decide +kernel
theorem dL_four_8 : decode cL_four 8 = .ok (.if_icmp .ge 33, 3) := by decide +kernel
theorem dL_four_11 : decode cL_four 11 = .ok (.iload_n 2, 1) := by decide +kernel
theorem dL_four_12 : decode cL_four 12 = .ok (.bipush 8, 2) := by decide +kernel
theorem dL_four_14 : decode cL_four 14 = .ok (.ishl, 1) := by decide +kernel
theorem dL_four_15 : decode cL_four 15 = .ok (.iload_n 3, 1) := by decide +kernel
theorem dL_four_16 : decode cL_four 16 = .ok (.aload_n 0, 1) := by decide +kernel
theorem dL_four_17 : decode cL_four 17 = .ok (.invokevirtual 9, 3) := by decide +kernel
theorem dL_four_20 : decode cL_four 20 = .ok (.if_icmp .ge 11, 3) := by decide +kernel
theorem dL_four_23 : decode cL_four 23 = .ok (.aload_n 0, 1) := by decide +kernel
theorem dL_four_24 : decode cL_four 24 = .ok (.iload_n 3, 1) := by decide +kernel
theorem dL_four_25 : decode cL_four 25 = .ok (.invokevirtual 27, 3) := by decide +kernel
theorem dL_four_28 : decode cL_four 28 = .ok (.goto 5, 3) := by decide +kernel
theorem dL_four_31 : decode cL_four 31 = .ok (.bipush 32, 2) := by decide +kernel
theorem dL_four_33 : decode cL_four 33 = .ok (.ior, 1) := by decide +kernel
theorem dL_four_34 : decode cL_four 34 = .ok (.istore_n 2, 1) := by decide +kernel
theorem dL_four_35 : decode cL_four 35 = .ok (.iinc 3 1, 3) := by decide +kernel
theorem dL_four_38 : decode cL_four 38 = .ok (.goto (-34), 3) := by decide +kernel
theorem dL_four_41 : decode cL_four 41 = .ok (.iload_n 2, 1) := by decide +kernel
theorem dL_four_42 : decode cL_four 42 = .ok (.ireturn, 1) := by decide +kernel
theorem dL_isCodeRight_0 : decode cL_isCodeRight 0 = .ok (.aload_n 0, 1) := by decide +kernel
theorem dL_isCodeRight_1 : decode cL_isCodeRight 1 = .ok (.iload_n 1, 1) := by decide +kernel
theorem dL_isCodeRight_2 : decode cL_isCodeRight 2 = .ok (.invokevirtual 31, 3) := by decide +kernel
theorem dL_isCodeRight_5 : decode cL_isCodeRight 5 = .ok (.istore_n 3, 1) := by decide +kernel
theorem dL_isCodeRight_6 : decode cL_isCodeRight 6 = .ok (.iconst 0, 1) := by decide +kernel
theorem dL_isCodeRight_7 : decode cL_isCodeRight 7 = .ok (.istore 4, 2) := by decide +kernel
theorem dL_isCodeRight_9 : decode cL_isCodeRight 9 = .ok (.iload 4, 2) := by decide +kernel
theorem dL_isCodeRight_11 : decode cL_isCodeRight 11 = .ok (.iload_n 3, 1) := by decide +kernel
theorem dL_isCodeRight_12 : decode cL_isCodeRight 12 = .ok (.if_icmp .ge 347, 3) := by decide +kernel
theorem dL_isCodeRight_15 : decode cL_isCodeRight 15 = .ok (.aload_n 0, 1) := by decide +kernel
theorem dL_isCodeRight_16 : decode cL_isCodeRight 16 = .ok (.iload_n 1, 1) := by decide +kernel
theorem dL_isCodeRight_17 : decode cL_isCodeRight 17 = .ok (.iload 4, 2) := by decide +kernel
theorem dL_isCodeRight_19 : decode cL_isCodeRight 19 = .ok (.invokevirtual 35, 3) := by decide +kernel
theorem dL_isCodeRight_22 : decode cL_isCodeRight 22 = .ok (.istore 5, 2) := by decide +kernel
theorem dL_isCodeRight_24 : decode cL_isCodeRight 24 = .ok (.aload_n 0, 1) := by decide +kernel
theorem dL_isCodeRight_25 : decode cL_isCodeRight 25 = .ok (.iload_n 1, 1) := by decide +kernel
theorem dL_isCodeRight_26 : decode cL_isCodeRight 26 = .ok (.iload 4, 2) := by decide +kernel
theorem dL_isCodeRight_28 : decode cL_isCodeRight 28 = .ok (.invokevirtual 39, 3) := by decide +kernel
theorem dL_isCodeRight_31 : decode cL_isCodeRight 31 = .ok (.istore 6, 2) := by decide +kernel
theorem dL_isCodeRight_33 : decode cL_isCodeRight 33 = .ok (.aload_n 0, 1) := by decide +kernel
theorem dL_isCodeRight_34 : decode cL_isCodeRight 34 = .ok (.iload_n 1, 1) := by decide +kernel
theorem dL_isCodeRight_35 : decode cL_isCodeRight 35 = .ok (.iload 4, 2) := by decide +kernel
theorem dL_isCodeRight_37 : decode cL_isCodeRight 37 = .ok (.invokevirtual 42, 3) := by decide +kernel
theorem dL_isCodeRight_40 : decode cL_isCodeRight 40 = .ok (.istore 7, 2) := by decide +kernel
theorem dL_isCodeRight_42 : decode cL_isCodeRight 42 = .ok (.aload_n 0, 1) := by decide +kernel
theorem dL_isCodeRight_43 : decode cL_isCodeRight 43 = .ok (.iload_n 1, 1) := by decide +kernel
theorem dL_isCodeRight_44 : decode cL_isCodeRight 44 = .ok (.iload 4, 2) := by decide +kernel
theorem dL_isCodeRight_46 : decode cL_isCodeRight 46 = .ok (.invokevirtual 45, 3) := by decide +kernel
theorem dL_isCodeRight_49 : decode cL_isCodeRight 49 = .ok (.istore 8, 2) := by decide +kernel
theorem dL_isCodeRight_51 : decode cL_isCodeRight 51 = .ok (.iload 5, 2) := by decide +kernel
theorem dL_isCodeRight_53 : decode cL_isCodeRight 53 = .ok (.bipush 18, 2) := by decide +kernel
theorem dL_isCodeRight_55 : decode cL_isCodeRight 55 = .ok (.if_icmp .lt 31, 3) := by decide +kernel
theorem dL_isCodeRight_58 : decode cL_isCodeRight 58 = .ok (.iload 5, 2) := by decide +kernel
theorem dL_isCodeRight_60 : decode cL_isCodeRight 60 = .ok (.bipush 20, 2) := by decide +kernel
theorem dL_isCodeRight_62 : decode cL_isCodeRight 62 = .ok (.if_icmp .eq 24, 3) := by decide +kernel
theorem dL_isCodeRight_65 : decode cL_isCodeRight 65 = .ok (.iload 5, 2) := by decide +kernel
theorem dL_isCodeRight_67 : decode cL_isCodeRight 67 = .ok (.bipush 21, 2) := by decide +kernel
theorem dL_isCodeRight_69 : decode cL_isCodeRight 69 = .ok (.if_icmp .eq 17, 3) := by decide +kernel
theorem dL_isCodeRight_72 : decode cL_isCodeRight 72 = .ok (.iload 5, 2) := by decide +kernel
theorem dL_isCodeRight_74 : decode cL_isCodeRight 74 = .ok (.bipush 25, 2) := by decide +kernel
theorem dL_isCodeRight_76 : decode cL_isCodeRight 76 = .ok (.if_icmp .eq 10, 3) := by decide +kernel
theorem dL_isCodeRight_79 : decode cL_isCodeRight 79 = .ok (.iload 5, 2) := by decide +kernel
theorem dL_isCodeRight_81 : decode cL_isCodeRight 81 = .ok (.bipush 26, 2) := by decide +kernel
theorem dL_isCodeRight_83 : decode cL_isCodeRight 83 = .ok (.if_icmp .ne 7, 3) := by decide +kernel
theorem dL_isCodeRight_86 : decode cL_isCodeRight 86 = .ok (.iconst 1, 1) := by decide +kernel
theorem dL_isCodeRight_87 : decode cL_isCodeRight 87 = .ok (.goto 4, 3) := by decide +kernel
theorem dL_isCodeRight_90 : decode cL_isCodeRight 90 = .ok (.iconst 0, 1) := by decide +kernel
theorem dL_isCodeRight_91 : decode cL_isCodeRight 91 = .ok (.istore 9, 2) := by decide +kernel
theorem dL_isCodeRight_93 : decode cL_isCodeRight 93 = .ok (.iload 5, 2) := by decide +kernel
theorem dL_isCodeRight_95 : decode cL_isCodeRight 95 = .ok (.ifCond .lt 31, 3) := by decide +kernel
theorem dL_isCodeRight_98 : decode cL_isCodeRight 98 = .ok (.iload 5, 2) := by decide +kernel
theorem dL_isCodeRight_100 : decode cL_isCodeRight 100 = .ok (.bipush 28, 2) := by decide +kernel
theorem dL_isCodeRight_102 : decode cL_isCodeRight 102 = .ok (.if_icmp .gt 24, 3) := by decide +kernel
theorem dL_isCodeRight_105 : decode cL_isCodeRight 105 = .ok (.iload 9, 2) := by decide +kernel
theorem dL_isCodeRight_107 : decode cL_isCodeRight 107 = .ok (.iload 6, 2) := by decide +kernel
theorem dL_isCodeRight_109 : decode cL_isCodeRight 109 = .ok (.ifCond .lt 7, 3) := by decide +kernel
theorem dL_isCodeRight_112 : decode cL_isCodeRight 112 = .ok (.iconst 1, 1) := by decide +kernel
theorem dL_isCodeRight_113 : decode cL_isCodeRight 113 = .ok (.goto 4, 3) := by decide +kernel
theorem dL_isCodeRight_116 : decode cL_isCodeRight 116 = .ok (.iconst 0, 1) := by decide +kernel
theorem dL_isCodeRight_117 : decode cL_isCodeRight 117 = .ok (.if_icmp .ne 9, 3) := by decide +kernel
theorem dL_isCodeRight_120 : decode cL_isCodeRight 120 = .ok (.iload 6, 2) := by decide +kernel
theorem dL_isCodeRight_122 : decode cL_isCodeRight 122 = .ok (.iload_n 2, 1) := by decide +kernel
theorem dL_isCodeRight_123 : decode cL_isCodeRight 123 = .ok (.if_icmp .lt 5, 3) := by decide +kernel
theorem dL_isCodeRight_126 : decode cL_isCodeRight 126 = .ok (.iconst 0, 1) := by decide +kernel
theorem dL_isCodeRight_127 : decode cL_isCodeRight 127 = .ok (.ireturn, 1) := by decide +kernel
theorem dL_isCodeRight_128 : decode cL_isCodeRight 128 = .ok (.iload 5, 2) := by decide +kernel
theorem dL_isCodeRight_130 : decode cL_isCodeRight 130 = .ok (.ifCond .le 10, 3) := by decide +kernel
theorem dL_isCodeRight_133 : decode cL_isCodeRight 133 = .ok (.iload 5, 2) := by decide +kernel
theorem dL_isCodeRight_135 : decode cL_isCodeRight 135 = .ok (.bipush 20, 2) := by decide +kernel
theorem dL_isCodeRight_137 : decode cL_isCodeRight 137 = .ok (.if_icmp .lt 38, 3) := by decide +kernel
theorem dL_isCodeRight_140 : decode cL_isCodeRight 140 = .ok (.iload 5, 2) := by decide +kernel
theorem dL_isCodeRight_142 : decode cL_isCodeRight 142 = .ok (.bipush 23, 2) := by decide +kernel
theorem dL_isCodeRight_144 : decode cL_isCodeRight 144 = .ok (.if_icmp .eq 31, 3) := by decide +kernel
theorem dL_isCodeRight_147 : decode cL_isCodeRight 147 = .ok (.iload 5, 2) := by decide +kernel
theorem dL_isCodeRight_149 : decode cL_isCodeRight 149 = .ok (.bipush 24, 2) := by decide +kernel
theorem dL_isCodeRight_151 : decode cL_isCodeRight 151 = .ok (.if_icmp .eq 24, 3) := by decide +kernel
theorem dL_isCodeRight_154 : decode cL_isCodeRight 154 = .ok (.iload 5, 2) := by decide +kernel
theorem dL_isCodeRight_156 : decode cL_isCodeRight 156 = .ok (.bipush 25, 2) := by decide +kernel
theorem dL_isCodeRight_158 : decode cL_isCodeRight 158 = .ok (.if_icmp .eq 17, 3) := by decide +kernel
theorem dL_isCodeRight_161 : decode cL_isCodeRight 161 = .ok (.iload 5, 2) := by decide +kernel
theorem dL_isCodeRight_163 : decode cL_isCodeRight 163 = .ok (.bipush 27, 2) := by decide +kernel
theorem dL_isCodeRight_165 : decode cL_isCodeRight 165 = .ok (.if_icmp .eq 10, 3) := by decide +kernel
theorem dL_isCodeRight_168 : decode cL_isCodeRight 168 = .ok (.iload 5, 2) := by decide +kernel
theorem dL_isCodeRight_170 : decode cL_isCodeRight 170 = .ok (.bipush 28, 2) := by decide +kernel
theorem dL_isCodeRight_172 : decode cL_isCodeRight 172 = .ok (.if_icmp .ne 7, 3) := by decide +kernel
theorem dL_isCodeRight_175 : decode cL_isCodeRight 175 = .ok (.iconst 1, 1) := by decide +kernel
theorem dL_isCodeRight_176 : decode cL_isCodeRight 176 = .ok (.goto 4, 3) := by decide +kernel
theorem dL_isCodeRight_179 : decode cL_isCodeRight 179 = .ok (.iconst 0, 1) := by decide +kernel
theorem dL_isCodeRight_180 : decode cL_isCodeRight 180 = .ok (.istore 10, 2) := by decide +kernel
theorem dL_isCodeRight_182 : decode cL_isCodeRight 182 = .ok (.iload 10, 2) := by decide +kernel
theorem dL_isCodeRight_184 : decode cL_isCodeRight 184 = .ok (.ifCond .eq 14, 3) := by decide +kernel
theorem dL_isCodeRight_187 : decode cL_isCodeRight 187 = .ok (.iload 7, 2) := by decide +kernel
theorem dL_isCodeRight_189 : decode cL_isCodeRight 189 = .ok (.ifCond .lt 53, 3) := by decide +kernel
theorem dL_isCodeRight_192 : decode cL_isCodeRight 192 = .ok (.iload 7, 2) := by decide +kernel
theorem dL_isCodeRight_194 : decode cL_isCodeRight 194 = .ok (.iload_n 2, 1) := by decide +kernel
theorem dL_isCodeRight_195 : decode cL_isCodeRight 195 = .ok (.if_icmp .ge 47, 3) := by decide +kernel
theorem dL_isCodeRight_198 : decode cL_isCodeRight 198 = .ok (.iload 5, 2) := by decide +kernel
theorem dL_isCodeRight_200 : decode cL_isCodeRight 200 = .ok (.bipush 26, 2) := by decide +kernel
theorem dL_isCodeRight_202 : decode cL_isCodeRight 202 = .ok (.if_icmp .ne 18, 3) := by decide +kernel
theorem dL_isCodeRight_205 : decode cL_isCodeRight 205 = .ok (.iload 7, 2) := by decide +kernel
theorem dL_isCodeRight_207 : decode cL_isCodeRight 207 = .ok (.ifCond .lt 35, 3) := by decide +kernel
theorem dL_isCodeRight_210 : decode cL_isCodeRight 210 = .ok (.iload 7, 2) := by decide +kernel
theorem dL_isCodeRight_212 : decode cL_isCodeRight 212 = .ok (.aload_n 0, 1) := by decide +kernel
theorem dL_isCodeRight_213 : decode cL_isCodeRight 213 = .ok (.iload_n 1, 1) := by decide +kernel
theorem dL_isCodeRight_214 : decode cL_isCodeRight 214 = .ok (.invokevirtual 48, 3) := by decide +kernel
theorem dL_isCodeRight_217 : decode cL_isCodeRight 217 = .ok (.if_icmp .ge 25, 3) := by decide +kernel
theorem dL_isCodeRight_220 : decode cL_isCodeRight 220 = .ok (.iload 5, 2) := by decide +kernel
theorem dL_isCodeRight_222 : decode cL_isCodeRight 222 = .ok (.bipush 27, 2) := by decide +kernel
theorem dL_isCodeRight_224 : decode cL_isCodeRight 224 = .ok (.if_icmp .ne 20, 3) := by decide +kernel
theorem dL_isCodeRight_227 : decode cL_isCodeRight 227 = .ok (.iload 8, 2) := by decide +kernel
theorem dL_isCodeRight_229 : decode cL_isCodeRight 229 = .ok (.ifCond .lt 13, 3) := by decide +kernel
theorem dL_isCodeRight_232 : decode cL_isCodeRight 232 = .ok (.iload 8, 2) := by decide +kernel
theorem dL_isCodeRight_234 : decode cL_isCodeRight 234 = .ok (.aload_n 0, 1) := by decide +kernel
theorem dL_isCodeRight_235 : decode cL_isCodeRight 235 = .ok (.iload_n 1, 1) := by decide +kernel
theorem dL_isCodeRight_236 : decode cL_isCodeRight 236 = .ok (.invokevirtual 48, 3) := by decide +kernel
theorem dL_isCodeRight_239 : decode cL_isCodeRight 239 = .ok (.if_icmp .lt 5, 3) := by decide +kernel
theorem dL_isCodeRight_242 : decode cL_isCodeRight 242 = .ok (.iconst 0, 1) := by decide +kernel
theorem dL_isCodeRight_243 : decode cL_isCodeRight 243 = .ok (.ireturn, 1) := by decide +kernel
theorem dL_isCodeRight_244 : decode cL_isCodeRight 244 = .ok (.iload 5, 2) := by decide +kernel
theorem dL_isCodeRight_246 : decode cL_isCodeRight 246 = .ok (.ifCond .le 10, 3) := by decide +kernel
theorem dL_isCodeRight_249 : decode cL_isCodeRight 249 = .ok (.iload 5, 2) := by decide +kernel
theorem dL_isCodeRight_251 : decode cL_isCodeRight 251 = .ok (.bipush 17, 2) := by decide +kernel
theorem dL_isCodeRight_253 : decode cL_isCodeRight 253 = .ok (.if_icmp .lt 10, 3) := by decide +kernel
theorem dL_isCodeRight_256 : decode cL_isCodeRight 256 = .ok (.iload 5, 2) := by decide +kernel
theorem dL_isCodeRight_258 : decode cL_isCodeRight 258 = .ok (.bipush 18, 2) := by decide +kernel
theorem dL_isCodeRight_260 : decode cL_isCodeRight 260 = .ok (.if_icmp .ne 16, 3) := by decide +kernel
theorem dL_isCodeRight_263 : decode cL_isCodeRight 263 = .ok (.iload 8, 2) := by decide +kernel
theorem dL_isCodeRight_265 : decode cL_isCodeRight 265 = .ok (.ifCond .lt 9, 3) := by decide +kernel
theorem dL_isCodeRight_268 : decode cL_isCodeRight 268 = .ok (.iload 8, 2) := by decide +kernel
theorem dL_isCodeRight_270 : decode cL_isCodeRight 270 = .ok (.iload_n 2, 1) := by decide +kernel
theorem dL_isCodeRight_271 : decode cL_isCodeRight 271 = .ok (.if_icmp .lt 5, 3) := by decide +kernel
theorem dL_isCodeRight_274 : decode cL_isCodeRight 274 = .ok (.iconst 0, 1) := by decide +kernel
theorem dL_isCodeRight_275 : decode cL_isCodeRight 275 = .ok (.ireturn, 1) := by decide +kernel
theorem dL_isCodeRight_276 : decode cL_isCodeRight 276 = .ok (.iload 5, 2) := by decide +kernel
theorem dL_isCodeRight_278 : decode cL_isCodeRight 278 = .ok (.bipush 22, 2) := by decide +kernel
theorem dL_isCodeRight_280 : decode cL_isCodeRight 280 = .ok (.if_icmp .ne 8, 3) := by decide +kernel
theorem dL_isCodeRight_283 : decode cL_isCodeRight 283 = .ok (.iload 7, 2) := by decide +kernel
theorem dL_isCodeRight_285 : decode cL_isCodeRight 285 = .ok (.goto 23, 3) := by decide +kernel
theorem dL_isCodeRight_288 : decode cL_isCodeRight 288 = .ok (.iload 5, 2) := by decide +kernel
theorem dL_isCodeRight_290 : decode cL_isCodeRight 290 = .ok (.bipush 23, 2) := by decide +kernel
theorem dL_isCodeRight_292 : decode cL_isCodeRight 292 = .ok (.if_icmp .eq 10, 3) := by decide +kernel
theorem dL_isCodeRight_295 : decode cL_isCodeRight 295 = .ok (.iload 5, 2) := by decide +kernel
theorem dL_isCodeRight_297 : decode cL_isCodeRight 297 = .ok (.bipush 28, 2) := by decide +kernel
theorem dL_isCodeRight_299 : decode cL_isCodeRight 299 = .ok (.if_icmp .ne 8, 3) := by decide +kernel
theorem dL_isCodeRight_302 : decode cL_isCodeRight 302 = .ok (.iload 8, 2) := by decide +kernel
theorem dL_isCodeRight_304 : decode cL_isCodeRight 304 = .ok (.goto 4, 3) := by decide +kernel
theorem dL_isCodeRight_307 : decode cL_isCodeRight 307 = .ok (.iconst 0, 1) := by decide +kernel
theorem dL_isCodeRight_308 : decode cL_isCodeRight 308 = .ok (.istore 11, 2) := by decide +kernel
theorem dL_isCodeRight_310 : decode cL_isCodeRight 310 = .ok (.iload 11, 2) := by decide +kernel
theorem dL_isCodeRight_312 : decode cL_isCodeRight 312 = .ok (.ifCond .lt 39, 3) := by decide +kernel
theorem dL_isCodeRight_315 : decode cL_isCodeRight 315 = .ok (.iload 11, 2) := by decide +kernel
theorem dL_isCodeRight_317 : decode cL_isCodeRight 317 = .ok (.iload_n 3, 1) := by decide +kernel
theorem dL_isCodeRight_318 : decode cL_isCodeRight 318 = .ok (.if_icmp .ge 33, 3) := by decide +kernel
theorem dL_isCodeRight_321 : decode cL_isCodeRight 321 = .ok (.iload 5, 2) := by decide +kernel
theorem dL_isCodeRight_323 : decode cL_isCodeRight 323 = .ok (.bipush 25, 2) := by decide +kernel
theorem dL_isCodeRight_325 : decode cL_isCodeRight 325 = .ok (.if_icmp .ne 10, 3) := by decide +kernel
theorem dL_isCodeRight_328 : decode cL_isCodeRight 328 = .ok (.iload 6, 2) := by decide +kernel
theorem dL_isCodeRight_330 : decode cL_isCodeRight 330 = .ok (.iload 7, 2) := by decide +kernel
theorem dL_isCodeRight_332 : decode cL_isCodeRight 332 = .ok (.if_icmp .eq 19, 3) := by decide +kernel
theorem dL_isCodeRight_335 : decode cL_isCodeRight 335 = .ok (.iload 5, 2) := by decide +kernel
theorem dL_isCodeRight_337 : decode cL_isCodeRight 337 = .ok (.bipush 20, 2) := by decide +kernel
theorem dL_isCodeRight_339 : decode cL_isCodeRight 339 = .ok (.if_icmp .ne 14, 3) := by decide +kernel
theorem dL_isCodeRight_342 : decode cL_isCodeRight 342 = .ok (.iload 7, 2) := by decide +kernel
theorem dL_isCodeRight_344 : decode cL_isCodeRight 344 = .ok (.aload_n 0, 1) := by decide +kernel
theorem dL_isCodeRight_345 : decode cL_isCodeRight 345 = .ok (.invokevirtual 51, 3) := by decide +kernel
theorem dL_isCodeRight_348 : decode cL_isCodeRight 348 = .ok (.if_icmp .lt 5, 3) := by decide +kernel
theorem dL_isCodeRight_351 : decode cL_isCodeRight 351 = .ok (.iconst 0, 1) := by decide +kernel
theorem dL_isCodeRight_352 : decode cL_isCodeRight 352 = .ok (.ireturn, 1) := by decide +kernel
theorem dL_isCodeRight_353 : decode cL_isCodeRight 353 = .ok (.iinc 4 1, 3) := by decide +kernel
theorem dL_isCodeRight_356 : decode cL_isCodeRight 356 = .ok (.goto (-347), 3) := by decide +kernel
theorem dL_isCodeRight_359 : decode cL_isCodeRight 359 = .ok (.iload_n 3, 1) := by decide +kernel
theorem dL_isCodeRight_360 : decode cL_isCodeRight 360 = .ok (.ifCond .eq 29, 3) := by decide +kernel
theorem dL_isCodeRight_363 : decode cL_isCodeRight 363 = .ok (.aload_n 0, 1) := by decide +kernel
theorem dL_isCodeRight_364 : decode cL_isCodeRight 364 = .ok (.iload_n 1, 1) := by decide +kernel
theorem dL_isCodeRight_365 : decode cL_isCodeRight 365 = .ok (.iload_n 3, 1) := by decide +kernel
theorem dL_isCodeRight_366 : decode cL_isCodeRight 366 = .ok (.iconst 1, 1) := by decide +kernel
theorem dL_isCodeRight_367 : decode cL_isCodeRight 367 = .ok (.isub, 1) := by decide +kernel
theorem dL_isCodeRight_368 : decode cL_isCodeRight 368 = .ok (.invokevirtual 35, 3) := by decide +kernel
theorem dL_isCodeRight_371 : decode cL_isCodeRight 371 = .ok (.bipush 24, 2) := by decide +kernel
theorem dL_isCodeRight_373 : decode cL_isCodeRight 373 = .ok (.if_icmp .eq 16, 3) := by decide +kernel
theorem dL_isCodeRight_376 : decode cL_isCodeRight 376 = .ok (.aload_n 0, 1) := by decide +kernel
theorem dL_isCodeRight_377 : decode cL_isCodeRight 377 = .ok (.iload_n 1, 1) := by decide +kernel
theorem dL_isCodeRight_378 : decode cL_isCodeRight 378 = .ok (.iload_n 3, 1) := by decide +kernel
theorem dL_isCodeRight_379 : decode cL_isCodeRight 379 = .ok (.iconst 1, 1) := by decide +kernel
theorem dL_isCodeRight_380 : decode cL_isCodeRight 380 = .ok (.isub, 1) := by decide +kernel
theorem dL_isCodeRight_381 : decode cL_isCodeRight 381 = .ok (.invokevirtual 35, 3) := by decide +kernel
theorem dL_isCodeRight_384 : decode cL_isCodeRight 384 = .ok (.bipush 22, 2) := by decide +kernel
theorem dL_isCodeRight_386 : decode cL_isCodeRight 386 = .ok (.if_icmp .ne 7, 3) := by decide +kernel
theorem dL_isCodeRight_389 : decode cL_isCodeRight 389 = .ok (.iconst 1, 1) := by decide +kernel
theorem dL_isCodeRight_390 : decode cL_isCodeRight 390 = .ok (.goto 4, 3) := by decide +kernel
theorem dL_isCodeRight_393 : decode cL_isCodeRight 393 = .ok (.iconst 0, 1) := by decide +kernel
theorem dL_isCodeRight_394 : decode cL_isCodeRight 394 = .ok (.ireturn, 1) := by decide +kernel
theorem dL_write_0 : decode cL_write 0 = .ok (.iconst 0, 1) := by decide +kernel
theorem dL_write_1 : decode cL_write 1 = .ok (.istore_n 2, 1) := by decide +kernel
theorem dL_write_2 : decode cL_write 2 = .ok (.iload_n 2, 1) := by decide +kernel
theorem dL_write_3 : decode cL_write 3 = .ok (.aload_n 1, 1) := by decide +kernel
theorem dL_write_4 : decode cL_write 4 = .ok (.invokevirtual 9, 3) := by decide +kernel
theorem dL_write_7 : decode cL_write 7 = .ok (.if_icmp .ge 50, 3) := by decide +kernel
theorem dL_write_10 : decode cL_write 10 = .ok (.aload_n 0, 1) := by decide +kernel
theorem dL_write_11 : decode cL_write 11 = .ok (.aload_n 1, 1) := by decide +kernel
theorem dL_write_12 : decode cL_write 12 = .ok (.iload_n 2, 1) := by decide +kernel
theorem dL_write_13 : decode cL_write 13 = .ok (.invokestatic 15, 3) := by decide +kernel
theorem dL_write_16 : decode cL_write 16 = .ok (.aload_n 1, 1) := by decide +kernel
theorem dL_write_17 : decode cL_write 17 = .ok (.iload_n 2, 1) := by decide +kernel
theorem dL_write_18 : decode cL_write 18 = .ok (.iconst 4, 1) := by decide +kernel
theorem dL_write_19 : decode cL_write 19 = .ok (.iadd, 1) := by decide +kernel
theorem dL_write_20 : decode cL_write 20 = .ok (.invokestatic 15, 3) := by decide +kernel
theorem dL_write_23 : decode cL_write 23 = .ok (.aload_n 1, 1) := by decide +kernel
theorem dL_write_24 : decode cL_write 24 = .ok (.iload_n 2, 1) := by decide +kernel
theorem dL_write_25 : decode cL_write 25 = .ok (.bipush 8, 2) := by decide +kernel
theorem dL_write_27 : decode cL_write 27 = .ok (.iadd, 1) := by decide +kernel
theorem dL_write_28 : decode cL_write 28 = .ok (.invokestatic 15, 3) := by decide +kernel
theorem dL_write_31 : decode cL_write 31 = .ok (.aload_n 1, 1) := by decide +kernel
theorem dL_write_32 : decode cL_write 32 = .ok (.iload_n 2, 1) := by decide +kernel
theorem dL_write_33 : decode cL_write 33 = .ok (.bipush 12, 2) := by decide +kernel
theorem dL_write_35 : decode cL_write 35 = .ok (.iadd, 1) := by decide +kernel
theorem dL_write_36 : decode cL_write 36 = .ok (.invokestatic 15, 3) := by decide +kernel
theorem dL_write_39 : decode cL_write 39 = .ok (.aload_n 1, 1) := by decide +kernel
theorem dL_write_40 : decode cL_write 40 = .ok (.iload_n 2, 1) := by decide +kernel
theorem dL_write_41 : decode cL_write 41 = .ok (.bipush 16, 2) := by decide +kernel
theorem dL_write_43 : decode cL_write 43 = .ok (.iadd, 1) := by decide +kernel
theorem dL_write_44 : decode cL_write 44 = .ok (.invokestatic 15, 3) := by decide +kernel
theorem dL_write_47 : decode cL_write 47 = .ok (.invokevirtual 21, 3) := by decide +kernel
theorem dL_write_50 : decode cL_write 50 = .ok (.pop, 1) := by decide +kernel
theorem dL_write_51 : decode cL_write 51 = .ok (.iinc 2 20, 3) := by decide +kernel
theorem dL_write_54 : decode cL_write 54 = .ok (.goto (-52), 3) := by decide +kernel
theorem dL_write_57 : decode cL_write 57 = .ok (.return_, 1) := by decide +kernel
theorem dX13_draw_0 : decode cX13_draw 0 = .ok (.aload_n 0, 1) := by decide +kernel
theorem dX13_draw_1 : decode cX13_draw 1 = .ok (.getfield 27, 3) := by decide +kernel
theorem dX13_draw_4 : decode cX13_draw 4 = .ok (.aload_n 0, 1) := by decide +kernel
theorem dX13_draw_5 : decode cX13_draw 5 = .ok (.getfield 30, 3) := by decide +kernel
theorem dX13_draw_8 : decode cX13_draw 8 = .ok (.bipush 24, 2) := by decide +kernel
theorem dX13_draw_10 : decode cX13_draw 10 = .ok (.irem, 1) := by decide +kernel
theorem dX13_draw_11 : decode cX13_draw 11 = .ok (.invokestatic 57, 3) := by decide +kernel
theorem dX13_draw_14 : decode cX13_draw 14 = .ok (.aload_n 0, 1) := by decide +kernel
theorem dX13_draw_15 : decode cX13_draw 15 = .ok (.getfield 30, 3) := by decide +kernel
theorem dX13_draw_18 : decode cX13_draw 18 = .ok (.bipush 24, 2) := by decide +kernel
theorem dX13_draw_20 : decode cX13_draw 20 = .ok (.idiv, 1) := by decide +kernel
theorem dX13_draw_21 : decode cX13_draw 21 = .ok (.bipush 8, 2) := by decide +kernel
theorem dX13_draw_23 : decode cX13_draw 23 = .ok (.irem, 1) := by decide +kernel
theorem dX13_draw_24 : decode cX13_draw 24 = .ok (.ishr, 1) := by decide +kernel
theorem dX13_draw_25 : decode cX13_draw 25 = .ok (.bipush 47, 2) := by decide +kernel
theorem dX13_draw_27 : decode cX13_draw 27 = .ok (.aload_n 0, 1) := by decide +kernel
theorem dX13_draw_28 : decode cX13_draw 28 = .ok (.getfield 30, 3) := by decide +kernel
theorem dX13_draw_31 : decode cX13_draw 31 = .ok (.imul, 1) := by decide +kernel
theorem dX13_draw_32 : decode cX13_draw 32 = .ok (.iadd, 1) := by decide +kernel
theorem dX13_draw_33 : decode cX13_draw 33 = .ok (.iload_n 1, 1) := by decide +kernel
theorem dX13_draw_34 : decode cX13_draw 34 = .ok (.invokestatic 63, 3) := by decide +kernel
theorem dX13_draw_37 : decode cX13_draw 37 = .ok (.istore_n 2, 1) := by decide +kernel
theorem dX13_draw_38 : decode cX13_draw 38 = .ok (.aload_n 0, 1) := by decide +kernel
theorem dX13_draw_39 : decode cX13_draw 39 = .ok (.dup, 1) := by decide +kernel
theorem dX13_draw_40 : decode cX13_draw 40 = .ok (.getfield 30, 3) := by decide +kernel
theorem dX13_draw_43 : decode cX13_draw 43 = .ok (.iconst 1, 1) := by decide +kernel
theorem dX13_draw_44 : decode cX13_draw 44 = .ok (.iadd, 1) := by decide +kernel
theorem dX13_draw_45 : decode cX13_draw 45 = .ok (.putfield 30, 3) := by decide +kernel
theorem dX13_draw_48 : decode cX13_draw 48 = .ok (.iload_n 2, 1) := by decide +kernel
theorem dX13_draw_49 : decode cX13_draw 49 = .ok (.ireturn, 1) := by decide +kernel
theorem qw1513 : Cond.constant RLW 7 (2147483647) ∈ gw := mq_10 (i := 115) rfl rfl
theorem qw1514 : Cond.constant RLW 8 (790386105) ∈ gw := mq_10 (i := 111) rfl rfl
theorem qw1515 : Cond.methodLink RLW 9 yJ0_length_8abf5 ∈ gw := mq_11 (i := 23) rfl rfl
theorem qw1516 : Cond.code yJ0_charAt_5068e cJ0_charAt_5068e 2 (Option.some Jvm.ClassFile.FieldType.char) ∈ gw := mq_11 (i := 30) rfl rfl
theorem qw1517 : Cond.methodLink RLW 27 yJ0_charAt_5068e ∈ gw := mq_11 (i := 27) rfl rfl
theorem qw1518 : Cond.instanceMethod yJ0_charAt_5068e ∈ gw := mq_11 (i := 28) rfl rfl
theorem qw1519 : Cond.selects RJ0 yJ0_charAt_5068e yJ0_charAt_5068e ∈ gw := mq_11 (i := 29) rfl rfl
theorem qw1520 : Cond.code yL_four cL_four 4 (Option.some Jvm.ClassFile.FieldType.int) ∈ gw := mq_11 (i := 26) rfl rfl
theorem qw1521 : Cond.methodLink RLW 15 yL_four ∈ gw := mq_11 (i := 24) rfl rfl
theorem qw1522 : Cond.static yL_four ∈ gw := mq_11 (i := 25) rfl rfl
theorem qw1523 : Cond.initialized RLW ∈ gw := mq_1 (i := 0) rfl rfl
theorem qw1524 : Cond.code yX11_feed cX11_feed 6 (Option.some Jvm.ClassFile.FieldType.int) ∈ gw := mq_11 (i := 50) rfl rfl
theorem qw1525 : Cond.methodLink RLW 21 yX11_feed ∈ gw := mq_11 (i := 47) rfl rfl
theorem qw1526 : Cond.instanceMethod yX11_feed ∈ gw := mq_11 (i := 48) rfl rfl
theorem qw1527 : Cond.selects RX11 yX11_feed yX11_feed ∈ gw := mq_11 (i := 49) rfl rfl
theorem qw1528 : Cond.code yX11_lines cX11_lines 2 (Option.some Jvm.ClassFile.FieldType.int) ∈ gw := mq_11 (i := 62) rfl rfl
theorem qw1529 : Cond.methodLink RLW 31 yX11_lines ∈ gw := mq_11 (i := 59) rfl rfl
theorem qw1530 : Cond.instanceMethod yX11_lines ∈ gw := mq_11 (i := 60) rfl rfl
theorem qw1531 : Cond.selects RX11 yX11_lines yX11_lines ∈ gw := mq_11 (i := 61) rfl rfl
theorem qw1532 : Cond.code yX11_codeKind cX11_codeKind 3 (Option.some Jvm.ClassFile.FieldType.int) ∈ gw := mq_11 (i := 66) rfl rfl
theorem qw1533 : Cond.methodLink RLW 35 yX11_codeKind ∈ gw := mq_11 (i := 63) rfl rfl
theorem qw1534 : Cond.instanceMethod yX11_codeKind ∈ gw := mq_11 (i := 64) rfl rfl
theorem qw1535 : Cond.selects RX11 yX11_codeKind yX11_codeKind ∈ gw := mq_11 (i := 65) rfl rfl
theorem qw1536 : Cond.code yX11_codeGives cX11_codeGives 3 (Option.some Jvm.ClassFile.FieldType.int) ∈ gw := mq_11 (i := 74) rfl rfl
theorem qw1537 : Cond.methodLink RLW 39 yX11_codeGives ∈ gw := mq_11 (i := 71) rfl rfl
theorem qw1538 : Cond.instanceMethod yX11_codeGives ∈ gw := mq_11 (i := 72) rfl rfl
theorem qw1539 : Cond.selects RX11 yX11_codeGives yX11_codeGives ∈ gw := mq_11 (i := 73) rfl rfl
theorem qw1540 : Cond.code yX11_codeLeft cX11_codeLeft 3 (Option.some Jvm.ClassFile.FieldType.int) ∈ gw := mq_11 (i := 78) rfl rfl
theorem qw1541 : Cond.methodLink RLW 42 yX11_codeLeft ∈ gw := mq_11 (i := 75) rfl rfl
theorem qw1542 : Cond.instanceMethod yX11_codeLeft ∈ gw := mq_11 (i := 76) rfl rfl
theorem qw1543 : Cond.selects RX11 yX11_codeLeft yX11_codeLeft ∈ gw := mq_11 (i := 77) rfl rfl
theorem qw1544 : Cond.code yX11_codeRight cX11_codeRight 3 (Option.some Jvm.ClassFile.FieldType.int) ∈ gw := mq_11 (i := 82) rfl rfl
theorem qw1545 : Cond.methodLink RLW 45 yX11_codeRight ∈ gw := mq_11 (i := 79) rfl rfl
theorem qw1546 : Cond.instanceMethod yX11_codeRight ∈ gw := mq_11 (i := 80) rfl rfl
theorem qw1547 : Cond.selects RX11 yX11_codeRight yX11_codeRight ∈ gw := mq_11 (i := 81) rfl rfl
theorem qw1548 : Cond.code yX11_slots cX11_slots 2 (Option.some Jvm.ClassFile.FieldType.int) ∈ gw := mq_11 (i := 86) rfl rfl
theorem qw1549 : Cond.methodLink RLW 48 yX11_slots ∈ gw := mq_11 (i := 83) rfl rfl
theorem qw1550 : Cond.instanceMethod yX11_slots ∈ gw := mq_11 (i := 84) rfl rfl
theorem qw1551 : Cond.selects RX11 yX11_slots yX11_slots ∈ gw := mq_11 (i := 85) rfl rfl
theorem qw1552 : Cond.code yX11_functions cX11_functions 1 (Option.some Jvm.ClassFile.FieldType.int) ∈ gw := mq_7 (i := 135) rfl rfl
theorem qw1553 : Cond.methodLink RLW 51 yX11_functions ∈ gw := mq_7 (i := 132) rfl rfl
theorem qw1554 : Cond.instanceMethod yX11_functions ∈ gw := mq_7 (i := 133) rfl rfl
theorem qw1555 : Cond.selects RX11 yX11_functions yX11_functions ∈ gw := mq_7 (i := 134) rfl rfl
theorem qw1556 : Cond.fieldLink RX13 27 "GearboxLaw$Made" "s" "[I" ∈ gw := mq_10 (i := 221) rfl rfl
theorem qw1557 : Cond.fieldLink RX13 30 "GearboxLaw$Made" "draws" "I" ∈ gw := mq_10 (i := 222) rfl rfl
theorem qw1558 : Cond.code yL_cell cL_cell 2 (Option.some Jvm.ClassFile.FieldType.int) ∈ gw := mq_10 (i := 110) rfl rfl
theorem qw1559 : Cond.static yL_cell ∈ gw := mq_10 (i := 109) rfl rfl
theorem qw1560 : Cond.code yL_below cL_below 2 (Option.some Jvm.ClassFile.FieldType.int) ∈ gw := mq_10 (i := 114) rfl rfl
theorem qw1561 : Cond.static yL_below ∈ gw := mq_10 (i := 113) rfl rfl
def fL_below (p0 : Int32) (p1 : Int32) : Option Int32 := (if ¬ p1 = 0 then some ((p0 &&& 2147483647) - (p0 &&& 2147483647) / p1 * p1) else none)
set_option maxHeartbeats 16000000 in
set_option maxRecDepth 100000 in
theorem kL_below {zs : ZS} (l : Launch) (dC : Nat → ClassId) (dI : Nat → Nat → Nat) (p0 : Int32) (p1 : Int32) (sz : Nat) (o : Int32) (hrun : fL_below p0 p1 = some o) : Met l yL_below (wz yL_below cL_below 2 (Option.some Jvm.ClassFile.FieldType.int)) ({ frames := 0, cells := 0, slots := 0, locals := 0 } : Room) (va_Pc [.int p0, .int p1] (PRE zs dC dI (List.flatten ([] : List va_W)) (List.flatten ([] : List (List (ClassId × FieldType)))) sz)) (va_Qi (fun (r : Int32) (_ : Unit) => r = o) (fun _ t => POST dC dI (List.flatten ([] : List va_W)) (List.flatten ([] : List (List (ClassId × FieldType)))) (va_A (List.flatten ([] : List va_W)) sz) t) (va_A (List.flatten ([] : List va_W)) sz)) 0 0 (va_A (List.flatten ([] : List va_W)) sz) := by
  refine Met.ofW (cc := cL_below) (maxL := 2) (ret := (Option.some Jvm.ClassFile.FieldType.int)) (by decide) rfl ?_
  intro p e s m args below meth c s₁ B hml hv
  obtain ⟨rfl, hsz, hP, hK, hD0, hE⟩ := hv
  have hx := B.exec
  have hb := B.bytes
  have hr := B.returns
  have hts0 := atoms_spec (ws := wz yL_below cL_below 2 (Option.some Jvm.ClassFile.FieldType.int)) B.pre
  have hts : ∀ w ∈ gw, w.before _ s = true := fun w h => hts0 w (List.mem_cons_of_mem _ h)
  have hown : s.vm.findClass RLW = some m.cls := findClass_of_methodNamed B.named
  have hlocks := B.notSynchronized
  subst hsz
  have hD := hD0.self (sz := s.heap.size)
  refine gQ9 ?_
  intro Q hQ
  generalize hAe : va_A (List.flatten ([] : List va_W)) s.heap.size = A at hD hE hQ
  have hA : ∀ q : Nat, s.heap.size ≤ q → A q := fun q h => by rw [← hAe]; exact Or.inr h
  have hS : va_S A s.heap s.heap [] := va_S.rf
  have hP : va_P (dC, dI) cls (List.flatten ([] : List va_W)) s.heap := hP
  have hl := lv_entry ([.int p0, .int p1]) (n := 2) (Nat.le_of_ble_eq_true rfl)
  rw [lg_entry_eq]
  generalize (lg_sl ([.int p0, .int p1]) ++ List.replicate (2 - (lg_sl ([.int p0, .int p1])).length) Slot.unset).toArray = ls at hl ⊢
  have hl : lv_has ls 2 [(0, .int p0), (1, .int p1)] := hl
  obtain ⟨H, hHe⟩ : ∃ H, H = s.heap := ⟨_, rfl⟩
  obtain ⟨locs, hle⟩ : ∃ locs : List Loc, locs = [] := ⟨_, rfl⟩
  rw [← hHe] at hP
  have hS : va_S A s.heap H locs := by rw [hHe, hle]; exact hS
  show W p l e ({ frames := 0, cells := 0, slots := 0, locals := 0 } : Room) s m ([.int p0, .int p1] : List Value).toArray below meth c s.heap [] 0 0 Q (F0 m 0 ls [])
  rw [← hle]
  refine wH9 hHe ?_
  unfold fL_below at hrun
  refine lv_iload_n hx hb dL_below_0 rfl (lv_at hl 0 rfl) ?_
  refine lv_ldc (v := 2147483647) hx hb hown (hts _ qw1513) dL_below_1 ?_
  refine lv_iand hx hb dL_below_3 ?_
  refine lv_iload_n hx hb dL_below_4 rfl (lv_at hl 1 rfl) ?_
  obtain ⟨hq1, hrun⟩ := chk9 hrun
  refine lv_irem hx hb dL_below_5 hq1 ?_
  have ho9 : ((p0 &&& 2147483647) - (p0 &&& 2147483647) / p1 * p1) = o := Option.some.inj hrun
  have hP9 : va_P (dC, dI) cls (List.flatten ([] : List va_W)) H := by first | exact hP | (rw [← ho9]; exact hP)
  have hD9 : va_D A (List.flatten ([] : List va_W)) := by first | exact hD | (rw [← ho9]; exact hD)
  subst hQ
  exact W.iret (v := ((p0 &&& 2147483647) - (p0 &&& 2147483647) / p1 * p1)) hx hb hr (fun t ht hW => ⟨⟨((p0 &&& 2147483647) - (p0 &&& 2147483647) / p1 * p1), (), rfl, (by rw [← ho9]), ⟨by rw [ht]; exact hP9, va_K.moved hW.alike hK, hD9⟩⟩, hS.F ht⟩) hS.2.2 dL_below_6
def fL_cell_J18 (y0_18 : Int32) : Option Int32 := some y0_18
def fL_cell (p0m : Nat) (p0f : RI) (p1 : Int32) : Option Int32 := (if (Int32.ofNat p0m) ≤ p1 then (fL_cell_J18 (790386105 * (p1 + 3))) else (if ixb p1 p0m = true then (fL_cell_J18 (p0f (nn p1))) else none))
set_option maxHeartbeats 16000000 in
set_option maxRecDepth 100000 in
theorem kL_cell {zs : ZS} (l : Launch) (dC : Nat → ClassId) (dI : Nat → Nat → Nat) (p0v : Nat) (p0m : Nat) (p0f : RI) (p1 : Int32) (sz : Nat) (o : Int32) (hrun : fL_cell p0m p0f p1 = some o) : Met l yL_cell (wz yL_cell cL_cell 2 (Option.some Jvm.ClassFile.FieldType.int)) ({ frames := 0, cells := 0, slots := 0, locals := 0 } : Room) (va_Pc [.ref p0v, .int p1] (PRE (zA zs (xq9 p0v p0m p0f)) dC dI (List.flatten ([] : List va_W)) (List.flatten ([] : List (List (ClassId × FieldType)))) sz)) (va_Qi (fun (r : Int32) (_ : Unit) => r = o) (fun _ t => POST dC dI (List.flatten ([] : List va_W)) (List.flatten ([] : List (List (ClassId × FieldType)))) (va_A (List.flatten ([] : List va_W)) sz) t) (va_A (List.flatten ([] : List va_W)) sz)) 0 0 (va_A (List.flatten ([] : List va_W)) sz) := by
  refine Met.ofW (cc := cL_cell) (maxL := 2) (ret := (Option.some Jvm.ClassFile.FieldType.int)) (by decide) rfl ?_
  intro p e s m args below meth c s₁ B hml hv
  obtain ⟨rfl, hsz, hP, hK, hD0, hE⟩ := hv
  have hx := B.exec
  have hb := B.bytes
  have hr := B.returns
  have hts0 := atoms_spec (ws := wz yL_cell cL_cell 2 (Option.some Jvm.ClassFile.FieldType.int)) B.pre
  have hts : ∀ w ∈ gw, w.before _ s = true := fun w h => hts0 w (List.mem_cons_of_mem _ h)
  have hown : s.vm.findClass RLW = some m.cls := findClass_of_methodNamed B.named
  have hlocks := B.notSynchronized
  subst hsz
  have hD := hD0.self (sz := s.heap.size)
  refine gQ9 ?_
  intro Q hQ
  generalize hAe : va_A (List.flatten ([] : List va_W)) s.heap.size = A at hD hE hQ
  have hA : ∀ q : Nat, s.heap.size ≤ q → A q := fun q h => by rw [← hAe]; exact Or.inr h
  have hro := ENV.ex hE
  have hro_p0 := hro.2
  replace hro := hro.1
  have hS : va_S A s.heap s.heap [] := va_S.rf
  have hP : va_P (dC, dI) cls (List.flatten ([] : List va_W)) s.heap := hP
  have hl := lv_entry ([.ref p0v, .int p1]) (n := 2) (Nat.le_of_ble_eq_true rfl)
  rw [lg_entry_eq]
  generalize (lg_sl ([.ref p0v, .int p1]) ++ List.replicate (2 - (lg_sl ([.ref p0v, .int p1])).length) Slot.unset).toArray = ls at hl ⊢
  have hl : lv_has ls 2 [(0, .ref p0v), (1, .int p1)] := hl
  obtain ⟨H, hHe⟩ : ∃ H, H = s.heap := ⟨_, rfl⟩
  obtain ⟨locs, hle⟩ : ∃ locs : List Loc, locs = [] := ⟨_, rfl⟩
  rw [← hHe] at hP
  have hS : va_S A s.heap H locs := by rw [hHe, hle]; exact hS
  show W p l e ({ frames := 0, cells := 0, slots := 0, locals := 0 } : Room) s m ([.ref p0v, .int p1] : List Value).toArray below meth c s.heap [] 0 0 Q (F0 m 0 ls [])
  rw [← hle]
  refine wH9 hHe ?_
  unfold fL_cell at hrun
  refine lv_iload_n hx hb dL_cell_0 rfl (lv_at hl 1 rfl) ?_
  refine lv_aload_n hx hb dL_cell_1 rfl (lv_at hl 0 rfl) ?_
  refine va_slen hx hb hro_p0.1 hro_p0.2.1 hro_p0.2.2 hS dL_cell_2 ?_
  have J18 : ∀ (y0_18 : Int32) (H : Heap) (locs : List Loc) (ls : Array Slot), (fL_cell_J18 y0_18) = some o → va_P (dC, dI) cls (List.flatten ([] : List va_W)) H → va_D A (List.flatten ([] : List va_W)) → va_K (dC, dI) cls (List.flatten ([] : List (List (ClassId × FieldType)))) s → va_S A s.heap H locs → lv_has ls 2 [] → W p l e ({ frames := 0, cells := 0, slots := 0, locals := 0 } : Room) s m ([.ref p0v, .int p1] : List Value).toArray below meth c H locs 0 0 Q (F0 m 18 ls [.int y0_18]) := by
    intro y0_18 H locs ls hrun hP hD hK hS hl 
    unfold fL_cell_J18 at hrun
    have ho9 : y0_18 = o := Option.some.inj hrun
    have hP9 : va_P (dC, dI) cls (List.flatten ([] : List va_W)) H := by first | exact hP | (rw [← ho9]; exact hP)
    have hD9 : va_D A (List.flatten ([] : List va_W)) := by first | exact hD | (rw [← ho9]; exact hD)
    subst hQ
    exact W.iret (v := y0_18) hx hb hr (fun t ht hW => ⟨⟨y0_18, (), rfl, (by rw [← ho9]), ⟨by rw [ht]; exact hP9, va_K.moved hW.alike hK, hD9⟩⟩, hS.F ht⟩) hS.2.2 dL_cell_18
  rcases br9 hrun with ⟨hc1, hrun⟩ | ⟨hc1, hrun⟩
  · refine lv_icmp_ge (tgt := 12) hx hb dL_cell_3 (by decide) (fun _ => ?_) (fun c => absurd hc1 c)
    refine lv_ldc (v := 790386105) hx hb hown (hts _ qw1514) dL_cell_12 ?_
    refine lv_iload_n hx hb dL_cell_14 rfl (lv_at hl 1 rfl) ?_
    refine lv_iconst (v := 3) hx hb dL_cell_15 (by decide) ?_
    refine lv_iadd hx hb dL_cell_16 ?_
    refine lv_imul hx hb dL_cell_17 ?_
    exact J18 (790386105 * (p1 + 3)) _ _ _ hrun hP hD hK hS (lv_sub hl [] rfl)
  · refine lv_icmp_ge (tgt := 12) hx hb dL_cell_3 (by decide) (fun c => absurd c hc1) (fun _ => ?_)
    refine lv_aload_n hx hb dL_cell_6 rfl (lv_at hl 0 rfl) ?_
    refine lv_iload_n hx hb dL_cell_7 rfl (lv_at hl 1 rfl) ?_
    obtain ⟨hq2, hrun⟩ := chk9 hrun
    refine va_sld hx hb hro_p0.1 hro_p0.2.1 hro_p0.2.2 hS (ixb_in hq2) dL_cell_8 ?_
    refine lv_goto (tgt := 18) hx hb dL_cell_9 (by decide) ?_
    exact J18 (p0f (nn p1)) _ _ _ hrun hP hD hK hS (lv_sub hl [] rfl)
def fL_four_J33 (kk4 : Int32 → Int32 → Option Int32) (v3_4 : Int32) (y0_33 : Int32) (y1_33 : Int32) : Option Int32 := (kk4 (y1_33 ||| y0_33) (v3_4 + 1))
def fL_four_L4 (p0m : Nat) (p0f : RI) (p1 : Int32) : Nat → Int32 → Int32 → Option Int32
  | 0 => fun _ _ => none
  | n_4 + 1 => fun v2_4 v3_4 => (if (p1 + 4) ≤ v3_4 then some v2_4 else ((fJ0_length_8abf5 p0m).bind fun (o_2 : Int32) => (if o_2 ≤ v3_4 then (fL_four_J33 (fL_four_L4 p0m p0f p1 n_4) v3_4 32 (v2_4 <<< (8 &&& 31))) else ((fJ0_charAt_5068e p0m p0f v3_4).bind fun (o_5 : Int32) => (fL_four_J33 (fL_four_L4 p0m p0f p1 n_4) v3_4 o_5 (v2_4 <<< (8 &&& 31)))))))
def fL_four (p0m : Nat) (p0f : RI) (p1 : Int32) : Option Int32 := ((fL_four_L4 p0m p0f p1 NF 0 p1).bind fun (o4 : Int32) => some o4)
set_option maxHeartbeats 16000000 in
set_option maxRecDepth 100000 in
theorem kL_four {zs : ZS} (l : Launch) (dC : Nat → ClassId) (dI : Nat → Nat → Nat) (p0s : Nat) (p0v : Nat) (p0m : Nat) (p0f : RI) (p1 : Int32) (sz : Nat) (o : Int32) (hrun : fL_four p0m p0f p1 = some o) : Met l yL_four (wz yL_four cL_four 4 (Option.some Jvm.ClassFile.FieldType.int)) ({ frames := 4, cells := 0, slots := 0, locals := 85 } : Room) (va_Pc [.ref p0s, .int p1] (PRE (zA zs (sq9 p0s p0v p0m p0f)) dC dI (List.flatten ([] : List va_W)) (List.flatten ([] : List (List (ClassId × FieldType)))) sz)) (va_Qi (fun (r : Int32) (_ : Unit) => r = o) (fun _ t => POST dC dI (List.flatten ([] : List va_W)) (List.flatten ([] : List (List (ClassId × FieldType)))) (va_A (List.flatten ([] : List va_W)) sz) t) (va_A (List.flatten ([] : List va_W)) sz)) 0 0 (va_A (List.flatten ([] : List va_W)) sz) := by
  refine Met.ofW (cc := cL_four) (maxL := 4) (ret := (Option.some Jvm.ClassFile.FieldType.int)) (by decide) rfl ?_
  intro p e s m args below meth c s₁ B hml hv
  obtain ⟨rfl, hsz, hP, hK, hD0, hE⟩ := hv
  have hx := B.exec
  have hb := B.bytes
  have hr := B.returns
  have hts0 := atoms_spec (ws := wz yL_four cL_four 4 (Option.some Jvm.ClassFile.FieldType.int)) B.pre
  have hts : ∀ w ∈ gw, w.before _ s = true := fun w h => hts0 w (List.mem_cons_of_mem _ h)
  have hown : s.vm.findClass RLW = some m.cls := findClass_of_methodNamed B.named
  have hlocks := B.notSynchronized
  subst hsz
  have hD := hD0.self (sz := s.heap.size)
  refine gQ9 ?_
  intro Q hQ
  generalize hAe : va_A (List.flatten ([] : List va_W)) s.heap.size = A at hD hE hQ
  have hA : ∀ q : Nat, s.heap.size ≤ q → A q := fun q h => by rw [← hAe]; exact Or.inr h
  have hro := ENV.ex hE
  have hro_p0 := hro.2
  replace hro := hro.1
  have hS : va_S A s.heap s.heap [] := va_S.rf
  have hP : va_P (dC, dI) cls (List.flatten ([] : List va_W)) s.heap := hP
  have hl := lv_entry ([.ref p0s, .int p1]) (n := 4) (Nat.le_of_ble_eq_true rfl)
  rw [lg_entry_eq]
  generalize (lg_sl ([.ref p0s, .int p1]) ++ List.replicate (4 - (lg_sl ([.ref p0s, .int p1])).length) Slot.unset).toArray = ls at hl ⊢
  have hl : lv_has ls 4 [(0, .ref p0s), (1, .int p1)] := hl
  obtain ⟨H, hHe⟩ : ∃ H, H = s.heap := ⟨_, rfl⟩
  obtain ⟨locs, hle⟩ : ∃ locs : List Loc, locs = [] := ⟨_, rfl⟩
  rw [← hHe] at hP
  have hS : va_S A s.heap H locs := by rw [hHe, hle]; exact hS
  show W p l e ({ frames := 4, cells := 0, slots := 0, locals := 85 } : Room) s m ([.ref p0s, .int p1] : List Value).toArray below meth c s.heap [] 0 0 Q (F0 m 0 ls [])
  rw [← hle]
  refine wH9 hHe ?_
  unfold fL_four at hrun
  refine lv_iconst (v := 0) hx hb dL_four_0 (by decide) ?_
  refine lv_istore_n (lv' := [(2, .int 0), (0, .ref p0s), (1, .int p1)]) hx hb dL_four_1 rfl hl (by decide) rfl (fun ls hl => ?_)
  refine lv_iload_n hx hb dL_four_2 rfl (lv_at hl 2 rfl) ?_
  refine lv_istore_n (lv' := [(3, .int p1), (2, .int 0), (0, .ref p0s), (1, .int p1)]) hx hb dL_four_3 rfl hl (by decide) rfl (fun ls hl => ?_)
  have L4 : ∀ (n_4 : Nat) (v2_4 : Int32) (v3_4 : Int32) (o4 : Int32) (H : Heap) (locs : List Loc) (ls : Array Slot), (fL_four_L4 p0m p0f p1 n_4) v2_4 v3_4 = some o4 → va_P (dC, dI) cls (List.flatten ([] : List va_W)) H → va_D A (List.flatten ([] : List va_W)) → va_K (dC, dI) cls (List.flatten ([] : List (List (ClassId × FieldType)))) s → va_S A s.heap H locs → lv_has ls 4 [(0, .ref p0s), (1, .int p1), (2, .int v2_4), (3, .int v3_4)] → (∀ (H : Heap) (locs : List Loc) (ls : Array Slot), va_P (dC, dI) cls (List.flatten ([] : List va_W)) H → va_D A (List.flatten ([] : List va_W)) → va_K (dC, dI) cls (List.flatten ([] : List (List (ClassId × FieldType)))) s → va_S A s.heap H locs → lv_has ls 4 [(2, .int o4)] → W p l e ({ frames := 4, cells := 0, slots := 0, locals := 85 } : Room) s m ([.ref p0s, .int p1] : List Value).toArray below meth c H locs 0 0 Q (F0 m 41 ls [])) → W p l e ({ frames := 4, cells := 0, slots := 0, locals := 85 } : Room) s m ([.ref p0s, .int p1] : List Value).toArray below meth c H locs 0 0 Q (F0 m 4 ls []) := by
    intro n_4
    induction n_4 with
    | zero => intro v2_4 v3_4 o4 H locs ls hrun; exact (no9 rfl hrun).elim
    | succ n_4 IH4 =>
      intro v2_4 v3_4 o4 H locs ls hrun hP hD hK hS hl hk4
      unfold fL_four_L4 at hrun
      refine lv_iload_n hx hb dL_four_4 rfl (lv_at hl 3 rfl) ?_
      refine lv_iload_n hx hb dL_four_5 rfl (lv_at hl 1 rfl) ?_
      refine lv_iconst (v := 4) hx hb dL_four_6 (by decide) ?_
      refine lv_iadd hx hb dL_four_7 ?_
      rcases br9 hrun with ⟨hc1, hrun⟩ | ⟨hc1, hrun⟩
      · refine lv_icmp_ge (tgt := 41) hx hb dL_four_8 (by decide) (fun _ => ?_) (fun c => absurd hc1 c)
        obtain rfl := (Option.some.inj hrun)
        exact hk4 _ _ _ hP hD hK hS (lv_sub hl [2] rfl)
      · refine lv_icmp_ge (tgt := 41) hx hb dL_four_8 (by decide) (fun c => absurd c hc1) (fun _ => ?_)
        refine lv_iload_n hx hb dL_four_11 rfl (lv_at hl 2 rfl) ?_
        refine lv_bipush (v := 8) hx hb dL_four_12 (by decide) ?_
        refine lv_ishl hx hb dL_four_14 ?_
        refine lv_iload_n hx hb dL_four_15 rfl (lv_at hl 3 rfl) ?_
        refine lv_aload_n hx hb dL_four_16 rfl (lv_at hl 0 rfl) ?_
        obtain ⟨o_2, hc_2, hrun⟩ := bnd9 hrun
        have hPx : va_P (dC, dI) cls ((List.flatten ([] : List va_W)) ++ (List.flatten ([] : List va_W))) H := vP_fa (vP_perm hP (bP (List.Perm.refl _)))
        have hDx : va_D A ((List.flatten ([] : List va_W)) ++ (List.flatten ([] : List va_W))) := vD_fa (vD_perm hD (bP (List.Perm.refl _)))
        have hKx : va_K (dC, dI) cls ((List.flatten ([] : List (List (ClassId × FieldType)))) ++ (List.flatten ([] : List (List (ClassId × FieldType))))) s := vK_fa (vK_perm hK (bP (List.Perm.refl _)))
        have hPc := vP_l hPx
        have hDc := vD_l hDx
        have hKc := vK_l hKx
        have hFc := vfree hDx hS hA
        refine va_calli (va_runV (As := []) (rest := [.int v3_4, .int (v2_4 <<< (8 &&& 31))]) ⟨hx, hb, hml, hown, hts⟩ (kJ0_length_8abf5 l dC dI (p0s := p0s) (p0v := p0v) (p0m := p0m) (p0f := p0f) (sz := _) (o := o_2) (hrun := hc_2)) (cwV 0 hts (gi_V qw1515 qw1235 qw1236 qw1184 (gi_z qw1233)) rfl rfl rfl (by decide +kernel) ⟨Nat.le_of_ble_eq_true rfl, Nat.le_of_ble_eq_true rfl⟩) ⟨PRE.blind, vk_rcv hro_p0 hS, PRE.of (ENV.add hE sq9_m hro_p0) hS hFc hPc hKc hDc⟩ rfl rfl hl.1 rfl (lv_room (Nat.le_of_ble_eq_true rfl)) dL_four_17 ⟨(Nat.le_of_ble_eq_true rfl), (Nat.le_of_ble_eq_true rfl)⟩) hS (fun q _ h => hFc q h) hFc (fun r3 u t H locs ht hvm hw hB hz1 hk1 hS => ?_)
        obtain ⟨b1, b2, b3⟩ := hB
        rw [ht] at b1
        obtain ⟨hP, hD, hK⟩ := JOINC (wc := (List.flatten ([] : List va_W))) (wr := (List.flatten ([] : List va_W))) (w1 := (List.flatten ([] : List va_W))) (t1 := (List.flatten ([] : List (List (ClassId × FieldType))))) hPx hDx hKx hk1 hFc b1 (va_K.moved hvm.symm b2) b3
        have hP : va_P (dC, dI) cls (List.flatten ([] : List va_W)) H := vP_perm (vP_fb hP) (bP (List.Perm.refl _))
        have hD : va_D A (List.flatten ([] : List va_W)) := vD_perm (vD_fb hD) (bP (List.Perm.refl _))
        have hK : va_K (dC, dI) cls (List.flatten ([] : List (List (ClassId × FieldType)))) s := vK_perm (vK_fb hK) (bP (List.Perm.refl _))
        obtain rfl : o_2 = r3 := hw.symm
        have J33 : ∀ (y0_33 : Int32) (y1_33 : Int32) (H : Heap) (locs : List Loc) (ls : Array Slot), (fL_four_J33 (fL_four_L4 p0m p0f p1 n_4) v3_4 y0_33 y1_33) = some o4 → va_P (dC, dI) cls (List.flatten ([] : List va_W)) H → va_D A (List.flatten ([] : List va_W)) → va_K (dC, dI) cls (List.flatten ([] : List (List (ClassId × FieldType)))) s → va_S A s.heap H locs → lv_has ls 4 [(0, .ref p0s), (1, .int p1), (3, .int v3_4)] → W p l e ({ frames := 4, cells := 0, slots := 0, locals := 85 } : Room) s m ([.ref p0s, .int p1] : List Value).toArray below meth c H locs 0 0 Q (F0 m 33 ls [.int y0_33, .int y1_33]) := by
          intro y0_33 y1_33 H locs ls hrun hP hD hK hS hl 
          unfold fL_four_J33 at hrun
          refine lv_ior hx hb dL_four_33 ?_
          refine lv_istore_n (lv' := [(2, .int (y1_33 ||| y0_33)), (0, .ref p0s), (1, .int p1), (3, .int v3_4)]) hx hb dL_four_34 rfl hl (by decide) rfl (fun ls hl => ?_)
          refine lv_iinc (v := (v3_4 + 1)) (lv' := [(3, .int (v3_4 + 1)), (2, .int (y1_33 ||| y0_33)), (0, .ref p0s), (1, .int p1)]) hx hb dL_four_35 hl (k := 3) rfl rfl (by decide) rfl (fun ls hl => ?_)
          refine lv_goto (tgt := 4) hx hb dL_four_38 (by decide) ?_
          exact IH4 (y1_33 ||| y0_33) (v3_4 + 1) o4 _ _ _ hrun hP hD hK hS (lv_sub hl [2, 3, 1, 0] rfl) hk4
        rcases br9 hrun with ⟨hc4, hrun⟩ | ⟨hc4, hrun⟩
        · refine lv_icmp_ge (tgt := 31) hx hb dL_four_20 (by decide) (fun _ => ?_) (fun c => absurd hc4 c)
          refine lv_bipush (v := 32) hx hb dL_four_31 (by decide) ?_
          exact J33 32 (v2_4 <<< (8 &&& 31)) _ _ _ hrun hP hD hK hS (lv_sub hl [0, 1, 3] rfl)
        · refine lv_icmp_ge (tgt := 31) hx hb dL_four_20 (by decide) (fun c => absurd c hc4) (fun _ => ?_)
          refine lv_aload_n hx hb dL_four_23 rfl (lv_at hl 0 rfl) ?_
          refine lv_iload_n hx hb dL_four_24 rfl (lv_at hl 3 rfl) ?_
          obtain ⟨o_5, hc_5, hrun⟩ := bnd9 hrun
          have hPx : va_P (dC, dI) cls ((List.flatten ([] : List va_W)) ++ (List.flatten ([] : List va_W))) H := vP_fa (vP_perm hP (bP (List.Perm.refl _)))
          have hDx : va_D A ((List.flatten ([] : List va_W)) ++ (List.flatten ([] : List va_W))) := vD_fa (vD_perm hD (bP (List.Perm.refl _)))
          have hKx : va_K (dC, dI) cls ((List.flatten ([] : List (List (ClassId × FieldType)))) ++ (List.flatten ([] : List (List (ClassId × FieldType))))) s := vK_fa (vK_perm hK (bP (List.Perm.refl _)))
          have hPc := vP_l hPx
          have hDc := vD_l hDx
          have hKc := vK_l hKx
          have hFc := vfree hDx hS hA
          refine va_calli (va_runV (As := [.int v3_4]) (rest := [.int (v2_4 <<< (8 &&& 31))]) ⟨hx, hb, hml, hown, hts⟩ (kJ0_charAt_5068e l dC dI (p0s := p0s) (p0v := p0v) (p0m := p0m) (p0f := p0f) (p1 := v3_4) (sz := _) (o := o_5) (hrun := hc_5)) (cwV 1 hts (gi_V qw1517 qw1518 qw1519 qw1184 (gi_z qw1516)) rfl rfl rfl (by decide +kernel) ⟨Nat.le_of_ble_eq_true rfl, Nat.le_of_ble_eq_true rfl⟩) ⟨PRE.blind, vk_rcv hro_p0 hS, PRE.of (ENV.add hE sq9_m hro_p0) hS hFc hPc hKc hDc⟩ rfl rfl hl.1 rfl (lv_room (Nat.le_of_ble_eq_true rfl)) dL_four_25 ⟨(Nat.le_of_ble_eq_true rfl), (Nat.le_of_ble_eq_true rfl)⟩) hS (fun q _ h => hFc q h) hFc (fun r6 u t H locs ht hvm hw hB hz1 hk1 hS => ?_)
          obtain ⟨b1, b2, b3⟩ := hB
          rw [ht] at b1
          obtain ⟨hP, hD, hK⟩ := JOINC (wc := (List.flatten ([] : List va_W))) (wr := (List.flatten ([] : List va_W))) (w1 := (List.flatten ([] : List va_W))) (t1 := (List.flatten ([] : List (List (ClassId × FieldType))))) hPx hDx hKx hk1 hFc b1 (va_K.moved hvm.symm b2) b3
          have hP : va_P (dC, dI) cls (List.flatten ([] : List va_W)) H := vP_perm (vP_fb hP) (bP (List.Perm.refl _))
          have hD : va_D A (List.flatten ([] : List va_W)) := vD_perm (vD_fb hD) (bP (List.Perm.refl _))
          have hK : va_K (dC, dI) cls (List.flatten ([] : List (List (ClassId × FieldType)))) s := vK_perm (vK_fb hK) (bP (List.Perm.refl _))
          obtain rfl : o_5 = r6 := hw.symm
          refine lv_goto (tgt := 33) hx hb dL_four_28 (by decide) ?_
          exact J33 o_5 (v2_4 <<< (8 &&& 31)) _ _ _ hrun hP hD hK hS (lv_sub hl [0, 1, 3] rfl)
  obtain ⟨o4, hc4, hrun⟩ := bnd9 hrun
  refine L4 NF 0 p1 o4 _ _ _ hc4 hP hD hK hS (lv_sub hl [2, 3, 1, 0] rfl) ?_
  intro H locs ls hP hD hK hS hl
  have hl := hl
  refine lv_iload_n hx hb dL_four_41 rfl (lv_at hl 0 rfl) ?_
  have ho9 : o4 = o := Option.some.inj hrun
  have hP9 : va_P (dC, dI) cls (List.flatten ([] : List va_W)) H := by first | exact hP | (rw [← ho9]; exact hP)
  have hD9 : va_D A (List.flatten ([] : List va_W)) := by first | exact hD | (rw [← ho9]; exact hD)
  subst hQ
  exact W.iret (v := o4) hx hb hr (fun t ht hW => ⟨⟨o4, (), rfl, (by rw [← ho9]), ⟨by rw [ht]; exact hP9, va_K.moved hW.alike hK, hD9⟩⟩, hS.F ht⟩) hS.2.2 dL_four_42
def fL_write_L2 (p1m : Nat) (p1f : RI) : Nat → Int32 → ST → Option ST
  | 0 => fun _ _ => none
  | n_2 + 1 => fun v2_2 p0_0w_2 => ((fJ0_length_8abf5 p1m).bind fun (o_1 : Int32) => (if o_1 ≤ v2_2 then some p0_0w_2 else ((fL_four p1m p1f v2_2).bind fun (o_4 : Int32) => ((fL_four p1m p1f (v2_2 + 4)).bind fun (o_6 : Int32) => ((fL_four p1m p1f (v2_2 + 8)).bind fun (o_8 : Int32) => ((fL_four p1m p1f (v2_2 + 12)).bind fun (o_10 : Int32) => ((fL_four p1m p1f (v2_2 + 16)).bind fun (o_12 : Int32) => ((fX11_feed o_4 o_6 o_8 o_10 o_12 p0_0w_2).bind fun (o_14 : Int32 × ST) => ((fL_write_L2 p1m p1f n_2) (v2_2 + 20) (o_14.2))))))))))
def fL_write (p1m : Nat) (p1f : RI) (p0_0w : ST) : Option ST := ((fL_write_L2 p1m p1f NF 0 p0_0w).bind fun (o2 : ST) => some o2)
set_option maxHeartbeats 16000000 in
set_option maxRecDepth 100000 in
theorem kL_write {zs : ZS} (l : Launch) (dC : Nat → ClassId) (dI : Nat → Nat → Nat) (p0a : Nat → Nat) (p0w : ST) (p1s : Nat) (p1v : Nat) (p1m : Nat) (p1f : RI) (p0_0a : Nat → Nat) (p0_0k : Nat → ClassId) (p0_0w : ST) (p0_0l : SL) (sz : Nat) (o : ST) (hrun : fL_write p1m p1f p0_0w = some o) : Met l yL_write (wz yL_write cL_write 3 (Option.none : Option Jvm.ClassFile.FieldType)) ({ frames := 5, cells := 0, slots := 0, locals := 108 } : Room) (va_Pc [.ref (p0a 0), .ref p1s] (PRE (zA zs (sq9 p1s p1v p1m p1f)) dC dI (List.flatten ([(oX11 (p0a 0) p0a p0w), (oX10 (p0a 1) p0_0a p0_0k p0_0w p0_0l)] : List va_W)) (List.flatten ([[], (tX10 p0_0k)] : List (List (ClassId × FieldType)))) sz)) (va_Qv (fun (_ : Unit) => True) (fun _ t => POST dC dI (List.flatten ([(oX11 (p0a 0) p0a p0w), (oX10 (p0a 1) p0_0a p0_0k o p0_0l)] : List va_W)) (List.flatten ([[], (tX10 p0_0k)] : List (List (ClassId × FieldType)))) (va_A (List.flatten ([(oX11 (p0a 0) p0a p0w), (oX10 (p0a 1) p0_0a p0_0k p0_0w p0_0l)] : List va_W)) sz) t) (va_A (List.flatten ([(oX11 (p0a 0) p0a p0w), (oX10 (p0a 1) p0_0a p0_0k p0_0w p0_0l)] : List va_W)) sz)) 0 0 (va_A (List.flatten ([(oX11 (p0a 0) p0a p0w), (oX10 (p0a 1) p0_0a p0_0k p0_0w p0_0l)] : List va_W)) sz) := by
  refine Met.ofW (cc := cL_write) (maxL := 3) (ret := (Option.none : Option Jvm.ClassFile.FieldType)) (by decide) rfl ?_
  intro p e s m args below meth c s₁ B hml hv
  obtain ⟨rfl, hsz, hP, hK, hD0, hE⟩ := hv
  have hx := B.exec
  have hb := B.bytes
  have hr := B.returns
  have hts0 := atoms_spec (ws := wz yL_write cL_write 3 (Option.none : Option Jvm.ClassFile.FieldType)) B.pre
  have hts : ∀ w ∈ gw, w.before _ s = true := fun w h => hts0 w (List.mem_cons_of_mem _ h)
  have hown : s.vm.findClass RLW = some m.cls := findClass_of_methodNamed B.named
  have hlocks := B.notSynchronized
  subst hsz
  have hD := hD0.self (sz := s.heap.size)
  refine gQ9 ?_
  intro Q hQ
  generalize hAe : va_A (List.flatten ([(oX11 (p0a 0) p0a p0w), (oX10 (p0a 1) p0_0a p0_0k p0_0w p0_0l)] : List va_W)) s.heap.size = A at hD hE hQ
  have hA : ∀ q : Nat, s.heap.size ≤ q → A q := fun q h => by rw [← hAe]; exact Or.inr h
  have hro := ENV.ex hE
  have hro_p1 := hro.2
  replace hro := hro.1
  have hS : va_S A s.heap s.heap [] := va_S.rf
  have hP : va_P (dC, dI) cls (List.flatten ([(oX11 (p0a 0) p0a p0w), (oX10 (p0a 1) p0_0a p0_0k p0_0w p0_0l)] : List va_W)) s.heap := hP
  have hl := lv_entry ([.ref (p0a 0), .ref p1s]) (n := 3) (Nat.le_of_ble_eq_true rfl)
  rw [lg_entry_eq]
  generalize (lg_sl ([.ref (p0a 0), .ref p1s]) ++ List.replicate (3 - (lg_sl ([.ref (p0a 0), .ref p1s])).length) Slot.unset).toArray = ls at hl ⊢
  have hl : lv_has ls 3 [(0, .ref (p0a 0)), (1, .ref p1s)] := hl
  obtain ⟨H, hHe⟩ : ∃ H, H = s.heap := ⟨_, rfl⟩
  obtain ⟨locs, hle⟩ : ∃ locs : List Loc, locs = [] := ⟨_, rfl⟩
  rw [← hHe] at hP
  have hS : va_S A s.heap H locs := by rw [hHe, hle]; exact hS
  show W p l e ({ frames := 5, cells := 0, slots := 0, locals := 108 } : Room) s m ([.ref (p0a 0), .ref p1s] : List Value).toArray below meth c s.heap [] 0 0 Q (F0 m 0 ls [])
  rw [← hle]
  refine wH9 hHe ?_
  unfold fL_write at hrun
  refine lv_iconst (v := 0) hx hb dL_write_0 (by decide) ?_
  refine lv_istore_n (lv' := [(2, .int 0), (0, .ref (p0a 0)), (1, .ref p1s)]) hx hb dL_write_1 rfl hl (by decide) rfl (fun ls hl => ?_)
  have L2 : ∀ (n_2 : Nat) (v2_2 : Int32) (p0_0w_2 : ST) (o2 : ST) (H : Heap) (locs : List Loc) (ls : Array Slot), (fL_write_L2 p1m p1f n_2) v2_2 p0_0w_2 = some o2 → va_P (dC, dI) cls (List.flatten ([(oX11 (p0a 0) p0a p0w), (oX10 (p0a 1) p0_0a p0_0k p0_0w_2 p0_0l)] : List va_W)) H → va_D A (List.flatten ([(oX11 (p0a 0) p0a p0w), (oX10 (p0a 1) p0_0a p0_0k p0_0w_2 p0_0l)] : List va_W)) → va_K (dC, dI) cls (List.flatten ([[], (tX10 p0_0k)] : List (List (ClassId × FieldType)))) s → va_S A s.heap H locs → lv_has ls 3 [(0, .ref (p0a 0)), (1, .ref p1s), (2, .int v2_2)] → (∀ (H : Heap) (locs : List Loc) (ls : Array Slot), va_P (dC, dI) cls (List.flatten ([(oX11 (p0a 0) p0a p0w), (oX10 (p0a 1) p0_0a p0_0k o2 p0_0l)] : List va_W)) H → va_D A (List.flatten ([(oX11 (p0a 0) p0a p0w), (oX10 (p0a 1) p0_0a p0_0k o2 p0_0l)] : List va_W)) → va_K (dC, dI) cls (List.flatten ([[], (tX10 p0_0k)] : List (List (ClassId × FieldType)))) s → va_S A s.heap H locs → lv_has ls 3 [] → W p l e ({ frames := 5, cells := 0, slots := 0, locals := 108 } : Room) s m ([.ref (p0a 0), .ref p1s] : List Value).toArray below meth c H locs 0 0 Q (F0 m 57 ls [])) → W p l e ({ frames := 5, cells := 0, slots := 0, locals := 108 } : Room) s m ([.ref (p0a 0), .ref p1s] : List Value).toArray below meth c H locs 0 0 Q (F0 m 2 ls []) := by
    intro n_2
    induction n_2 with
    | zero => intro v2_2 p0_0w_2 o2 H locs ls hrun; exact (no9 rfl hrun).elim
    | succ n_2 IH2 =>
      intro v2_2 p0_0w_2 o2 H locs ls hrun hP hD hK hS hl hk2
      unfold fL_write_L2 at hrun
      refine lv_iload_n hx hb dL_write_2 rfl (lv_at hl 2 rfl) ?_
      refine lv_aload_n hx hb dL_write_3 rfl (lv_at hl 1 rfl) ?_
      obtain ⟨o_1, hc_1, hrun⟩ := bnd9 hrun
      have hPx : va_P (dC, dI) cls ((List.flatten ([] : List va_W)) ++ (List.flatten ([(oX11 (p0a 0) p0a p0w), (oX10 (p0a 1) p0_0a p0_0k p0_0w_2 p0_0l)] : List va_W))) H := vP_fa (vP_perm hP (bP (List.Perm.refl _)))
      have hDx : va_D A ((List.flatten ([] : List va_W)) ++ (List.flatten ([(oX11 (p0a 0) p0a p0w), (oX10 (p0a 1) p0_0a p0_0k p0_0w_2 p0_0l)] : List va_W))) := vD_fa (vD_perm hD (bP (List.Perm.refl _)))
      have hKx : va_K (dC, dI) cls ((List.flatten ([] : List (List (ClassId × FieldType)))) ++ (List.flatten ([[], (tX10 p0_0k)] : List (List (ClassId × FieldType))))) s := vK_fa (vK_perm hK (bP (List.Perm.refl _)))
      have hPc := vP_l hPx
      have hDc := vD_l hDx
      have hKc := vK_l hKx
      have hFc := vfree hDx hS hA
      refine va_calli (va_runV (As := []) (rest := [.int v2_2]) ⟨hx, hb, hml, hown, hts⟩ (kJ0_length_8abf5 l dC dI (p0s := p1s) (p0v := p1v) (p0m := p1m) (p0f := p1f) (sz := _) (o := o_1) (hrun := hc_1)) (cwV 0 hts (gi_V qw1515 qw1235 qw1236 qw1184 (gi_z qw1233)) rfl rfl rfl (by decide +kernel) ⟨Nat.le_of_ble_eq_true rfl, Nat.le_of_ble_eq_true rfl⟩) ⟨PRE.blind, vk_rcv hro_p1 hS, PRE.of (ENV.add hE sq9_m hro_p1) hS hFc hPc hKc hDc⟩ rfl rfl hl.1 rfl (lv_room (Nat.le_of_ble_eq_true rfl)) dL_write_4 ⟨(Nat.le_of_ble_eq_true rfl), (Nat.le_of_ble_eq_true rfl)⟩) hS (fun q _ h => hFc q h) hFc (fun r2 u t H locs ht hvm hw hB hz1 hk1 hS => ?_)
      obtain ⟨b1, b2, b3⟩ := hB
      rw [ht] at b1
      obtain ⟨hP, hD, hK⟩ := JOINC (wc := (List.flatten ([] : List va_W))) (wr := (List.flatten ([(oX11 (p0a 0) p0a p0w), (oX10 (p0a 1) p0_0a p0_0k p0_0w_2 p0_0l)] : List va_W))) (w1 := (List.flatten ([] : List va_W))) (t1 := (List.flatten ([] : List (List (ClassId × FieldType))))) hPx hDx hKx hk1 hFc b1 (va_K.moved hvm.symm b2) b3
      have hP : va_P (dC, dI) cls (List.flatten ([(oX11 (p0a 0) p0a p0w), (oX10 (p0a 1) p0_0a p0_0k p0_0w_2 p0_0l)] : List va_W)) H := vP_perm (vP_fb hP) (bP (List.Perm.refl _))
      have hD : va_D A (List.flatten ([(oX11 (p0a 0) p0a p0w), (oX10 (p0a 1) p0_0a p0_0k p0_0w_2 p0_0l)] : List va_W)) := vD_perm (vD_fb hD) (bP (List.Perm.refl _))
      have hK : va_K (dC, dI) cls (List.flatten ([[], (tX10 p0_0k)] : List (List (ClassId × FieldType)))) s := vK_perm (vK_fb hK) (bP (List.Perm.refl _))
      obtain rfl : o_1 = r2 := hw.symm
      rcases br9 hrun with ⟨hc3, hrun⟩ | ⟨hc3, hrun⟩
      · refine lv_icmp_ge (tgt := 57) hx hb dL_write_7 (by decide) (fun _ => ?_) (fun c => absurd hc3 c)
        obtain rfl := (Option.some.inj hrun)
        exact hk2 _ _ _ hP hD hK hS (lv_sub hl [] rfl)
      · refine lv_icmp_ge (tgt := 57) hx hb dL_write_7 (by decide) (fun c => absurd c hc3) (fun _ => ?_)
        refine lv_aload_n hx hb dL_write_10 rfl (lv_at hl 0 rfl) ?_
        refine lv_aload_n hx hb dL_write_11 rfl (lv_at hl 1 rfl) ?_
        refine lv_iload_n hx hb dL_write_12 rfl (lv_at hl 2 rfl) ?_
        obtain ⟨o_4, hc_4, hrun⟩ := bnd9 hrun
        have hPx : va_P (dC, dI) cls ((List.flatten ([] : List va_W)) ++ (List.flatten ([(oX11 (p0a 0) p0a p0w), (oX10 (p0a 1) p0_0a p0_0k p0_0w_2 p0_0l)] : List va_W))) H := vP_fa (vP_perm hP (bP (List.Perm.refl _)))
        have hDx : va_D A ((List.flatten ([] : List va_W)) ++ (List.flatten ([(oX11 (p0a 0) p0a p0w), (oX10 (p0a 1) p0_0a p0_0k p0_0w_2 p0_0l)] : List va_W))) := vD_fa (vD_perm hD (bP (List.Perm.refl _)))
        have hKx : va_K (dC, dI) cls ((List.flatten ([] : List (List (ClassId × FieldType)))) ++ (List.flatten ([[], (tX10 p0_0k)] : List (List (ClassId × FieldType))))) s := vK_fa (vK_perm hK (bP (List.Perm.refl _)))
        have hPc := vP_l hPx
        have hDc := vD_l hDx
        have hKc := vK_l hKx
        have hFc := vfree hDx hS hA
        refine va_calli (va_runS (As := [.ref p1s, .int v2_2]) (rest := [.ref (p0a 0)]) ⟨hx, hb, hml, hown, hts⟩ (kL_four l dC dI (p0s := p1s) (p0v := p1v) (p0m := p1m) (p0f := p1f) (p1 := v2_2) (sz := _) (o := o_4) (hrun := hc_4)) (va_cwS 2 hts (gi_S qw1521 qw1522 qw1523 (gi_z qw1520)) rfl rfl rfl (by decide +kernel) ⟨Nat.le_of_ble_eq_true rfl, Nat.le_of_ble_eq_true rfl⟩) ⟨PRE.blind, PRE.of (ENV.add hE sq9_m hro_p1) hS hFc hPc hKc hDc⟩ rfl rfl hl.1 rfl (lv_room (Nat.le_of_ble_eq_true rfl)) dL_write_13 ⟨(Nat.le_of_ble_eq_true rfl), (Nat.le_of_ble_eq_true rfl)⟩) hS (fun q _ h => hFc q h) hFc (fun r5 u t H locs ht hvm hw hB hz1 hk1 hS => ?_)
        obtain ⟨b1, b2, b3⟩ := hB
        rw [ht] at b1
        obtain ⟨hP, hD, hK⟩ := JOINC (wc := (List.flatten ([] : List va_W))) (wr := (List.flatten ([(oX11 (p0a 0) p0a p0w), (oX10 (p0a 1) p0_0a p0_0k p0_0w_2 p0_0l)] : List va_W))) (w1 := (List.flatten ([] : List va_W))) (t1 := (List.flatten ([] : List (List (ClassId × FieldType))))) hPx hDx hKx hk1 hFc b1 (va_K.moved hvm.symm b2) b3
        have hP : va_P (dC, dI) cls (List.flatten ([(oX11 (p0a 0) p0a p0w), (oX10 (p0a 1) p0_0a p0_0k p0_0w_2 p0_0l)] : List va_W)) H := vP_perm (vP_fb hP) (bP (List.Perm.refl _))
        have hD : va_D A (List.flatten ([(oX11 (p0a 0) p0a p0w), (oX10 (p0a 1) p0_0a p0_0k p0_0w_2 p0_0l)] : List va_W)) := vD_perm (vD_fb hD) (bP (List.Perm.refl _))
        have hK : va_K (dC, dI) cls (List.flatten ([[], (tX10 p0_0k)] : List (List (ClassId × FieldType)))) s := vK_perm (vK_fb hK) (bP (List.Perm.refl _))
        obtain rfl : o_4 = r5 := hw.symm
        refine lv_aload_n hx hb dL_write_16 rfl (lv_at hl 1 rfl) ?_
        refine lv_iload_n hx hb dL_write_17 rfl (lv_at hl 2 rfl) ?_
        refine lv_iconst (v := 4) hx hb dL_write_18 (by decide) ?_
        refine lv_iadd hx hb dL_write_19 ?_
        obtain ⟨o_6, hc_6, hrun⟩ := bnd9 hrun
        have hPx : va_P (dC, dI) cls ((List.flatten ([] : List va_W)) ++ (List.flatten ([(oX11 (p0a 0) p0a p0w), (oX10 (p0a 1) p0_0a p0_0k p0_0w_2 p0_0l)] : List va_W))) H := vP_fa (vP_perm hP (bP (List.Perm.refl _)))
        have hDx : va_D A ((List.flatten ([] : List va_W)) ++ (List.flatten ([(oX11 (p0a 0) p0a p0w), (oX10 (p0a 1) p0_0a p0_0k p0_0w_2 p0_0l)] : List va_W))) := vD_fa (vD_perm hD (bP (List.Perm.refl _)))
        have hKx : va_K (dC, dI) cls ((List.flatten ([] : List (List (ClassId × FieldType)))) ++ (List.flatten ([[], (tX10 p0_0k)] : List (List (ClassId × FieldType))))) s := vK_fa (vK_perm hK (bP (List.Perm.refl _)))
        have hPc := vP_l hPx
        have hDc := vD_l hDx
        have hKc := vK_l hKx
        have hFc := vfree hDx hS hA
        refine va_calli (va_runS (As := [.ref p1s, .int (v2_2 + 4)]) (rest := [.int o_4, .ref (p0a 0)]) ⟨hx, hb, hml, hown, hts⟩ (kL_four l dC dI (p0s := p1s) (p0v := p1v) (p0m := p1m) (p0f := p1f) (p1 := (v2_2 + 4)) (sz := _) (o := o_6) (hrun := hc_6)) (va_cwS 2 hts (gi_S qw1521 qw1522 qw1523 (gi_z qw1520)) rfl rfl rfl (by decide +kernel) ⟨Nat.le_of_ble_eq_true rfl, Nat.le_of_ble_eq_true rfl⟩) ⟨PRE.blind, PRE.of (ENV.add hE sq9_m hro_p1) hS hFc hPc hKc hDc⟩ rfl rfl hl.1 rfl (lv_room (Nat.le_of_ble_eq_true rfl)) dL_write_20 ⟨(Nat.le_of_ble_eq_true rfl), (Nat.le_of_ble_eq_true rfl)⟩) hS (fun q _ h => hFc q h) hFc (fun r7 u t H locs ht hvm hw hB hz1 hk1 hS => ?_)
        obtain ⟨b1, b2, b3⟩ := hB
        rw [ht] at b1
        obtain ⟨hP, hD, hK⟩ := JOINC (wc := (List.flatten ([] : List va_W))) (wr := (List.flatten ([(oX11 (p0a 0) p0a p0w), (oX10 (p0a 1) p0_0a p0_0k p0_0w_2 p0_0l)] : List va_W))) (w1 := (List.flatten ([] : List va_W))) (t1 := (List.flatten ([] : List (List (ClassId × FieldType))))) hPx hDx hKx hk1 hFc b1 (va_K.moved hvm.symm b2) b3
        have hP : va_P (dC, dI) cls (List.flatten ([(oX11 (p0a 0) p0a p0w), (oX10 (p0a 1) p0_0a p0_0k p0_0w_2 p0_0l)] : List va_W)) H := vP_perm (vP_fb hP) (bP (List.Perm.refl _))
        have hD : va_D A (List.flatten ([(oX11 (p0a 0) p0a p0w), (oX10 (p0a 1) p0_0a p0_0k p0_0w_2 p0_0l)] : List va_W)) := vD_perm (vD_fb hD) (bP (List.Perm.refl _))
        have hK : va_K (dC, dI) cls (List.flatten ([[], (tX10 p0_0k)] : List (List (ClassId × FieldType)))) s := vK_perm (vK_fb hK) (bP (List.Perm.refl _))
        obtain rfl : o_6 = r7 := hw.symm
        refine lv_aload_n hx hb dL_write_23 rfl (lv_at hl 1 rfl) ?_
        refine lv_iload_n hx hb dL_write_24 rfl (lv_at hl 2 rfl) ?_
        refine lv_bipush (v := 8) hx hb dL_write_25 (by decide) ?_
        refine lv_iadd hx hb dL_write_27 ?_
        obtain ⟨o_8, hc_8, hrun⟩ := bnd9 hrun
        have hPx : va_P (dC, dI) cls ((List.flatten ([] : List va_W)) ++ (List.flatten ([(oX11 (p0a 0) p0a p0w), (oX10 (p0a 1) p0_0a p0_0k p0_0w_2 p0_0l)] : List va_W))) H := vP_fa (vP_perm hP (bP (List.Perm.refl _)))
        have hDx : va_D A ((List.flatten ([] : List va_W)) ++ (List.flatten ([(oX11 (p0a 0) p0a p0w), (oX10 (p0a 1) p0_0a p0_0k p0_0w_2 p0_0l)] : List va_W))) := vD_fa (vD_perm hD (bP (List.Perm.refl _)))
        have hKx : va_K (dC, dI) cls ((List.flatten ([] : List (List (ClassId × FieldType)))) ++ (List.flatten ([[], (tX10 p0_0k)] : List (List (ClassId × FieldType))))) s := vK_fa (vK_perm hK (bP (List.Perm.refl _)))
        have hPc := vP_l hPx
        have hDc := vD_l hDx
        have hKc := vK_l hKx
        have hFc := vfree hDx hS hA
        refine va_calli (va_runS (As := [.ref p1s, .int (v2_2 + 8)]) (rest := [.int o_6, .int o_4, .ref (p0a 0)]) ⟨hx, hb, hml, hown, hts⟩ (kL_four l dC dI (p0s := p1s) (p0v := p1v) (p0m := p1m) (p0f := p1f) (p1 := (v2_2 + 8)) (sz := _) (o := o_8) (hrun := hc_8)) (va_cwS 2 hts (gi_S qw1521 qw1522 qw1523 (gi_z qw1520)) rfl rfl rfl (by decide +kernel) ⟨Nat.le_of_ble_eq_true rfl, Nat.le_of_ble_eq_true rfl⟩) ⟨PRE.blind, PRE.of (ENV.add hE sq9_m hro_p1) hS hFc hPc hKc hDc⟩ rfl rfl hl.1 rfl (lv_room (Nat.le_of_ble_eq_true rfl)) dL_write_28 ⟨(Nat.le_of_ble_eq_true rfl), (Nat.le_of_ble_eq_true rfl)⟩) hS (fun q _ h => hFc q h) hFc (fun r9 u t H locs ht hvm hw hB hz1 hk1 hS => ?_)
        obtain ⟨b1, b2, b3⟩ := hB
        rw [ht] at b1
        obtain ⟨hP, hD, hK⟩ := JOINC (wc := (List.flatten ([] : List va_W))) (wr := (List.flatten ([(oX11 (p0a 0) p0a p0w), (oX10 (p0a 1) p0_0a p0_0k p0_0w_2 p0_0l)] : List va_W))) (w1 := (List.flatten ([] : List va_W))) (t1 := (List.flatten ([] : List (List (ClassId × FieldType))))) hPx hDx hKx hk1 hFc b1 (va_K.moved hvm.symm b2) b3
        have hP : va_P (dC, dI) cls (List.flatten ([(oX11 (p0a 0) p0a p0w), (oX10 (p0a 1) p0_0a p0_0k p0_0w_2 p0_0l)] : List va_W)) H := vP_perm (vP_fb hP) (bP (List.Perm.refl _))
        have hD : va_D A (List.flatten ([(oX11 (p0a 0) p0a p0w), (oX10 (p0a 1) p0_0a p0_0k p0_0w_2 p0_0l)] : List va_W)) := vD_perm (vD_fb hD) (bP (List.Perm.refl _))
        have hK : va_K (dC, dI) cls (List.flatten ([[], (tX10 p0_0k)] : List (List (ClassId × FieldType)))) s := vK_perm (vK_fb hK) (bP (List.Perm.refl _))
        obtain rfl : o_8 = r9 := hw.symm
        refine lv_aload_n hx hb dL_write_31 rfl (lv_at hl 1 rfl) ?_
        refine lv_iload_n hx hb dL_write_32 rfl (lv_at hl 2 rfl) ?_
        refine lv_bipush (v := 12) hx hb dL_write_33 (by decide) ?_
        refine lv_iadd hx hb dL_write_35 ?_
        obtain ⟨o_10, hc_10, hrun⟩ := bnd9 hrun
        have hPx : va_P (dC, dI) cls ((List.flatten ([] : List va_W)) ++ (List.flatten ([(oX11 (p0a 0) p0a p0w), (oX10 (p0a 1) p0_0a p0_0k p0_0w_2 p0_0l)] : List va_W))) H := vP_fa (vP_perm hP (bP (List.Perm.refl _)))
        have hDx : va_D A ((List.flatten ([] : List va_W)) ++ (List.flatten ([(oX11 (p0a 0) p0a p0w), (oX10 (p0a 1) p0_0a p0_0k p0_0w_2 p0_0l)] : List va_W))) := vD_fa (vD_perm hD (bP (List.Perm.refl _)))
        have hKx : va_K (dC, dI) cls ((List.flatten ([] : List (List (ClassId × FieldType)))) ++ (List.flatten ([[], (tX10 p0_0k)] : List (List (ClassId × FieldType))))) s := vK_fa (vK_perm hK (bP (List.Perm.refl _)))
        have hPc := vP_l hPx
        have hDc := vD_l hDx
        have hKc := vK_l hKx
        have hFc := vfree hDx hS hA
        refine va_calli (va_runS (As := [.ref p1s, .int (v2_2 + 12)]) (rest := [.int o_8, .int o_6, .int o_4, .ref (p0a 0)]) ⟨hx, hb, hml, hown, hts⟩ (kL_four l dC dI (p0s := p1s) (p0v := p1v) (p0m := p1m) (p0f := p1f) (p1 := (v2_2 + 12)) (sz := _) (o := o_10) (hrun := hc_10)) (va_cwS 2 hts (gi_S qw1521 qw1522 qw1523 (gi_z qw1520)) rfl rfl rfl (by decide +kernel) ⟨Nat.le_of_ble_eq_true rfl, Nat.le_of_ble_eq_true rfl⟩) ⟨PRE.blind, PRE.of (ENV.add hE sq9_m hro_p1) hS hFc hPc hKc hDc⟩ rfl rfl hl.1 rfl (lv_room (Nat.le_of_ble_eq_true rfl)) dL_write_36 ⟨(Nat.le_of_ble_eq_true rfl), (Nat.le_of_ble_eq_true rfl)⟩) hS (fun q _ h => hFc q h) hFc (fun r11 u t H locs ht hvm hw hB hz1 hk1 hS => ?_)
        obtain ⟨b1, b2, b3⟩ := hB
        rw [ht] at b1
        obtain ⟨hP, hD, hK⟩ := JOINC (wc := (List.flatten ([] : List va_W))) (wr := (List.flatten ([(oX11 (p0a 0) p0a p0w), (oX10 (p0a 1) p0_0a p0_0k p0_0w_2 p0_0l)] : List va_W))) (w1 := (List.flatten ([] : List va_W))) (t1 := (List.flatten ([] : List (List (ClassId × FieldType))))) hPx hDx hKx hk1 hFc b1 (va_K.moved hvm.symm b2) b3
        have hP : va_P (dC, dI) cls (List.flatten ([(oX11 (p0a 0) p0a p0w), (oX10 (p0a 1) p0_0a p0_0k p0_0w_2 p0_0l)] : List va_W)) H := vP_perm (vP_fb hP) (bP (List.Perm.refl _))
        have hD : va_D A (List.flatten ([(oX11 (p0a 0) p0a p0w), (oX10 (p0a 1) p0_0a p0_0k p0_0w_2 p0_0l)] : List va_W)) := vD_perm (vD_fb hD) (bP (List.Perm.refl _))
        have hK : va_K (dC, dI) cls (List.flatten ([[], (tX10 p0_0k)] : List (List (ClassId × FieldType)))) s := vK_perm (vK_fb hK) (bP (List.Perm.refl _))
        obtain rfl : o_10 = r11 := hw.symm
        refine lv_aload_n hx hb dL_write_39 rfl (lv_at hl 1 rfl) ?_
        refine lv_iload_n hx hb dL_write_40 rfl (lv_at hl 2 rfl) ?_
        refine lv_bipush (v := 16) hx hb dL_write_41 (by decide) ?_
        refine lv_iadd hx hb dL_write_43 ?_
        obtain ⟨o_12, hc_12, hrun⟩ := bnd9 hrun
        have hPx : va_P (dC, dI) cls ((List.flatten ([] : List va_W)) ++ (List.flatten ([(oX11 (p0a 0) p0a p0w), (oX10 (p0a 1) p0_0a p0_0k p0_0w_2 p0_0l)] : List va_W))) H := vP_fa (vP_perm hP (bP (List.Perm.refl _)))
        have hDx : va_D A ((List.flatten ([] : List va_W)) ++ (List.flatten ([(oX11 (p0a 0) p0a p0w), (oX10 (p0a 1) p0_0a p0_0k p0_0w_2 p0_0l)] : List va_W))) := vD_fa (vD_perm hD (bP (List.Perm.refl _)))
        have hKx : va_K (dC, dI) cls ((List.flatten ([] : List (List (ClassId × FieldType)))) ++ (List.flatten ([[], (tX10 p0_0k)] : List (List (ClassId × FieldType))))) s := vK_fa (vK_perm hK (bP (List.Perm.refl _)))
        have hPc := vP_l hPx
        have hDc := vD_l hDx
        have hKc := vK_l hKx
        have hFc := vfree hDx hS hA
        refine va_calli (va_runS (As := [.ref p1s, .int (v2_2 + 16)]) (rest := [.int o_10, .int o_8, .int o_6, .int o_4, .ref (p0a 0)]) ⟨hx, hb, hml, hown, hts⟩ (kL_four l dC dI (p0s := p1s) (p0v := p1v) (p0m := p1m) (p0f := p1f) (p1 := (v2_2 + 16)) (sz := _) (o := o_12) (hrun := hc_12)) (va_cwS 2 hts (gi_S qw1521 qw1522 qw1523 (gi_z qw1520)) rfl rfl rfl (by decide +kernel) ⟨Nat.le_of_ble_eq_true rfl, Nat.le_of_ble_eq_true rfl⟩) ⟨PRE.blind, PRE.of (ENV.add hE sq9_m hro_p1) hS hFc hPc hKc hDc⟩ rfl rfl hl.1 rfl (lv_room (Nat.le_of_ble_eq_true rfl)) dL_write_44 ⟨(Nat.le_of_ble_eq_true rfl), (Nat.le_of_ble_eq_true rfl)⟩) hS (fun q _ h => hFc q h) hFc (fun r13 u t H locs ht hvm hw hB hz1 hk1 hS => ?_)
        obtain ⟨b1, b2, b3⟩ := hB
        rw [ht] at b1
        obtain ⟨hP, hD, hK⟩ := JOINC (wc := (List.flatten ([] : List va_W))) (wr := (List.flatten ([(oX11 (p0a 0) p0a p0w), (oX10 (p0a 1) p0_0a p0_0k p0_0w_2 p0_0l)] : List va_W))) (w1 := (List.flatten ([] : List va_W))) (t1 := (List.flatten ([] : List (List (ClassId × FieldType))))) hPx hDx hKx hk1 hFc b1 (va_K.moved hvm.symm b2) b3
        have hP : va_P (dC, dI) cls (List.flatten ([(oX11 (p0a 0) p0a p0w), (oX10 (p0a 1) p0_0a p0_0k p0_0w_2 p0_0l)] : List va_W)) H := vP_perm (vP_fb hP) (bP (List.Perm.refl _))
        have hD : va_D A (List.flatten ([(oX11 (p0a 0) p0a p0w), (oX10 (p0a 1) p0_0a p0_0k p0_0w_2 p0_0l)] : List va_W)) := vD_perm (vD_fb hD) (bP (List.Perm.refl _))
        have hK : va_K (dC, dI) cls (List.flatten ([[], (tX10 p0_0k)] : List (List (ClassId × FieldType)))) s := vK_perm (vK_fb hK) (bP (List.Perm.refl _))
        obtain rfl : o_12 = r13 := hw.symm
        obtain ⟨o_14, hc_14, hrun⟩ := bnd9 hrun
        have hPx : va_P (dC, dI) cls ((List.flatten ([(oX11 (p0a 0) p0a p0w), (oX10 (p0a 1) p0_0a p0_0k p0_0w_2 p0_0l)] : List va_W)) ++ (List.flatten ([] : List va_W))) H := vP_fa (vP_perm hP (bP (List.Perm.refl _)))
        have hDx : va_D A ((List.flatten ([(oX11 (p0a 0) p0a p0w), (oX10 (p0a 1) p0_0a p0_0k p0_0w_2 p0_0l)] : List va_W)) ++ (List.flatten ([] : List va_W))) := vD_fa (vD_perm hD (bP (List.Perm.refl _)))
        have hKx : va_K (dC, dI) cls ((List.flatten ([[], (tX10 p0_0k)] : List (List (ClassId × FieldType)))) ++ (List.flatten ([] : List (List (ClassId × FieldType))))) s := vK_fa (vK_perm hK (bP (List.Perm.refl _)))
        have hPc := vP_l hPx
        have hDc := vD_l hDx
        have hKc := vK_l hKx
        have hFc := vfree hDx hS hA
        refine va_calli (va_runV (As := [.int o_4, .int o_6, .int o_8, .int o_10, .int o_12]) (rest := []) ⟨hx, hb, hml, hown, hts⟩ (kX11_feed l dC dI (p0a := p0a) (p0w := p0w) (p1 := o_4) (p2 := o_6) (p3 := o_8) (p4 := o_10) (p5 := o_12) (p0_0a := p0_0a) (p0_0k := p0_0k) (p0_0w := p0_0w_2) (p0_0l := p0_0l) (sz := _) (o := o_14) (hrun := hc_14)) (cwV 5 hts (gi_V qw1525 qw1526 qw1527 qw129 (gi_z qw1524)) rfl rfl rfl (by decide +kernel) ⟨Nat.le_of_ble_eq_true rfl, Nat.le_of_ble_eq_true rfl⟩) ⟨PRE.blind, va_recv hKc hPc (ci := 11) (q0 := 0) rfl rfl, PRE.of hE hS hFc hPc hKc hDc⟩ rfl rfl hl.1 rfl (lv_room (Nat.le_of_ble_eq_true rfl)) dL_write_47 ⟨(Nat.le_of_ble_eq_true rfl), (Nat.le_of_ble_eq_true rfl)⟩) hS (fun q _ h => hFc q h) hFc (fun r15 u t H locs ht hvm hw hB hz1 hk1 hS => ?_)
        obtain ⟨b1, b2, b3⟩ := hB
        rw [ht] at b1
        obtain ⟨hP, hD, hK⟩ := JOINC (wc := (List.flatten ([(oX11 (p0a 0) p0a p0w), (oX10 (p0a 1) p0_0a p0_0k p0_0w_2 p0_0l)] : List va_W))) (wr := (List.flatten ([] : List va_W))) (w1 := (List.flatten ([(oX11 (p0a 0) p0a p0w), (oX10 (p0a 1) p0_0a p0_0k (o_14.2) p0_0l)] : List va_W))) (t1 := (List.flatten ([[], (tX10 p0_0k)] : List (List (ClassId × FieldType))))) hPx hDx hKx hk1 hFc b1 (va_K.moved hvm.symm b2) b3
        have hP : va_P (dC, dI) cls (List.flatten ([(oX11 (p0a 0) p0a p0w), (oX10 (p0a 1) p0_0a p0_0k (o_14.2) p0_0l)] : List va_W)) H := vP_perm (vP_fb hP) (bP (List.Perm.refl _))
        have hD : va_D A (List.flatten ([(oX11 (p0a 0) p0a p0w), (oX10 (p0a 1) p0_0a p0_0k (o_14.2) p0_0l)] : List va_W)) := vD_perm (vD_fb hD) (bP (List.Perm.refl _))
        have hK : va_K (dC, dI) cls (List.flatten ([[], (tX10 p0_0k)] : List (List (ClassId × FieldType)))) s := vK_perm (vK_fb hK) (bP (List.Perm.refl _))
        obtain rfl : r15 = (o_14.1) := hw
        refine lv_pop hx hb dL_write_50 rfl ?_
        refine lv_iinc (v := (v2_2 + 20)) (lv' := [(2, .int (v2_2 + 20)), (0, .ref (p0a 0)), (1, .ref p1s)]) hx hb dL_write_51 hl (k := 2) rfl rfl (by decide) rfl (fun ls hl => ?_)
        refine lv_goto (tgt := 2) hx hb dL_write_54 (by decide) ?_
        exact IH2 (v2_2 + 20) (o_14.2) o2 _ _ _ hrun hP hD hK hS (lv_sub hl [1, 2, 0] rfl) hk2
  obtain ⟨o2, hc2, hrun⟩ := bnd9 hrun
  refine L2 NF 0 p0_0w o2 _ _ _ hc2 hP hD hK hS (lv_sub hl [1, 2, 0] rfl) ?_
  intro H locs ls hP hD hK hS hl
  have hl := hl
  have ho9 : o2 = o := Option.some.inj hrun
  have hP9 : va_P (dC, dI) cls (List.flatten ([(oX11 (p0a 0) p0a p0w), (oX10 (p0a 1) p0_0a p0_0k o p0_0l)] : List va_W)) H := by first | exact hP | (rw [← ho9]; exact hP)
  have hD9 : va_D A (List.flatten ([(oX11 (p0a 0) p0a p0w), (oX10 (p0a 1) p0_0a p0_0k o p0_0l)] : List va_W)) := by first | exact hD | (rw [← ho9]; exact hD)
  subst hQ
  exact W.vret hx hb hr (fun t ht hW => ⟨⟨(), rfl, trivial, ⟨by rw [ht]; exact hP9, va_K.moved hW.alike hK, hD9⟩⟩, hS.F ht⟩) hS.2.2 dL_write_57
def fL_isCodeRight_J353 (kk9 : Int32 → Option (Sum Int32 Unit)) (v4_9 : Int32) : Option (Sum Int32 Unit) := (kk9 (v4_9 + 1))
def fL_isCodeRight_J335 (kk9 : Int32 → Option (Sum Int32 Unit)) (p0_8w : ST) (v4_9 : Int32) (o_4 : Int32) (o_8 : Int32) : Option (Sum Int32 Unit) := (if o_4 = 20 then ((fX11_functions p0_8w).bind fun (o_19 : Int32) => (if o_8 < o_19 then (fL_isCodeRight_J353 kk9 v4_9) else some (Sum.inl 0))) else (fL_isCodeRight_J353 kk9 v4_9))
def fL_isCodeRight_J308 (kk9 : Int32 → Option (Sum Int32 Unit)) (p0_8w : ST) (o_1 : Int32) (v4_9 : Int32) (o_4 : Int32) (o_6 : Int32) (o_8 : Int32) (y0_308 : Int32) : Option (Sum Int32 Unit) := (if y0_308 < 0 then some (Sum.inl 0) else (if o_1 ≤ y0_308 then some (Sum.inl 0) else (if o_4 = 25 then (if o_6 = o_8 then some (Sum.inl 0) else (fL_isCodeRight_J335 kk9 p0_8w v4_9 o_4 o_8)) else (fL_isCodeRight_J335 kk9 p0_8w v4_9 o_4 o_8))))
def fL_isCodeRight_J302 (kk9 : Int32 → Option (Sum Int32 Unit)) (p0_8w : ST) (o_1 : Int32) (v4_9 : Int32) (o_4 : Int32) (o_6 : Int32) (o_8 : Int32) (o_10 : Int32) : Option (Sum Int32 Unit) := (fL_isCodeRight_J308 kk9 p0_8w o_1 v4_9 o_4 o_6 o_8 o_10)
def fL_isCodeRight_J276 (kk9 : Int32 → Option (Sum Int32 Unit)) (p0_8w : ST) (o_1 : Int32) (v4_9 : Int32) (o_4 : Int32) (o_6 : Int32) (o_8 : Int32) (o_10 : Int32) : Option (Sum Int32 Unit) := (if o_4 = 22 then (fL_isCodeRight_J308 kk9 p0_8w o_1 v4_9 o_4 o_6 o_8 o_8) else (if o_4 = 23 then (fL_isCodeRight_J302 kk9 p0_8w o_1 v4_9 o_4 o_6 o_8 o_10) else (if o_4 = 28 then (fL_isCodeRight_J302 kk9 p0_8w o_1 v4_9 o_4 o_6 o_8 o_10) else (fL_isCodeRight_J308 kk9 p0_8w o_1 v4_9 o_4 o_6 o_8 0))))
def fL_isCodeRight_J263 (kk9 : Int32 → Option (Sum Int32 Unit)) (p2 : Int32) (p0_8w : ST) (o_1 : Int32) (v4_9 : Int32) (o_4 : Int32) (o_6 : Int32) (o_8 : Int32) (o_10 : Int32) : Option (Sum Int32 Unit) := (if o_10 < 0 then some (Sum.inl 0) else (if o_10 < p2 then (fL_isCodeRight_J276 kk9 p0_8w o_1 v4_9 o_4 o_6 o_8 o_10) else some (Sum.inl 0)))
def fL_isCodeRight_J256 (kk9 : Int32 → Option (Sum Int32 Unit)) (p2 : Int32) (p0_8w : ST) (o_1 : Int32) (v4_9 : Int32) (o_4 : Int32) (o_6 : Int32) (o_8 : Int32) (o_10 : Int32) : Option (Sum Int32 Unit) := (if o_4 = 18 then (fL_isCodeRight_J263 kk9 p2 p0_8w o_1 v4_9 o_4 o_6 o_8 o_10) else (fL_isCodeRight_J276 kk9 p0_8w o_1 v4_9 o_4 o_6 o_8 o_10))
def fL_isCodeRight_J244 (kk9 : Int32 → Option (Sum Int32 Unit)) (p2 : Int32) (p0_8w : ST) (o_1 : Int32) (v4_9 : Int32) (o_4 : Int32) (o_6 : Int32) (o_8 : Int32) (o_10 : Int32) : Option (Sum Int32 Unit) := (if o_4 ≤ 0 then (fL_isCodeRight_J256 kk9 p2 p0_8w o_1 v4_9 o_4 o_6 o_8 o_10) else (if o_4 < 17 then (fL_isCodeRight_J263 kk9 p2 p0_8w o_1 v4_9 o_4 o_6 o_8 o_10) else (fL_isCodeRight_J256 kk9 p2 p0_8w o_1 v4_9 o_4 o_6 o_8 o_10)))
def fL_isCodeRight_J220 (kk9 : Int32 → Option (Sum Int32 Unit)) (p1 : Int32) (p2 : Int32) (p0_8w : ST) (p0_5w : ST) (o_1 : Int32) (v4_9 : Int32) (o_4 : Int32) (o_6 : Int32) (o_8 : Int32) (o_10 : Int32) : Option (Sum Int32 Unit) := (if o_4 = 27 then (if o_10 < 0 then some (Sum.inl 0) else ((fX11_slots p1 p0_8w p0_5w).bind fun (o_34 : Int32) => (if o_10 < o_34 then (fL_isCodeRight_J244 kk9 p2 p0_8w o_1 v4_9 o_4 o_6 o_8 o_10) else some (Sum.inl 0)))) else (fL_isCodeRight_J244 kk9 p2 p0_8w o_1 v4_9 o_4 o_6 o_8 o_10))
def fL_isCodeRight_J198 (kk9 : Int32 → Option (Sum Int32 Unit)) (p1 : Int32) (p2 : Int32) (p0_8w : ST) (p0_5w : ST) (o_1 : Int32) (v4_9 : Int32) (o_4 : Int32) (o_6 : Int32) (o_8 : Int32) (o_10 : Int32) : Option (Sum Int32 Unit) := (if o_4 = 26 then (if o_8 < 0 then some (Sum.inl 0) else ((fX11_slots p1 p0_8w p0_5w).bind fun (o_39 : Int32) => (if o_39 ≤ o_8 then some (Sum.inl 0) else (fL_isCodeRight_J220 kk9 p1 p2 p0_8w p0_5w o_1 v4_9 o_4 o_6 o_8 o_10)))) else (fL_isCodeRight_J220 kk9 p1 p2 p0_8w p0_5w o_1 v4_9 o_4 o_6 o_8 o_10))
def fL_isCodeRight_J180 (kk9 : Int32 → Option (Sum Int32 Unit)) (p1 : Int32) (p2 : Int32) (p0_8w : ST) (p0_5w : ST) (o_1 : Int32) (v4_9 : Int32) (o_4 : Int32) (o_6 : Int32) (o_8 : Int32) (o_10 : Int32) (y0_180 : Int32) : Option (Sum Int32 Unit) := (if y0_180 = 0 then (fL_isCodeRight_J198 kk9 p1 p2 p0_8w p0_5w o_1 v4_9 o_4 o_6 o_8 o_10) else (if o_8 < 0 then some (Sum.inl 0) else (if p2 ≤ o_8 then some (Sum.inl 0) else (fL_isCodeRight_J198 kk9 p1 p2 p0_8w p0_5w o_1 v4_9 o_4 o_6 o_8 o_10))))
def fL_isCodeRight_J175 (kk9 : Int32 → Option (Sum Int32 Unit)) (p1 : Int32) (p2 : Int32) (p0_8w : ST) (p0_5w : ST) (o_1 : Int32) (v4_9 : Int32) (o_4 : Int32) (o_6 : Int32) (o_8 : Int32) (o_10 : Int32) : Option (Sum Int32 Unit) := (fL_isCodeRight_J180 kk9 p1 p2 p0_8w p0_5w o_1 v4_9 o_4 o_6 o_8 o_10 1)
def fL_isCodeRight_J140 (kk9 : Int32 → Option (Sum Int32 Unit)) (p1 : Int32) (p2 : Int32) (p0_8w : ST) (p0_5w : ST) (o_1 : Int32) (v4_9 : Int32) (o_4 : Int32) (o_6 : Int32) (o_8 : Int32) (o_10 : Int32) : Option (Sum Int32 Unit) := (if o_4 = 23 then (fL_isCodeRight_J175 kk9 p1 p2 p0_8w p0_5w o_1 v4_9 o_4 o_6 o_8 o_10) else (if o_4 = 24 then (fL_isCodeRight_J175 kk9 p1 p2 p0_8w p0_5w o_1 v4_9 o_4 o_6 o_8 o_10) else (if o_4 = 25 then (fL_isCodeRight_J175 kk9 p1 p2 p0_8w p0_5w o_1 v4_9 o_4 o_6 o_8 o_10) else (if o_4 = 27 then (fL_isCodeRight_J175 kk9 p1 p2 p0_8w p0_5w o_1 v4_9 o_4 o_6 o_8 o_10) else (if o_4 = 28 then (fL_isCodeRight_J175 kk9 p1 p2 p0_8w p0_5w o_1 v4_9 o_4 o_6 o_8 o_10) else (fL_isCodeRight_J180 kk9 p1 p2 p0_8w p0_5w o_1 v4_9 o_4 o_6 o_8 o_10 0))))))
def fL_isCodeRight_J117 (kk9 : Int32 → Option (Sum Int32 Unit)) (p1 : Int32) (p2 : Int32) (p0_8w : ST) (p0_5w : ST) (o_1 : Int32) (v4_9 : Int32) (o_4 : Int32) (o_6 : Int32) (o_8 : Int32) (o_10 : Int32) (y0_117 : Int32) (y1_117 : Int32) : Option (Sum Int32 Unit) := (if y1_117 = y0_117 then (if o_6 < p2 then (if o_4 ≤ 0 then (fL_isCodeRight_J140 kk9 p1 p2 p0_8w p0_5w o_1 v4_9 o_4 o_6 o_8 o_10) else (if o_4 < 20 then (fL_isCodeRight_J175 kk9 p1 p2 p0_8w p0_5w o_1 v4_9 o_4 o_6 o_8 o_10) else (fL_isCodeRight_J140 kk9 p1 p2 p0_8w p0_5w o_1 v4_9 o_4 o_6 o_8 o_10))) else some (Sum.inl 0)) else some (Sum.inl 0))
def fL_isCodeRight_J91 (kk9 : Int32 → Option (Sum Int32 Unit)) (p1 : Int32) (p2 : Int32) (p0_8w : ST) (p0_5w : ST) (o_1 : Int32) (v4_9 : Int32) (o_4 : Int32) (o_6 : Int32) (o_8 : Int32) (o_10 : Int32) (y0_91 : Int32) : Option (Sum Int32 Unit) := (if o_4 < 0 then some (Sum.inl 0) else (if 28 < o_4 then some (Sum.inl 0) else (if o_6 < 0 then (fL_isCodeRight_J117 kk9 p1 p2 p0_8w p0_5w o_1 v4_9 o_4 o_6 o_8 o_10 0 y0_91) else (fL_isCodeRight_J117 kk9 p1 p2 p0_8w p0_5w o_1 v4_9 o_4 o_6 o_8 o_10 1 y0_91))))
def fL_isCodeRight_J86 (kk9 : Int32 → Option (Sum Int32 Unit)) (p1 : Int32) (p2 : Int32) (p0_8w : ST) (p0_5w : ST) (o_1 : Int32) (v4_9 : Int32) (o_4 : Int32) (o_6 : Int32) (o_8 : Int32) (o_10 : Int32) : Option (Sum Int32 Unit) := (fL_isCodeRight_J91 kk9 p1 p2 p0_8w p0_5w o_1 v4_9 o_4 o_6 o_8 o_10 1)
def fL_isCodeRight_L9 (p1 : Int32) (p2 : Int32) (p0_8w : ST) (p0_5w : ST) (p0_5_1n : Nat → Nat → Nat) (p0_5_1w : Nat → ST) (o_1 : Int32) : Nat → Int32 → Option (Sum Int32 Unit)
  | 0 => fun _ => none
  | n_9 + 1 => fun v4_9 => (if o_1 ≤ v4_9 then some (Sum.inr ()) else ((fX11_codeKind p1 v4_9 p0_8w p0_5w p0_5_1n p0_5_1w).bind fun (o_4 : Int32) => ((fX11_codeGives p1 v4_9 p0_8w p0_5w p0_5_1n p0_5_1w).bind fun (o_6 : Int32) => ((fX11_codeLeft p1 v4_9 p0_8w p0_5w p0_5_1n p0_5_1w).bind fun (o_8 : Int32) => ((fX11_codeRight p1 v4_9 p0_8w p0_5w p0_5_1n p0_5_1w).bind fun (o_10 : Int32) => (if o_4 < 18 then (fL_isCodeRight_J86 (fL_isCodeRight_L9 p1 p2 p0_8w p0_5w p0_5_1n p0_5_1w o_1 n_9) p1 p2 p0_8w p0_5w o_1 v4_9 o_4 o_6 o_8 o_10) else (if o_4 = 20 then (fL_isCodeRight_J86 (fL_isCodeRight_L9 p1 p2 p0_8w p0_5w p0_5_1n p0_5_1w o_1 n_9) p1 p2 p0_8w p0_5w o_1 v4_9 o_4 o_6 o_8 o_10) else (if o_4 = 21 then (fL_isCodeRight_J86 (fL_isCodeRight_L9 p1 p2 p0_8w p0_5w p0_5_1n p0_5_1w o_1 n_9) p1 p2 p0_8w p0_5w o_1 v4_9 o_4 o_6 o_8 o_10) else (if o_4 = 25 then (fL_isCodeRight_J86 (fL_isCodeRight_L9 p1 p2 p0_8w p0_5w p0_5_1n p0_5_1w o_1 n_9) p1 p2 p0_8w p0_5w o_1 v4_9 o_4 o_6 o_8 o_10) else (if o_4 = 26 then (fL_isCodeRight_J86 (fL_isCodeRight_L9 p1 p2 p0_8w p0_5w p0_5_1n p0_5_1w o_1 n_9) p1 p2 p0_8w p0_5w o_1 v4_9 o_4 o_6 o_8 o_10) else (fL_isCodeRight_J91 (fL_isCodeRight_L9 p1 p2 p0_8w p0_5w p0_5_1n p0_5_1w o_1 n_9) p1 p2 p0_8w p0_5w o_1 v4_9 o_4 o_6 o_8 o_10 0)))))))))))
def fL_isCodeRight_J394 (y0_394 : Int32) : Option Int32 := (if y0_394 = 0 ∨ y0_394 = 1 then some y0_394 else none)
def fL_isCodeRight_J389  : Option Int32 := (fL_isCodeRight_J394 1)
def fL_isCodeRight (p1 : Int32) (p2 : Int32) (p0_8w : ST) (p0_5w : ST) (p0_5_1n : Nat → Nat → Nat) (p0_5_1w : Nat → ST) : Option Int32 := ((fX11_lines p1 p0_8w p0_5w p0_5_1w).bind fun (o_1 : Int32) => ((fL_isCodeRight_L9 p1 p2 p0_8w p0_5w p0_5_1n p0_5_1w o_1 NF 0).bind fun (o9 : (Sum Int32 Unit)) => Sum.elim (fun r => some r) (fun (t9 : Unit) => (if o_1 = 0 then (fL_isCodeRight_J389) else ((fX11_codeKind p1 (o_1 - 1) p0_8w p0_5w p0_5_1n p0_5_1w).bind fun (o_59 : Int32) => (if o_59 = 24 then (fL_isCodeRight_J389) else ((fX11_codeKind p1 (o_1 - 1) p0_8w p0_5w p0_5_1n p0_5_1w).bind fun (o_62 : Int32) => (if o_62 = 22 then (fL_isCodeRight_J389) else (fL_isCodeRight_J394 0))))))) o9))
set_option maxHeartbeats 16000000 in
set_option maxRecDepth 100000 in
theorem kL_isCodeRight {zs : ZS} (l : Launch) (dC : Nat → ClassId) (dI : Nat → Nat → Nat) (p0a : Nat → Nat) (p0w : ST) (p1 : Int32) (p2 : Int32) (p0_8a : Nat → Nat) (p0_8k : Nat → ClassId) (p0_8w : ST) (p0_8l : SL) (p0_5a : Nat → Nat) (p0_5k : Nat → ClassId) (p0_5n : Nat → Nat) (p0_5w : ST) (p0_5_1c : ClassId) (p0_5_1a : Nat → Nat → Nat) (p0_5_1k : Nat → Nat → ClassId) (p0_5_1n : Nat → Nat → Nat) (p0_5_1w : Nat → ST) (sz : Nat) (o : Int32) (hrun : fL_isCodeRight p1 p2 p0_8w p0_5w p0_5_1n p0_5_1w = some o) : Met l yL_isCodeRight (wz yL_isCodeRight cL_isCodeRight 12 (Option.some Jvm.ClassFile.FieldType.boolean)) ({ frames := 3, cells := 0, slots := 0, locals := 66 } : Room) (va_Pc [.ref (p0a 0), .int p1, .int p2] (PRE zs dC dI (List.flatten ([(oX11 (p0a 0) p0a p0w), (oX6 (p0a 9) p0_8a p0_8k p0_8w p0_8l), (oX0 (p0a 6) p0_5a p0_5k p0_5n p0_5w), (oX9 (p0_5_1a 0 0) (p0_5_1a 0) (p0_5_1k 0) (p0_5_1n 0) (p0_5_1w 0)), (oX9 (p0_5_1a 1 0) (p0_5_1a 1) (p0_5_1k 1) (p0_5_1n 1) (p0_5_1w 1)), (oX9 (p0_5_1a 2 0) (p0_5_1a 2) (p0_5_1k 2) (p0_5_1n 2) (p0_5_1w 2)), (oX9 (p0_5_1a 3 0) (p0_5_1a 3) (p0_5_1k 3) (p0_5_1n 3) (p0_5_1w 3)), (oX9 (p0_5_1a 4 0) (p0_5_1a 4) (p0_5_1k 4) (p0_5_1n 4) (p0_5_1w 4)), (oX9 (p0_5_1a 5 0) (p0_5_1a 5) (p0_5_1k 5) (p0_5_1n 5) (p0_5_1w 5)), [((p0_5a 2), .inl (p0_5_1c, 6, .inr (.inr (.inr (.inr (fun i => some (p0_5_1a i 0)))))))]] : List va_W)) (List.flatten ([[], (tX6 p0_8k), (tX0 p0_5k), (tX9 (p0_5_1k 0)), (tX9 (p0_5_1k 1)), (tX9 (p0_5_1k 2)), (tX9 (p0_5_1k 3)), (tX9 (p0_5_1k 4)), (tX9 (p0_5_1k 5)), [(p0_5_1c, .object RX9)]] : List (List (ClassId × FieldType)))) sz)) (va_Qi (fun (r : Int32) (_ : Unit) => r = o) (fun _ t => POST dC dI (List.flatten ([(oX11 (p0a 0) p0a p0w), (oX6 (p0a 9) p0_8a p0_8k p0_8w p0_8l), (oX0 (p0a 6) p0_5a p0_5k p0_5n p0_5w), (oX9 (p0_5_1a 0 0) (p0_5_1a 0) (p0_5_1k 0) (p0_5_1n 0) (p0_5_1w 0)), (oX9 (p0_5_1a 1 0) (p0_5_1a 1) (p0_5_1k 1) (p0_5_1n 1) (p0_5_1w 1)), (oX9 (p0_5_1a 2 0) (p0_5_1a 2) (p0_5_1k 2) (p0_5_1n 2) (p0_5_1w 2)), (oX9 (p0_5_1a 3 0) (p0_5_1a 3) (p0_5_1k 3) (p0_5_1n 3) (p0_5_1w 3)), (oX9 (p0_5_1a 4 0) (p0_5_1a 4) (p0_5_1k 4) (p0_5_1n 4) (p0_5_1w 4)), (oX9 (p0_5_1a 5 0) (p0_5_1a 5) (p0_5_1k 5) (p0_5_1n 5) (p0_5_1w 5)), [((p0_5a 2), .inl (p0_5_1c, 6, .inr (.inr (.inr (.inr (fun i => some (p0_5_1a i 0)))))))]] : List va_W)) (List.flatten ([[], (tX6 p0_8k), (tX0 p0_5k), (tX9 (p0_5_1k 0)), (tX9 (p0_5_1k 1)), (tX9 (p0_5_1k 2)), (tX9 (p0_5_1k 3)), (tX9 (p0_5_1k 4)), (tX9 (p0_5_1k 5)), [(p0_5_1c, .object RX9)]] : List (List (ClassId × FieldType)))) (va_A (List.flatten ([(oX11 (p0a 0) p0a p0w), (oX6 (p0a 9) p0_8a p0_8k p0_8w p0_8l), (oX0 (p0a 6) p0_5a p0_5k p0_5n p0_5w), (oX9 (p0_5_1a 0 0) (p0_5_1a 0) (p0_5_1k 0) (p0_5_1n 0) (p0_5_1w 0)), (oX9 (p0_5_1a 1 0) (p0_5_1a 1) (p0_5_1k 1) (p0_5_1n 1) (p0_5_1w 1)), (oX9 (p0_5_1a 2 0) (p0_5_1a 2) (p0_5_1k 2) (p0_5_1n 2) (p0_5_1w 2)), (oX9 (p0_5_1a 3 0) (p0_5_1a 3) (p0_5_1k 3) (p0_5_1n 3) (p0_5_1w 3)), (oX9 (p0_5_1a 4 0) (p0_5_1a 4) (p0_5_1k 4) (p0_5_1n 4) (p0_5_1w 4)), (oX9 (p0_5_1a 5 0) (p0_5_1a 5) (p0_5_1k 5) (p0_5_1n 5) (p0_5_1w 5)), [((p0_5a 2), .inl (p0_5_1c, 6, .inr (.inr (.inr (.inr (fun i => some (p0_5_1a i 0)))))))]] : List va_W)) sz) t) (va_A (List.flatten ([(oX11 (p0a 0) p0a p0w), (oX6 (p0a 9) p0_8a p0_8k p0_8w p0_8l), (oX0 (p0a 6) p0_5a p0_5k p0_5n p0_5w), (oX9 (p0_5_1a 0 0) (p0_5_1a 0) (p0_5_1k 0) (p0_5_1n 0) (p0_5_1w 0)), (oX9 (p0_5_1a 1 0) (p0_5_1a 1) (p0_5_1k 1) (p0_5_1n 1) (p0_5_1w 1)), (oX9 (p0_5_1a 2 0) (p0_5_1a 2) (p0_5_1k 2) (p0_5_1n 2) (p0_5_1w 2)), (oX9 (p0_5_1a 3 0) (p0_5_1a 3) (p0_5_1k 3) (p0_5_1n 3) (p0_5_1w 3)), (oX9 (p0_5_1a 4 0) (p0_5_1a 4) (p0_5_1k 4) (p0_5_1n 4) (p0_5_1w 4)), (oX9 (p0_5_1a 5 0) (p0_5_1a 5) (p0_5_1k 5) (p0_5_1n 5) (p0_5_1w 5)), [((p0_5a 2), .inl (p0_5_1c, 6, .inr (.inr (.inr (.inr (fun i => some (p0_5_1a i 0)))))))]] : List va_W)) sz)) 0 0 (va_A (List.flatten ([(oX11 (p0a 0) p0a p0w), (oX6 (p0a 9) p0_8a p0_8k p0_8w p0_8l), (oX0 (p0a 6) p0_5a p0_5k p0_5n p0_5w), (oX9 (p0_5_1a 0 0) (p0_5_1a 0) (p0_5_1k 0) (p0_5_1n 0) (p0_5_1w 0)), (oX9 (p0_5_1a 1 0) (p0_5_1a 1) (p0_5_1k 1) (p0_5_1n 1) (p0_5_1w 1)), (oX9 (p0_5_1a 2 0) (p0_5_1a 2) (p0_5_1k 2) (p0_5_1n 2) (p0_5_1w 2)), (oX9 (p0_5_1a 3 0) (p0_5_1a 3) (p0_5_1k 3) (p0_5_1n 3) (p0_5_1w 3)), (oX9 (p0_5_1a 4 0) (p0_5_1a 4) (p0_5_1k 4) (p0_5_1n 4) (p0_5_1w 4)), (oX9 (p0_5_1a 5 0) (p0_5_1a 5) (p0_5_1k 5) (p0_5_1n 5) (p0_5_1w 5)), [((p0_5a 2), .inl (p0_5_1c, 6, .inr (.inr (.inr (.inr (fun i => some (p0_5_1a i 0)))))))]] : List va_W)) sz) := by
  refine Met.ofW (cc := cL_isCodeRight) (maxL := 12) (ret := (Option.some Jvm.ClassFile.FieldType.boolean)) (by decide) rfl ?_
  intro p e s m args below meth c s₁ B hml hv
  obtain ⟨rfl, hsz, hP, hK, hD0, hE⟩ := hv
  have hx := B.exec
  have hb := B.bytes
  have hr := B.returns
  have hts0 := atoms_spec (ws := wz yL_isCodeRight cL_isCodeRight 12 (Option.some Jvm.ClassFile.FieldType.boolean)) B.pre
  have hts : ∀ w ∈ gw, w.before _ s = true := fun w h => hts0 w (List.mem_cons_of_mem _ h)
  have hown : s.vm.findClass RLW = some m.cls := findClass_of_methodNamed B.named
  have hlocks := B.notSynchronized
  subst hsz
  have hD := hD0.self (sz := s.heap.size)
  refine gQ9 ?_
  intro Q hQ
  generalize hAe : va_A (List.flatten ([(oX11 (p0a 0) p0a p0w), (oX6 (p0a 9) p0_8a p0_8k p0_8w p0_8l), (oX0 (p0a 6) p0_5a p0_5k p0_5n p0_5w), (oX9 (p0_5_1a 0 0) (p0_5_1a 0) (p0_5_1k 0) (p0_5_1n 0) (p0_5_1w 0)), (oX9 (p0_5_1a 1 0) (p0_5_1a 1) (p0_5_1k 1) (p0_5_1n 1) (p0_5_1w 1)), (oX9 (p0_5_1a 2 0) (p0_5_1a 2) (p0_5_1k 2) (p0_5_1n 2) (p0_5_1w 2)), (oX9 (p0_5_1a 3 0) (p0_5_1a 3) (p0_5_1k 3) (p0_5_1n 3) (p0_5_1w 3)), (oX9 (p0_5_1a 4 0) (p0_5_1a 4) (p0_5_1k 4) (p0_5_1n 4) (p0_5_1w 4)), (oX9 (p0_5_1a 5 0) (p0_5_1a 5) (p0_5_1k 5) (p0_5_1n 5) (p0_5_1w 5)), [((p0_5a 2), .inl (p0_5_1c, 6, .inr (.inr (.inr (.inr (fun i => some (p0_5_1a i 0)))))))]] : List va_W)) s.heap.size = A at hD hE hQ
  have hA : ∀ q : Nat, s.heap.size ≤ q → A q := fun q h => by rw [← hAe]; exact Or.inr h
  have hS : va_S A s.heap s.heap [] := va_S.rf
  have hP : va_P (dC, dI) cls (List.flatten ([(oX11 (p0a 0) p0a p0w), (oX6 (p0a 9) p0_8a p0_8k p0_8w p0_8l), (oX0 (p0a 6) p0_5a p0_5k p0_5n p0_5w), (oX9 (p0_5_1a 0 0) (p0_5_1a 0) (p0_5_1k 0) (p0_5_1n 0) (p0_5_1w 0)), (oX9 (p0_5_1a 1 0) (p0_5_1a 1) (p0_5_1k 1) (p0_5_1n 1) (p0_5_1w 1)), (oX9 (p0_5_1a 2 0) (p0_5_1a 2) (p0_5_1k 2) (p0_5_1n 2) (p0_5_1w 2)), (oX9 (p0_5_1a 3 0) (p0_5_1a 3) (p0_5_1k 3) (p0_5_1n 3) (p0_5_1w 3)), (oX9 (p0_5_1a 4 0) (p0_5_1a 4) (p0_5_1k 4) (p0_5_1n 4) (p0_5_1w 4)), (oX9 (p0_5_1a 5 0) (p0_5_1a 5) (p0_5_1k 5) (p0_5_1n 5) (p0_5_1w 5)), [((p0_5a 2), .inl (p0_5_1c, 6, .inr (.inr (.inr (.inr (fun i => some (p0_5_1a i 0)))))))]] : List va_W)) s.heap := hP
  have hl := lv_entry ([.ref (p0a 0), .int p1, .int p2]) (n := 12) (Nat.le_of_ble_eq_true rfl)
  rw [lg_entry_eq]
  generalize (lg_sl ([.ref (p0a 0), .int p1, .int p2]) ++ List.replicate (12 - (lg_sl ([.ref (p0a 0), .int p1, .int p2])).length) Slot.unset).toArray = ls at hl ⊢
  have hl : lv_has ls 12 [(0, .ref (p0a 0)), (1, .int p1), (2, .int p2)] := hl
  obtain ⟨H, hHe⟩ : ∃ H, H = s.heap := ⟨_, rfl⟩
  obtain ⟨locs, hle⟩ : ∃ locs : List Loc, locs = [] := ⟨_, rfl⟩
  rw [← hHe] at hP
  have hS : va_S A s.heap H locs := by rw [hHe, hle]; exact hS
  show W p l e ({ frames := 3, cells := 0, slots := 0, locals := 66 } : Room) s m ([.ref (p0a 0), .int p1, .int p2] : List Value).toArray below meth c s.heap [] 0 0 Q (F0 m 0 ls [])
  rw [← hle]
  refine wH9 hHe ?_
  unfold fL_isCodeRight at hrun
  refine lv_aload_n hx hb dL_isCodeRight_0 rfl (lv_at hl 0 rfl) ?_
  refine lv_iload_n hx hb dL_isCodeRight_1 rfl (lv_at hl 1 rfl) ?_
  obtain ⟨o_1, hc_1, hrun⟩ := bnd9 hrun
  have hPx : va_P (dC, dI) cls ((List.flatten ([(oX11 (p0a 0) p0a p0w), (oX6 (p0a 9) p0_8a p0_8k p0_8w p0_8l), (oX0 (p0a 6) p0_5a p0_5k p0_5n p0_5w), (oX9 (p0_5_1a 0 0) (p0_5_1a 0) (p0_5_1k 0) (p0_5_1n 0) (p0_5_1w 0)), (oX9 (p0_5_1a 1 0) (p0_5_1a 1) (p0_5_1k 1) (p0_5_1n 1) (p0_5_1w 1)), (oX9 (p0_5_1a 2 0) (p0_5_1a 2) (p0_5_1k 2) (p0_5_1n 2) (p0_5_1w 2)), (oX9 (p0_5_1a 3 0) (p0_5_1a 3) (p0_5_1k 3) (p0_5_1n 3) (p0_5_1w 3)), (oX9 (p0_5_1a 4 0) (p0_5_1a 4) (p0_5_1k 4) (p0_5_1n 4) (p0_5_1w 4)), (oX9 (p0_5_1a 5 0) (p0_5_1a 5) (p0_5_1k 5) (p0_5_1n 5) (p0_5_1w 5)), [((p0_5a 2), .inl (p0_5_1c, 6, .inr (.inr (.inr (.inr (fun i => some (p0_5_1a i 0)))))))]] : List va_W)) ++ (List.flatten ([] : List va_W))) H := vP_fa (vP_perm hP (bP (List.Perm.refl _)))
  have hDx : va_D A ((List.flatten ([(oX11 (p0a 0) p0a p0w), (oX6 (p0a 9) p0_8a p0_8k p0_8w p0_8l), (oX0 (p0a 6) p0_5a p0_5k p0_5n p0_5w), (oX9 (p0_5_1a 0 0) (p0_5_1a 0) (p0_5_1k 0) (p0_5_1n 0) (p0_5_1w 0)), (oX9 (p0_5_1a 1 0) (p0_5_1a 1) (p0_5_1k 1) (p0_5_1n 1) (p0_5_1w 1)), (oX9 (p0_5_1a 2 0) (p0_5_1a 2) (p0_5_1k 2) (p0_5_1n 2) (p0_5_1w 2)), (oX9 (p0_5_1a 3 0) (p0_5_1a 3) (p0_5_1k 3) (p0_5_1n 3) (p0_5_1w 3)), (oX9 (p0_5_1a 4 0) (p0_5_1a 4) (p0_5_1k 4) (p0_5_1n 4) (p0_5_1w 4)), (oX9 (p0_5_1a 5 0) (p0_5_1a 5) (p0_5_1k 5) (p0_5_1n 5) (p0_5_1w 5)), [((p0_5a 2), .inl (p0_5_1c, 6, .inr (.inr (.inr (.inr (fun i => some (p0_5_1a i 0)))))))]] : List va_W)) ++ (List.flatten ([] : List va_W))) := vD_fa (vD_perm hD (bP (List.Perm.refl _)))
  have hKx : va_K (dC, dI) cls ((List.flatten ([[], (tX6 p0_8k), (tX0 p0_5k), (tX9 (p0_5_1k 0)), (tX9 (p0_5_1k 1)), (tX9 (p0_5_1k 2)), (tX9 (p0_5_1k 3)), (tX9 (p0_5_1k 4)), (tX9 (p0_5_1k 5)), [(p0_5_1c, .object RX9)]] : List (List (ClassId × FieldType)))) ++ (List.flatten ([] : List (List (ClassId × FieldType))))) s := vK_fa (vK_perm hK (bP (List.Perm.refl _)))
  have hPc := vP_l hPx
  have hDc := vD_l hDx
  have hKc := vK_l hKx
  have hFc := vfree hDx hS hA
  refine va_calli (va_runV (As := [.int p1]) (rest := []) ⟨hx, hb, hml, hown, hts⟩ (kX11_lines l dC dI (p0a := p0a) (p0w := p0w) (p1 := p1) (p0_8a := p0_8a) (p0_8k := p0_8k) (p0_8w := p0_8w) (p0_8l := p0_8l) (p0_5a := p0_5a) (p0_5k := p0_5k) (p0_5n := p0_5n) (p0_5w := p0_5w) (p0_5_1c := p0_5_1c) (p0_5_1a := p0_5_1a) (p0_5_1k := p0_5_1k) (p0_5_1n := p0_5_1n) (p0_5_1w := p0_5_1w) (sz := _) (o := o_1) (hrun := hc_1)) (cwV 1 hts (gi_V qw1529 qw1530 qw1531 qw129 (gi_z qw1528)) rfl rfl rfl (by decide +kernel) ⟨Nat.le_of_ble_eq_true rfl, Nat.le_of_ble_eq_true rfl⟩) ⟨PRE.blind, va_recv hKc hPc (ci := 11) (q0 := 0) rfl rfl, PRE.of hE hS hFc hPc hKc hDc⟩ rfl rfl hl.1 rfl (lv_room (Nat.le_of_ble_eq_true rfl)) dL_isCodeRight_2 ⟨(Nat.le_of_ble_eq_true rfl), (Nat.le_of_ble_eq_true rfl)⟩) hS (fun q _ h => hFc q h) hFc (fun r2 u t H locs ht hvm hw hB hz1 hk1 hS => ?_)
  obtain ⟨b1, b2, b3⟩ := hB
  rw [ht] at b1
  obtain ⟨hP, hD, hK⟩ := JOINC (wc := (List.flatten ([(oX11 (p0a 0) p0a p0w), (oX6 (p0a 9) p0_8a p0_8k p0_8w p0_8l), (oX0 (p0a 6) p0_5a p0_5k p0_5n p0_5w), (oX9 (p0_5_1a 0 0) (p0_5_1a 0) (p0_5_1k 0) (p0_5_1n 0) (p0_5_1w 0)), (oX9 (p0_5_1a 1 0) (p0_5_1a 1) (p0_5_1k 1) (p0_5_1n 1) (p0_5_1w 1)), (oX9 (p0_5_1a 2 0) (p0_5_1a 2) (p0_5_1k 2) (p0_5_1n 2) (p0_5_1w 2)), (oX9 (p0_5_1a 3 0) (p0_5_1a 3) (p0_5_1k 3) (p0_5_1n 3) (p0_5_1w 3)), (oX9 (p0_5_1a 4 0) (p0_5_1a 4) (p0_5_1k 4) (p0_5_1n 4) (p0_5_1w 4)), (oX9 (p0_5_1a 5 0) (p0_5_1a 5) (p0_5_1k 5) (p0_5_1n 5) (p0_5_1w 5)), [((p0_5a 2), .inl (p0_5_1c, 6, .inr (.inr (.inr (.inr (fun i => some (p0_5_1a i 0)))))))]] : List va_W))) (wr := (List.flatten ([] : List va_W))) (w1 := (List.flatten ([(oX11 (p0a 0) p0a p0w), (oX6 (p0a 9) p0_8a p0_8k p0_8w p0_8l), (oX0 (p0a 6) p0_5a p0_5k p0_5n p0_5w), (oX9 (p0_5_1a 0 0) (p0_5_1a 0) (p0_5_1k 0) (p0_5_1n 0) (p0_5_1w 0)), (oX9 (p0_5_1a 1 0) (p0_5_1a 1) (p0_5_1k 1) (p0_5_1n 1) (p0_5_1w 1)), (oX9 (p0_5_1a 2 0) (p0_5_1a 2) (p0_5_1k 2) (p0_5_1n 2) (p0_5_1w 2)), (oX9 (p0_5_1a 3 0) (p0_5_1a 3) (p0_5_1k 3) (p0_5_1n 3) (p0_5_1w 3)), (oX9 (p0_5_1a 4 0) (p0_5_1a 4) (p0_5_1k 4) (p0_5_1n 4) (p0_5_1w 4)), (oX9 (p0_5_1a 5 0) (p0_5_1a 5) (p0_5_1k 5) (p0_5_1n 5) (p0_5_1w 5)), [((p0_5a 2), .inl (p0_5_1c, 6, .inr (.inr (.inr (.inr (fun i => some (p0_5_1a i 0)))))))]] : List va_W))) (t1 := (List.flatten ([[], (tX6 p0_8k), (tX0 p0_5k), (tX9 (p0_5_1k 0)), (tX9 (p0_5_1k 1)), (tX9 (p0_5_1k 2)), (tX9 (p0_5_1k 3)), (tX9 (p0_5_1k 4)), (tX9 (p0_5_1k 5)), [(p0_5_1c, .object RX9)]] : List (List (ClassId × FieldType))))) hPx hDx hKx hk1 hFc b1 (va_K.moved hvm.symm b2) b3
  have hP : va_P (dC, dI) cls (List.flatten ([(oX11 (p0a 0) p0a p0w), (oX6 (p0a 9) p0_8a p0_8k p0_8w p0_8l), (oX0 (p0a 6) p0_5a p0_5k p0_5n p0_5w), (oX9 (p0_5_1a 0 0) (p0_5_1a 0) (p0_5_1k 0) (p0_5_1n 0) (p0_5_1w 0)), (oX9 (p0_5_1a 1 0) (p0_5_1a 1) (p0_5_1k 1) (p0_5_1n 1) (p0_5_1w 1)), (oX9 (p0_5_1a 2 0) (p0_5_1a 2) (p0_5_1k 2) (p0_5_1n 2) (p0_5_1w 2)), (oX9 (p0_5_1a 3 0) (p0_5_1a 3) (p0_5_1k 3) (p0_5_1n 3) (p0_5_1w 3)), (oX9 (p0_5_1a 4 0) (p0_5_1a 4) (p0_5_1k 4) (p0_5_1n 4) (p0_5_1w 4)), (oX9 (p0_5_1a 5 0) (p0_5_1a 5) (p0_5_1k 5) (p0_5_1n 5) (p0_5_1w 5)), [((p0_5a 2), .inl (p0_5_1c, 6, .inr (.inr (.inr (.inr (fun i => some (p0_5_1a i 0)))))))]] : List va_W)) H := vP_perm (vP_fb hP) (bP (List.Perm.refl _))
  have hD : va_D A (List.flatten ([(oX11 (p0a 0) p0a p0w), (oX6 (p0a 9) p0_8a p0_8k p0_8w p0_8l), (oX0 (p0a 6) p0_5a p0_5k p0_5n p0_5w), (oX9 (p0_5_1a 0 0) (p0_5_1a 0) (p0_5_1k 0) (p0_5_1n 0) (p0_5_1w 0)), (oX9 (p0_5_1a 1 0) (p0_5_1a 1) (p0_5_1k 1) (p0_5_1n 1) (p0_5_1w 1)), (oX9 (p0_5_1a 2 0) (p0_5_1a 2) (p0_5_1k 2) (p0_5_1n 2) (p0_5_1w 2)), (oX9 (p0_5_1a 3 0) (p0_5_1a 3) (p0_5_1k 3) (p0_5_1n 3) (p0_5_1w 3)), (oX9 (p0_5_1a 4 0) (p0_5_1a 4) (p0_5_1k 4) (p0_5_1n 4) (p0_5_1w 4)), (oX9 (p0_5_1a 5 0) (p0_5_1a 5) (p0_5_1k 5) (p0_5_1n 5) (p0_5_1w 5)), [((p0_5a 2), .inl (p0_5_1c, 6, .inr (.inr (.inr (.inr (fun i => some (p0_5_1a i 0)))))))]] : List va_W)) := vD_perm (vD_fb hD) (bP (List.Perm.refl _))
  have hK : va_K (dC, dI) cls (List.flatten ([[], (tX6 p0_8k), (tX0 p0_5k), (tX9 (p0_5_1k 0)), (tX9 (p0_5_1k 1)), (tX9 (p0_5_1k 2)), (tX9 (p0_5_1k 3)), (tX9 (p0_5_1k 4)), (tX9 (p0_5_1k 5)), [(p0_5_1c, .object RX9)]] : List (List (ClassId × FieldType)))) s := vK_perm (vK_fb hK) (bP (List.Perm.refl _))
  obtain rfl : o_1 = r2 := hw.symm
  refine lv_istore_n (lv' := [(3, .int o_1), (0, .ref (p0a 0)), (1, .int p1), (2, .int p2)]) hx hb dL_isCodeRight_5 rfl hl (by decide) rfl (fun ls hl => ?_)
  refine lv_iconst (v := 0) hx hb dL_isCodeRight_6 (by decide) ?_
  refine lv_istore (lv' := [(4, .int 0), (3, .int o_1), (0, .ref (p0a 0)), (1, .int p1), (2, .int p2)]) hx hb dL_isCodeRight_7 hl (by decide) rfl (fun ls hl => ?_)
  have L9 : ∀ (n_9 : Nat) (v4_9 : Int32) (o9 : (Sum Int32 Unit)) (H : Heap) (locs : List Loc) (ls : Array Slot), (fL_isCodeRight_L9 p1 p2 p0_8w p0_5w p0_5_1n p0_5_1w o_1 n_9) v4_9 = some o9 → va_P (dC, dI) cls (List.flatten ([(oX11 (p0a 0) p0a p0w), (oX6 (p0a 9) p0_8a p0_8k p0_8w p0_8l), (oX0 (p0a 6) p0_5a p0_5k p0_5n p0_5w), (oX9 (p0_5_1a 0 0) (p0_5_1a 0) (p0_5_1k 0) (p0_5_1n 0) (p0_5_1w 0)), (oX9 (p0_5_1a 1 0) (p0_5_1a 1) (p0_5_1k 1) (p0_5_1n 1) (p0_5_1w 1)), (oX9 (p0_5_1a 2 0) (p0_5_1a 2) (p0_5_1k 2) (p0_5_1n 2) (p0_5_1w 2)), (oX9 (p0_5_1a 3 0) (p0_5_1a 3) (p0_5_1k 3) (p0_5_1n 3) (p0_5_1w 3)), (oX9 (p0_5_1a 4 0) (p0_5_1a 4) (p0_5_1k 4) (p0_5_1n 4) (p0_5_1w 4)), (oX9 (p0_5_1a 5 0) (p0_5_1a 5) (p0_5_1k 5) (p0_5_1n 5) (p0_5_1w 5)), [((p0_5a 2), .inl (p0_5_1c, 6, .inr (.inr (.inr (.inr (fun i => some (p0_5_1a i 0)))))))]] : List va_W)) H → va_D A (List.flatten ([(oX11 (p0a 0) p0a p0w), (oX6 (p0a 9) p0_8a p0_8k p0_8w p0_8l), (oX0 (p0a 6) p0_5a p0_5k p0_5n p0_5w), (oX9 (p0_5_1a 0 0) (p0_5_1a 0) (p0_5_1k 0) (p0_5_1n 0) (p0_5_1w 0)), (oX9 (p0_5_1a 1 0) (p0_5_1a 1) (p0_5_1k 1) (p0_5_1n 1) (p0_5_1w 1)), (oX9 (p0_5_1a 2 0) (p0_5_1a 2) (p0_5_1k 2) (p0_5_1n 2) (p0_5_1w 2)), (oX9 (p0_5_1a 3 0) (p0_5_1a 3) (p0_5_1k 3) (p0_5_1n 3) (p0_5_1w 3)), (oX9 (p0_5_1a 4 0) (p0_5_1a 4) (p0_5_1k 4) (p0_5_1n 4) (p0_5_1w 4)), (oX9 (p0_5_1a 5 0) (p0_5_1a 5) (p0_5_1k 5) (p0_5_1n 5) (p0_5_1w 5)), [((p0_5a 2), .inl (p0_5_1c, 6, .inr (.inr (.inr (.inr (fun i => some (p0_5_1a i 0)))))))]] : List va_W)) → va_K (dC, dI) cls (List.flatten ([[], (tX6 p0_8k), (tX0 p0_5k), (tX9 (p0_5_1k 0)), (tX9 (p0_5_1k 1)), (tX9 (p0_5_1k 2)), (tX9 (p0_5_1k 3)), (tX9 (p0_5_1k 4)), (tX9 (p0_5_1k 5)), [(p0_5_1c, .object RX9)]] : List (List (ClassId × FieldType)))) s → va_S A s.heap H locs → lv_has ls 12 [(0, .ref (p0a 0)), (1, .int p1), (2, .int p2), (3, .int o_1), (4, .int v4_9)] → (∀ r, o9 = Sum.inl r → r = o) → (∀ (t9 : Unit), o9 = Sum.inr t9 → ∀ (H : Heap) (locs : List Loc) (ls : Array Slot), va_P (dC, dI) cls (List.flatten ([(oX11 (p0a 0) p0a p0w), (oX6 (p0a 9) p0_8a p0_8k p0_8w p0_8l), (oX0 (p0a 6) p0_5a p0_5k p0_5n p0_5w), (oX9 (p0_5_1a 0 0) (p0_5_1a 0) (p0_5_1k 0) (p0_5_1n 0) (p0_5_1w 0)), (oX9 (p0_5_1a 1 0) (p0_5_1a 1) (p0_5_1k 1) (p0_5_1n 1) (p0_5_1w 1)), (oX9 (p0_5_1a 2 0) (p0_5_1a 2) (p0_5_1k 2) (p0_5_1n 2) (p0_5_1w 2)), (oX9 (p0_5_1a 3 0) (p0_5_1a 3) (p0_5_1k 3) (p0_5_1n 3) (p0_5_1w 3)), (oX9 (p0_5_1a 4 0) (p0_5_1a 4) (p0_5_1k 4) (p0_5_1n 4) (p0_5_1w 4)), (oX9 (p0_5_1a 5 0) (p0_5_1a 5) (p0_5_1k 5) (p0_5_1n 5) (p0_5_1w 5)), [((p0_5a 2), .inl (p0_5_1c, 6, .inr (.inr (.inr (.inr (fun i => some (p0_5_1a i 0)))))))]] : List va_W)) H → va_D A (List.flatten ([(oX11 (p0a 0) p0a p0w), (oX6 (p0a 9) p0_8a p0_8k p0_8w p0_8l), (oX0 (p0a 6) p0_5a p0_5k p0_5n p0_5w), (oX9 (p0_5_1a 0 0) (p0_5_1a 0) (p0_5_1k 0) (p0_5_1n 0) (p0_5_1w 0)), (oX9 (p0_5_1a 1 0) (p0_5_1a 1) (p0_5_1k 1) (p0_5_1n 1) (p0_5_1w 1)), (oX9 (p0_5_1a 2 0) (p0_5_1a 2) (p0_5_1k 2) (p0_5_1n 2) (p0_5_1w 2)), (oX9 (p0_5_1a 3 0) (p0_5_1a 3) (p0_5_1k 3) (p0_5_1n 3) (p0_5_1w 3)), (oX9 (p0_5_1a 4 0) (p0_5_1a 4) (p0_5_1k 4) (p0_5_1n 4) (p0_5_1w 4)), (oX9 (p0_5_1a 5 0) (p0_5_1a 5) (p0_5_1k 5) (p0_5_1n 5) (p0_5_1w 5)), [((p0_5a 2), .inl (p0_5_1c, 6, .inr (.inr (.inr (.inr (fun i => some (p0_5_1a i 0)))))))]] : List va_W)) → va_K (dC, dI) cls (List.flatten ([[], (tX6 p0_8k), (tX0 p0_5k), (tX9 (p0_5_1k 0)), (tX9 (p0_5_1k 1)), (tX9 (p0_5_1k 2)), (tX9 (p0_5_1k 3)), (tX9 (p0_5_1k 4)), (tX9 (p0_5_1k 5)), [(p0_5_1c, .object RX9)]] : List (List (ClassId × FieldType)))) s → va_S A s.heap H locs → lv_has ls 12 [(0, .ref (p0a 0)), (1, .int p1), (3, .int o_1)] → W p l e ({ frames := 3, cells := 0, slots := 0, locals := 66 } : Room) s m ([.ref (p0a 0), .int p1, .int p2] : List Value).toArray below meth c H locs 0 0 Q (F0 m 359 ls [])) → W p l e ({ frames := 3, cells := 0, slots := 0, locals := 66 } : Room) s m ([.ref (p0a 0), .int p1, .int p2] : List Value).toArray below meth c H locs 0 0 Q (F0 m 9 ls []) := by
    intro n_9
    induction n_9 with
    | zero => intro v4_9 o9 H locs ls hrun; exact (no9 rfl hrun).elim
    | succ n_9 IH9 =>
      intro v4_9 o9 H locs ls hrun hP hD hK hS hl hr9 hk9
      unfold fL_isCodeRight_L9 at hrun
      refine lv_iload hx hb dL_isCodeRight_9 (lv_at hl 4 rfl) ?_
      refine lv_iload_n hx hb dL_isCodeRight_11 rfl (lv_at hl 3 rfl) ?_
      rcases br9 hrun with ⟨hc3, hrun⟩ | ⟨hc3, hrun⟩
      · refine lv_icmp_ge (tgt := 359) hx hb dL_isCodeRight_12 (by decide) (fun _ => ?_) (fun c => absurd hc3 c)
        obtain rfl := (Option.some.inj hrun)
        exact hk9 _ rfl _ _ _ hP hD hK hS (lv_sub hl [0, 1, 3] rfl)
      · refine lv_icmp_ge (tgt := 359) hx hb dL_isCodeRight_12 (by decide) (fun c => absurd c hc3) (fun _ => ?_)
        refine lv_aload_n hx hb dL_isCodeRight_15 rfl (lv_at hl 0 rfl) ?_
        refine lv_iload_n hx hb dL_isCodeRight_16 rfl (lv_at hl 1 rfl) ?_
        refine lv_iload hx hb dL_isCodeRight_17 (lv_at hl 4 rfl) ?_
        obtain ⟨o_4, hc_4, hrun⟩ := bnd9 hrun
        have hPx : va_P (dC, dI) cls ((List.flatten ([(oX11 (p0a 0) p0a p0w), (oX6 (p0a 9) p0_8a p0_8k p0_8w p0_8l), (oX0 (p0a 6) p0_5a p0_5k p0_5n p0_5w), (oX9 (p0_5_1a 0 0) (p0_5_1a 0) (p0_5_1k 0) (p0_5_1n 0) (p0_5_1w 0)), (oX9 (p0_5_1a 1 0) (p0_5_1a 1) (p0_5_1k 1) (p0_5_1n 1) (p0_5_1w 1)), (oX9 (p0_5_1a 2 0) (p0_5_1a 2) (p0_5_1k 2) (p0_5_1n 2) (p0_5_1w 2)), (oX9 (p0_5_1a 3 0) (p0_5_1a 3) (p0_5_1k 3) (p0_5_1n 3) (p0_5_1w 3)), (oX9 (p0_5_1a 4 0) (p0_5_1a 4) (p0_5_1k 4) (p0_5_1n 4) (p0_5_1w 4)), (oX9 (p0_5_1a 5 0) (p0_5_1a 5) (p0_5_1k 5) (p0_5_1n 5) (p0_5_1w 5)), [((p0_5a 2), .inl (p0_5_1c, 6, .inr (.inr (.inr (.inr (fun i => some (p0_5_1a i 0)))))))]] : List va_W)) ++ (List.flatten ([] : List va_W))) H := vP_fa (vP_perm hP (bP (List.Perm.refl _)))
        have hDx : va_D A ((List.flatten ([(oX11 (p0a 0) p0a p0w), (oX6 (p0a 9) p0_8a p0_8k p0_8w p0_8l), (oX0 (p0a 6) p0_5a p0_5k p0_5n p0_5w), (oX9 (p0_5_1a 0 0) (p0_5_1a 0) (p0_5_1k 0) (p0_5_1n 0) (p0_5_1w 0)), (oX9 (p0_5_1a 1 0) (p0_5_1a 1) (p0_5_1k 1) (p0_5_1n 1) (p0_5_1w 1)), (oX9 (p0_5_1a 2 0) (p0_5_1a 2) (p0_5_1k 2) (p0_5_1n 2) (p0_5_1w 2)), (oX9 (p0_5_1a 3 0) (p0_5_1a 3) (p0_5_1k 3) (p0_5_1n 3) (p0_5_1w 3)), (oX9 (p0_5_1a 4 0) (p0_5_1a 4) (p0_5_1k 4) (p0_5_1n 4) (p0_5_1w 4)), (oX9 (p0_5_1a 5 0) (p0_5_1a 5) (p0_5_1k 5) (p0_5_1n 5) (p0_5_1w 5)), [((p0_5a 2), .inl (p0_5_1c, 6, .inr (.inr (.inr (.inr (fun i => some (p0_5_1a i 0)))))))]] : List va_W)) ++ (List.flatten ([] : List va_W))) := vD_fa (vD_perm hD (bP (List.Perm.refl _)))
        have hKx : va_K (dC, dI) cls ((List.flatten ([[], (tX6 p0_8k), (tX0 p0_5k), (tX9 (p0_5_1k 0)), (tX9 (p0_5_1k 1)), (tX9 (p0_5_1k 2)), (tX9 (p0_5_1k 3)), (tX9 (p0_5_1k 4)), (tX9 (p0_5_1k 5)), [(p0_5_1c, .object RX9)]] : List (List (ClassId × FieldType)))) ++ (List.flatten ([] : List (List (ClassId × FieldType))))) s := vK_fa (vK_perm hK (bP (List.Perm.refl _)))
        have hPc := vP_l hPx
        have hDc := vD_l hDx
        have hKc := vK_l hKx
        have hFc := vfree hDx hS hA
        refine va_calli (va_runV (As := [.int p1, .int v4_9]) (rest := []) ⟨hx, hb, hml, hown, hts⟩ (kX11_codeKind l dC dI (p0a := p0a) (p0w := p0w) (p1 := p1) (p2 := v4_9) (p0_8a := p0_8a) (p0_8k := p0_8k) (p0_8w := p0_8w) (p0_8l := p0_8l) (p0_5a := p0_5a) (p0_5k := p0_5k) (p0_5n := p0_5n) (p0_5w := p0_5w) (p0_5_1c := p0_5_1c) (p0_5_1a := p0_5_1a) (p0_5_1k := p0_5_1k) (p0_5_1n := p0_5_1n) (p0_5_1w := p0_5_1w) (sz := _) (o := o_4) (hrun := hc_4)) (cwV 2 hts (gi_V qw1533 qw1534 qw1535 qw129 (gi_z qw1532)) rfl rfl rfl (by decide +kernel) ⟨Nat.le_of_ble_eq_true rfl, Nat.le_of_ble_eq_true rfl⟩) ⟨PRE.blind, va_recv hKc hPc (ci := 11) (q0 := 0) rfl rfl, PRE.of hE hS hFc hPc hKc hDc⟩ rfl rfl hl.1 rfl (lv_room (Nat.le_of_ble_eq_true rfl)) dL_isCodeRight_19 ⟨(Nat.le_of_ble_eq_true rfl), (Nat.le_of_ble_eq_true rfl)⟩) hS (fun q _ h => hFc q h) hFc (fun r5 u t H locs ht hvm hw hB hz1 hk1 hS => ?_)
        obtain ⟨b1, b2, b3⟩ := hB
        rw [ht] at b1
        obtain ⟨hP, hD, hK⟩ := JOINC (wc := (List.flatten ([(oX11 (p0a 0) p0a p0w), (oX6 (p0a 9) p0_8a p0_8k p0_8w p0_8l), (oX0 (p0a 6) p0_5a p0_5k p0_5n p0_5w), (oX9 (p0_5_1a 0 0) (p0_5_1a 0) (p0_5_1k 0) (p0_5_1n 0) (p0_5_1w 0)), (oX9 (p0_5_1a 1 0) (p0_5_1a 1) (p0_5_1k 1) (p0_5_1n 1) (p0_5_1w 1)), (oX9 (p0_5_1a 2 0) (p0_5_1a 2) (p0_5_1k 2) (p0_5_1n 2) (p0_5_1w 2)), (oX9 (p0_5_1a 3 0) (p0_5_1a 3) (p0_5_1k 3) (p0_5_1n 3) (p0_5_1w 3)), (oX9 (p0_5_1a 4 0) (p0_5_1a 4) (p0_5_1k 4) (p0_5_1n 4) (p0_5_1w 4)), (oX9 (p0_5_1a 5 0) (p0_5_1a 5) (p0_5_1k 5) (p0_5_1n 5) (p0_5_1w 5)), [((p0_5a 2), .inl (p0_5_1c, 6, .inr (.inr (.inr (.inr (fun i => some (p0_5_1a i 0)))))))]] : List va_W))) (wr := (List.flatten ([] : List va_W))) (w1 := (List.flatten ([(oX11 (p0a 0) p0a p0w), (oX6 (p0a 9) p0_8a p0_8k p0_8w p0_8l), (oX0 (p0a 6) p0_5a p0_5k p0_5n p0_5w), (oX9 (p0_5_1a 0 0) (p0_5_1a 0) (p0_5_1k 0) (p0_5_1n 0) (p0_5_1w 0)), (oX9 (p0_5_1a 1 0) (p0_5_1a 1) (p0_5_1k 1) (p0_5_1n 1) (p0_5_1w 1)), (oX9 (p0_5_1a 2 0) (p0_5_1a 2) (p0_5_1k 2) (p0_5_1n 2) (p0_5_1w 2)), (oX9 (p0_5_1a 3 0) (p0_5_1a 3) (p0_5_1k 3) (p0_5_1n 3) (p0_5_1w 3)), (oX9 (p0_5_1a 4 0) (p0_5_1a 4) (p0_5_1k 4) (p0_5_1n 4) (p0_5_1w 4)), (oX9 (p0_5_1a 5 0) (p0_5_1a 5) (p0_5_1k 5) (p0_5_1n 5) (p0_5_1w 5)), [((p0_5a 2), .inl (p0_5_1c, 6, .inr (.inr (.inr (.inr (fun i => some (p0_5_1a i 0)))))))]] : List va_W))) (t1 := (List.flatten ([[], (tX6 p0_8k), (tX0 p0_5k), (tX9 (p0_5_1k 0)), (tX9 (p0_5_1k 1)), (tX9 (p0_5_1k 2)), (tX9 (p0_5_1k 3)), (tX9 (p0_5_1k 4)), (tX9 (p0_5_1k 5)), [(p0_5_1c, .object RX9)]] : List (List (ClassId × FieldType))))) hPx hDx hKx hk1 hFc b1 (va_K.moved hvm.symm b2) b3
        have hP : va_P (dC, dI) cls (List.flatten ([(oX11 (p0a 0) p0a p0w), (oX6 (p0a 9) p0_8a p0_8k p0_8w p0_8l), (oX0 (p0a 6) p0_5a p0_5k p0_5n p0_5w), (oX9 (p0_5_1a 0 0) (p0_5_1a 0) (p0_5_1k 0) (p0_5_1n 0) (p0_5_1w 0)), (oX9 (p0_5_1a 1 0) (p0_5_1a 1) (p0_5_1k 1) (p0_5_1n 1) (p0_5_1w 1)), (oX9 (p0_5_1a 2 0) (p0_5_1a 2) (p0_5_1k 2) (p0_5_1n 2) (p0_5_1w 2)), (oX9 (p0_5_1a 3 0) (p0_5_1a 3) (p0_5_1k 3) (p0_5_1n 3) (p0_5_1w 3)), (oX9 (p0_5_1a 4 0) (p0_5_1a 4) (p0_5_1k 4) (p0_5_1n 4) (p0_5_1w 4)), (oX9 (p0_5_1a 5 0) (p0_5_1a 5) (p0_5_1k 5) (p0_5_1n 5) (p0_5_1w 5)), [((p0_5a 2), .inl (p0_5_1c, 6, .inr (.inr (.inr (.inr (fun i => some (p0_5_1a i 0)))))))]] : List va_W)) H := vP_perm (vP_fb hP) (bP (List.Perm.refl _))
        have hD : va_D A (List.flatten ([(oX11 (p0a 0) p0a p0w), (oX6 (p0a 9) p0_8a p0_8k p0_8w p0_8l), (oX0 (p0a 6) p0_5a p0_5k p0_5n p0_5w), (oX9 (p0_5_1a 0 0) (p0_5_1a 0) (p0_5_1k 0) (p0_5_1n 0) (p0_5_1w 0)), (oX9 (p0_5_1a 1 0) (p0_5_1a 1) (p0_5_1k 1) (p0_5_1n 1) (p0_5_1w 1)), (oX9 (p0_5_1a 2 0) (p0_5_1a 2) (p0_5_1k 2) (p0_5_1n 2) (p0_5_1w 2)), (oX9 (p0_5_1a 3 0) (p0_5_1a 3) (p0_5_1k 3) (p0_5_1n 3) (p0_5_1w 3)), (oX9 (p0_5_1a 4 0) (p0_5_1a 4) (p0_5_1k 4) (p0_5_1n 4) (p0_5_1w 4)), (oX9 (p0_5_1a 5 0) (p0_5_1a 5) (p0_5_1k 5) (p0_5_1n 5) (p0_5_1w 5)), [((p0_5a 2), .inl (p0_5_1c, 6, .inr (.inr (.inr (.inr (fun i => some (p0_5_1a i 0)))))))]] : List va_W)) := vD_perm (vD_fb hD) (bP (List.Perm.refl _))
        have hK : va_K (dC, dI) cls (List.flatten ([[], (tX6 p0_8k), (tX0 p0_5k), (tX9 (p0_5_1k 0)), (tX9 (p0_5_1k 1)), (tX9 (p0_5_1k 2)), (tX9 (p0_5_1k 3)), (tX9 (p0_5_1k 4)), (tX9 (p0_5_1k 5)), [(p0_5_1c, .object RX9)]] : List (List (ClassId × FieldType)))) s := vK_perm (vK_fb hK) (bP (List.Perm.refl _))
        obtain rfl : o_4 = r5 := hw.symm
        refine lv_istore (lv' := [(5, .int o_4), (0, .ref (p0a 0)), (1, .int p1), (2, .int p2), (3, .int o_1), (4, .int v4_9)]) hx hb dL_isCodeRight_22 hl (by decide) rfl (fun ls hl => ?_)
        refine lv_aload_n hx hb dL_isCodeRight_24 rfl (lv_at hl 1 rfl) ?_
        refine lv_iload_n hx hb dL_isCodeRight_25 rfl (lv_at hl 2 rfl) ?_
        refine lv_iload hx hb dL_isCodeRight_26 (lv_at hl 5 rfl) ?_
        obtain ⟨o_6, hc_6, hrun⟩ := bnd9 hrun
        have hPx : va_P (dC, dI) cls ((List.flatten ([(oX11 (p0a 0) p0a p0w), (oX6 (p0a 9) p0_8a p0_8k p0_8w p0_8l), (oX0 (p0a 6) p0_5a p0_5k p0_5n p0_5w), (oX9 (p0_5_1a 0 0) (p0_5_1a 0) (p0_5_1k 0) (p0_5_1n 0) (p0_5_1w 0)), (oX9 (p0_5_1a 1 0) (p0_5_1a 1) (p0_5_1k 1) (p0_5_1n 1) (p0_5_1w 1)), (oX9 (p0_5_1a 2 0) (p0_5_1a 2) (p0_5_1k 2) (p0_5_1n 2) (p0_5_1w 2)), (oX9 (p0_5_1a 3 0) (p0_5_1a 3) (p0_5_1k 3) (p0_5_1n 3) (p0_5_1w 3)), (oX9 (p0_5_1a 4 0) (p0_5_1a 4) (p0_5_1k 4) (p0_5_1n 4) (p0_5_1w 4)), (oX9 (p0_5_1a 5 0) (p0_5_1a 5) (p0_5_1k 5) (p0_5_1n 5) (p0_5_1w 5)), [((p0_5a 2), .inl (p0_5_1c, 6, .inr (.inr (.inr (.inr (fun i => some (p0_5_1a i 0)))))))]] : List va_W)) ++ (List.flatten ([] : List va_W))) H := vP_fa (vP_perm hP (bP (List.Perm.refl _)))
        have hDx : va_D A ((List.flatten ([(oX11 (p0a 0) p0a p0w), (oX6 (p0a 9) p0_8a p0_8k p0_8w p0_8l), (oX0 (p0a 6) p0_5a p0_5k p0_5n p0_5w), (oX9 (p0_5_1a 0 0) (p0_5_1a 0) (p0_5_1k 0) (p0_5_1n 0) (p0_5_1w 0)), (oX9 (p0_5_1a 1 0) (p0_5_1a 1) (p0_5_1k 1) (p0_5_1n 1) (p0_5_1w 1)), (oX9 (p0_5_1a 2 0) (p0_5_1a 2) (p0_5_1k 2) (p0_5_1n 2) (p0_5_1w 2)), (oX9 (p0_5_1a 3 0) (p0_5_1a 3) (p0_5_1k 3) (p0_5_1n 3) (p0_5_1w 3)), (oX9 (p0_5_1a 4 0) (p0_5_1a 4) (p0_5_1k 4) (p0_5_1n 4) (p0_5_1w 4)), (oX9 (p0_5_1a 5 0) (p0_5_1a 5) (p0_5_1k 5) (p0_5_1n 5) (p0_5_1w 5)), [((p0_5a 2), .inl (p0_5_1c, 6, .inr (.inr (.inr (.inr (fun i => some (p0_5_1a i 0)))))))]] : List va_W)) ++ (List.flatten ([] : List va_W))) := vD_fa (vD_perm hD (bP (List.Perm.refl _)))
        have hKx : va_K (dC, dI) cls ((List.flatten ([[], (tX6 p0_8k), (tX0 p0_5k), (tX9 (p0_5_1k 0)), (tX9 (p0_5_1k 1)), (tX9 (p0_5_1k 2)), (tX9 (p0_5_1k 3)), (tX9 (p0_5_1k 4)), (tX9 (p0_5_1k 5)), [(p0_5_1c, .object RX9)]] : List (List (ClassId × FieldType)))) ++ (List.flatten ([] : List (List (ClassId × FieldType))))) s := vK_fa (vK_perm hK (bP (List.Perm.refl _)))
        have hPc := vP_l hPx
        have hDc := vD_l hDx
        have hKc := vK_l hKx
        have hFc := vfree hDx hS hA
        refine va_calli (va_runV (As := [.int p1, .int v4_9]) (rest := []) ⟨hx, hb, hml, hown, hts⟩ (kX11_codeGives l dC dI (p0a := p0a) (p0w := p0w) (p1 := p1) (p2 := v4_9) (p0_8a := p0_8a) (p0_8k := p0_8k) (p0_8w := p0_8w) (p0_8l := p0_8l) (p0_5a := p0_5a) (p0_5k := p0_5k) (p0_5n := p0_5n) (p0_5w := p0_5w) (p0_5_1c := p0_5_1c) (p0_5_1a := p0_5_1a) (p0_5_1k := p0_5_1k) (p0_5_1n := p0_5_1n) (p0_5_1w := p0_5_1w) (sz := _) (o := o_6) (hrun := hc_6)) (cwV 2 hts (gi_V qw1537 qw1538 qw1539 qw129 (gi_z qw1536)) rfl rfl rfl (by decide +kernel) ⟨Nat.le_of_ble_eq_true rfl, Nat.le_of_ble_eq_true rfl⟩) ⟨PRE.blind, va_recv hKc hPc (ci := 11) (q0 := 0) rfl rfl, PRE.of hE hS hFc hPc hKc hDc⟩ rfl rfl hl.1 rfl (lv_room (Nat.le_of_ble_eq_true rfl)) dL_isCodeRight_28 ⟨(Nat.le_of_ble_eq_true rfl), (Nat.le_of_ble_eq_true rfl)⟩) hS (fun q _ h => hFc q h) hFc (fun r7 u t H locs ht hvm hw hB hz1 hk1 hS => ?_)
        obtain ⟨b1, b2, b3⟩ := hB
        rw [ht] at b1
        obtain ⟨hP, hD, hK⟩ := JOINC (wc := (List.flatten ([(oX11 (p0a 0) p0a p0w), (oX6 (p0a 9) p0_8a p0_8k p0_8w p0_8l), (oX0 (p0a 6) p0_5a p0_5k p0_5n p0_5w), (oX9 (p0_5_1a 0 0) (p0_5_1a 0) (p0_5_1k 0) (p0_5_1n 0) (p0_5_1w 0)), (oX9 (p0_5_1a 1 0) (p0_5_1a 1) (p0_5_1k 1) (p0_5_1n 1) (p0_5_1w 1)), (oX9 (p0_5_1a 2 0) (p0_5_1a 2) (p0_5_1k 2) (p0_5_1n 2) (p0_5_1w 2)), (oX9 (p0_5_1a 3 0) (p0_5_1a 3) (p0_5_1k 3) (p0_5_1n 3) (p0_5_1w 3)), (oX9 (p0_5_1a 4 0) (p0_5_1a 4) (p0_5_1k 4) (p0_5_1n 4) (p0_5_1w 4)), (oX9 (p0_5_1a 5 0) (p0_5_1a 5) (p0_5_1k 5) (p0_5_1n 5) (p0_5_1w 5)), [((p0_5a 2), .inl (p0_5_1c, 6, .inr (.inr (.inr (.inr (fun i => some (p0_5_1a i 0)))))))]] : List va_W))) (wr := (List.flatten ([] : List va_W))) (w1 := (List.flatten ([(oX11 (p0a 0) p0a p0w), (oX6 (p0a 9) p0_8a p0_8k p0_8w p0_8l), (oX0 (p0a 6) p0_5a p0_5k p0_5n p0_5w), (oX9 (p0_5_1a 0 0) (p0_5_1a 0) (p0_5_1k 0) (p0_5_1n 0) (p0_5_1w 0)), (oX9 (p0_5_1a 1 0) (p0_5_1a 1) (p0_5_1k 1) (p0_5_1n 1) (p0_5_1w 1)), (oX9 (p0_5_1a 2 0) (p0_5_1a 2) (p0_5_1k 2) (p0_5_1n 2) (p0_5_1w 2)), (oX9 (p0_5_1a 3 0) (p0_5_1a 3) (p0_5_1k 3) (p0_5_1n 3) (p0_5_1w 3)), (oX9 (p0_5_1a 4 0) (p0_5_1a 4) (p0_5_1k 4) (p0_5_1n 4) (p0_5_1w 4)), (oX9 (p0_5_1a 5 0) (p0_5_1a 5) (p0_5_1k 5) (p0_5_1n 5) (p0_5_1w 5)), [((p0_5a 2), .inl (p0_5_1c, 6, .inr (.inr (.inr (.inr (fun i => some (p0_5_1a i 0)))))))]] : List va_W))) (t1 := (List.flatten ([[], (tX6 p0_8k), (tX0 p0_5k), (tX9 (p0_5_1k 0)), (tX9 (p0_5_1k 1)), (tX9 (p0_5_1k 2)), (tX9 (p0_5_1k 3)), (tX9 (p0_5_1k 4)), (tX9 (p0_5_1k 5)), [(p0_5_1c, .object RX9)]] : List (List (ClassId × FieldType))))) hPx hDx hKx hk1 hFc b1 (va_K.moved hvm.symm b2) b3
        have hP : va_P (dC, dI) cls (List.flatten ([(oX11 (p0a 0) p0a p0w), (oX6 (p0a 9) p0_8a p0_8k p0_8w p0_8l), (oX0 (p0a 6) p0_5a p0_5k p0_5n p0_5w), (oX9 (p0_5_1a 0 0) (p0_5_1a 0) (p0_5_1k 0) (p0_5_1n 0) (p0_5_1w 0)), (oX9 (p0_5_1a 1 0) (p0_5_1a 1) (p0_5_1k 1) (p0_5_1n 1) (p0_5_1w 1)), (oX9 (p0_5_1a 2 0) (p0_5_1a 2) (p0_5_1k 2) (p0_5_1n 2) (p0_5_1w 2)), (oX9 (p0_5_1a 3 0) (p0_5_1a 3) (p0_5_1k 3) (p0_5_1n 3) (p0_5_1w 3)), (oX9 (p0_5_1a 4 0) (p0_5_1a 4) (p0_5_1k 4) (p0_5_1n 4) (p0_5_1w 4)), (oX9 (p0_5_1a 5 0) (p0_5_1a 5) (p0_5_1k 5) (p0_5_1n 5) (p0_5_1w 5)), [((p0_5a 2), .inl (p0_5_1c, 6, .inr (.inr (.inr (.inr (fun i => some (p0_5_1a i 0)))))))]] : List va_W)) H := vP_perm (vP_fb hP) (bP (List.Perm.refl _))
        have hD : va_D A (List.flatten ([(oX11 (p0a 0) p0a p0w), (oX6 (p0a 9) p0_8a p0_8k p0_8w p0_8l), (oX0 (p0a 6) p0_5a p0_5k p0_5n p0_5w), (oX9 (p0_5_1a 0 0) (p0_5_1a 0) (p0_5_1k 0) (p0_5_1n 0) (p0_5_1w 0)), (oX9 (p0_5_1a 1 0) (p0_5_1a 1) (p0_5_1k 1) (p0_5_1n 1) (p0_5_1w 1)), (oX9 (p0_5_1a 2 0) (p0_5_1a 2) (p0_5_1k 2) (p0_5_1n 2) (p0_5_1w 2)), (oX9 (p0_5_1a 3 0) (p0_5_1a 3) (p0_5_1k 3) (p0_5_1n 3) (p0_5_1w 3)), (oX9 (p0_5_1a 4 0) (p0_5_1a 4) (p0_5_1k 4) (p0_5_1n 4) (p0_5_1w 4)), (oX9 (p0_5_1a 5 0) (p0_5_1a 5) (p0_5_1k 5) (p0_5_1n 5) (p0_5_1w 5)), [((p0_5a 2), .inl (p0_5_1c, 6, .inr (.inr (.inr (.inr (fun i => some (p0_5_1a i 0)))))))]] : List va_W)) := vD_perm (vD_fb hD) (bP (List.Perm.refl _))
        have hK : va_K (dC, dI) cls (List.flatten ([[], (tX6 p0_8k), (tX0 p0_5k), (tX9 (p0_5_1k 0)), (tX9 (p0_5_1k 1)), (tX9 (p0_5_1k 2)), (tX9 (p0_5_1k 3)), (tX9 (p0_5_1k 4)), (tX9 (p0_5_1k 5)), [(p0_5_1c, .object RX9)]] : List (List (ClassId × FieldType)))) s := vK_perm (vK_fb hK) (bP (List.Perm.refl _))
        obtain rfl : o_6 = r7 := hw.symm
        refine lv_istore (lv' := [(6, .int o_6), (5, .int o_4), (0, .ref (p0a 0)), (1, .int p1), (2, .int p2), (3, .int o_1), (4, .int v4_9)]) hx hb dL_isCodeRight_31 hl (by decide) rfl (fun ls hl => ?_)
        refine lv_aload_n hx hb dL_isCodeRight_33 rfl (lv_at hl 2 rfl) ?_
        refine lv_iload_n hx hb dL_isCodeRight_34 rfl (lv_at hl 3 rfl) ?_
        refine lv_iload hx hb dL_isCodeRight_35 (lv_at hl 6 rfl) ?_
        obtain ⟨o_8, hc_8, hrun⟩ := bnd9 hrun
        have hPx : va_P (dC, dI) cls ((List.flatten ([(oX11 (p0a 0) p0a p0w), (oX6 (p0a 9) p0_8a p0_8k p0_8w p0_8l), (oX0 (p0a 6) p0_5a p0_5k p0_5n p0_5w), (oX9 (p0_5_1a 0 0) (p0_5_1a 0) (p0_5_1k 0) (p0_5_1n 0) (p0_5_1w 0)), (oX9 (p0_5_1a 1 0) (p0_5_1a 1) (p0_5_1k 1) (p0_5_1n 1) (p0_5_1w 1)), (oX9 (p0_5_1a 2 0) (p0_5_1a 2) (p0_5_1k 2) (p0_5_1n 2) (p0_5_1w 2)), (oX9 (p0_5_1a 3 0) (p0_5_1a 3) (p0_5_1k 3) (p0_5_1n 3) (p0_5_1w 3)), (oX9 (p0_5_1a 4 0) (p0_5_1a 4) (p0_5_1k 4) (p0_5_1n 4) (p0_5_1w 4)), (oX9 (p0_5_1a 5 0) (p0_5_1a 5) (p0_5_1k 5) (p0_5_1n 5) (p0_5_1w 5)), [((p0_5a 2), .inl (p0_5_1c, 6, .inr (.inr (.inr (.inr (fun i => some (p0_5_1a i 0)))))))]] : List va_W)) ++ (List.flatten ([] : List va_W))) H := vP_fa (vP_perm hP (bP (List.Perm.refl _)))
        have hDx : va_D A ((List.flatten ([(oX11 (p0a 0) p0a p0w), (oX6 (p0a 9) p0_8a p0_8k p0_8w p0_8l), (oX0 (p0a 6) p0_5a p0_5k p0_5n p0_5w), (oX9 (p0_5_1a 0 0) (p0_5_1a 0) (p0_5_1k 0) (p0_5_1n 0) (p0_5_1w 0)), (oX9 (p0_5_1a 1 0) (p0_5_1a 1) (p0_5_1k 1) (p0_5_1n 1) (p0_5_1w 1)), (oX9 (p0_5_1a 2 0) (p0_5_1a 2) (p0_5_1k 2) (p0_5_1n 2) (p0_5_1w 2)), (oX9 (p0_5_1a 3 0) (p0_5_1a 3) (p0_5_1k 3) (p0_5_1n 3) (p0_5_1w 3)), (oX9 (p0_5_1a 4 0) (p0_5_1a 4) (p0_5_1k 4) (p0_5_1n 4) (p0_5_1w 4)), (oX9 (p0_5_1a 5 0) (p0_5_1a 5) (p0_5_1k 5) (p0_5_1n 5) (p0_5_1w 5)), [((p0_5a 2), .inl (p0_5_1c, 6, .inr (.inr (.inr (.inr (fun i => some (p0_5_1a i 0)))))))]] : List va_W)) ++ (List.flatten ([] : List va_W))) := vD_fa (vD_perm hD (bP (List.Perm.refl _)))
        have hKx : va_K (dC, dI) cls ((List.flatten ([[], (tX6 p0_8k), (tX0 p0_5k), (tX9 (p0_5_1k 0)), (tX9 (p0_5_1k 1)), (tX9 (p0_5_1k 2)), (tX9 (p0_5_1k 3)), (tX9 (p0_5_1k 4)), (tX9 (p0_5_1k 5)), [(p0_5_1c, .object RX9)]] : List (List (ClassId × FieldType)))) ++ (List.flatten ([] : List (List (ClassId × FieldType))))) s := vK_fa (vK_perm hK (bP (List.Perm.refl _)))
        have hPc := vP_l hPx
        have hDc := vD_l hDx
        have hKc := vK_l hKx
        have hFc := vfree hDx hS hA
        refine va_calli (va_runV (As := [.int p1, .int v4_9]) (rest := []) ⟨hx, hb, hml, hown, hts⟩ (kX11_codeLeft l dC dI (p0a := p0a) (p0w := p0w) (p1 := p1) (p2 := v4_9) (p0_8a := p0_8a) (p0_8k := p0_8k) (p0_8w := p0_8w) (p0_8l := p0_8l) (p0_5a := p0_5a) (p0_5k := p0_5k) (p0_5n := p0_5n) (p0_5w := p0_5w) (p0_5_1c := p0_5_1c) (p0_5_1a := p0_5_1a) (p0_5_1k := p0_5_1k) (p0_5_1n := p0_5_1n) (p0_5_1w := p0_5_1w) (sz := _) (o := o_8) (hrun := hc_8)) (cwV 2 hts (gi_V qw1541 qw1542 qw1543 qw129 (gi_z qw1540)) rfl rfl rfl (by decide +kernel) ⟨Nat.le_of_ble_eq_true rfl, Nat.le_of_ble_eq_true rfl⟩) ⟨PRE.blind, va_recv hKc hPc (ci := 11) (q0 := 0) rfl rfl, PRE.of hE hS hFc hPc hKc hDc⟩ rfl rfl hl.1 rfl (lv_room (Nat.le_of_ble_eq_true rfl)) dL_isCodeRight_37 ⟨(Nat.le_of_ble_eq_true rfl), (Nat.le_of_ble_eq_true rfl)⟩) hS (fun q _ h => hFc q h) hFc (fun r9 u t H locs ht hvm hw hB hz1 hk1 hS => ?_)
        obtain ⟨b1, b2, b3⟩ := hB
        rw [ht] at b1
        obtain ⟨hP, hD, hK⟩ := JOINC (wc := (List.flatten ([(oX11 (p0a 0) p0a p0w), (oX6 (p0a 9) p0_8a p0_8k p0_8w p0_8l), (oX0 (p0a 6) p0_5a p0_5k p0_5n p0_5w), (oX9 (p0_5_1a 0 0) (p0_5_1a 0) (p0_5_1k 0) (p0_5_1n 0) (p0_5_1w 0)), (oX9 (p0_5_1a 1 0) (p0_5_1a 1) (p0_5_1k 1) (p0_5_1n 1) (p0_5_1w 1)), (oX9 (p0_5_1a 2 0) (p0_5_1a 2) (p0_5_1k 2) (p0_5_1n 2) (p0_5_1w 2)), (oX9 (p0_5_1a 3 0) (p0_5_1a 3) (p0_5_1k 3) (p0_5_1n 3) (p0_5_1w 3)), (oX9 (p0_5_1a 4 0) (p0_5_1a 4) (p0_5_1k 4) (p0_5_1n 4) (p0_5_1w 4)), (oX9 (p0_5_1a 5 0) (p0_5_1a 5) (p0_5_1k 5) (p0_5_1n 5) (p0_5_1w 5)), [((p0_5a 2), .inl (p0_5_1c, 6, .inr (.inr (.inr (.inr (fun i => some (p0_5_1a i 0)))))))]] : List va_W))) (wr := (List.flatten ([] : List va_W))) (w1 := (List.flatten ([(oX11 (p0a 0) p0a p0w), (oX6 (p0a 9) p0_8a p0_8k p0_8w p0_8l), (oX0 (p0a 6) p0_5a p0_5k p0_5n p0_5w), (oX9 (p0_5_1a 0 0) (p0_5_1a 0) (p0_5_1k 0) (p0_5_1n 0) (p0_5_1w 0)), (oX9 (p0_5_1a 1 0) (p0_5_1a 1) (p0_5_1k 1) (p0_5_1n 1) (p0_5_1w 1)), (oX9 (p0_5_1a 2 0) (p0_5_1a 2) (p0_5_1k 2) (p0_5_1n 2) (p0_5_1w 2)), (oX9 (p0_5_1a 3 0) (p0_5_1a 3) (p0_5_1k 3) (p0_5_1n 3) (p0_5_1w 3)), (oX9 (p0_5_1a 4 0) (p0_5_1a 4) (p0_5_1k 4) (p0_5_1n 4) (p0_5_1w 4)), (oX9 (p0_5_1a 5 0) (p0_5_1a 5) (p0_5_1k 5) (p0_5_1n 5) (p0_5_1w 5)), [((p0_5a 2), .inl (p0_5_1c, 6, .inr (.inr (.inr (.inr (fun i => some (p0_5_1a i 0)))))))]] : List va_W))) (t1 := (List.flatten ([[], (tX6 p0_8k), (tX0 p0_5k), (tX9 (p0_5_1k 0)), (tX9 (p0_5_1k 1)), (tX9 (p0_5_1k 2)), (tX9 (p0_5_1k 3)), (tX9 (p0_5_1k 4)), (tX9 (p0_5_1k 5)), [(p0_5_1c, .object RX9)]] : List (List (ClassId × FieldType))))) hPx hDx hKx hk1 hFc b1 (va_K.moved hvm.symm b2) b3
        have hP : va_P (dC, dI) cls (List.flatten ([(oX11 (p0a 0) p0a p0w), (oX6 (p0a 9) p0_8a p0_8k p0_8w p0_8l), (oX0 (p0a 6) p0_5a p0_5k p0_5n p0_5w), (oX9 (p0_5_1a 0 0) (p0_5_1a 0) (p0_5_1k 0) (p0_5_1n 0) (p0_5_1w 0)), (oX9 (p0_5_1a 1 0) (p0_5_1a 1) (p0_5_1k 1) (p0_5_1n 1) (p0_5_1w 1)), (oX9 (p0_5_1a 2 0) (p0_5_1a 2) (p0_5_1k 2) (p0_5_1n 2) (p0_5_1w 2)), (oX9 (p0_5_1a 3 0) (p0_5_1a 3) (p0_5_1k 3) (p0_5_1n 3) (p0_5_1w 3)), (oX9 (p0_5_1a 4 0) (p0_5_1a 4) (p0_5_1k 4) (p0_5_1n 4) (p0_5_1w 4)), (oX9 (p0_5_1a 5 0) (p0_5_1a 5) (p0_5_1k 5) (p0_5_1n 5) (p0_5_1w 5)), [((p0_5a 2), .inl (p0_5_1c, 6, .inr (.inr (.inr (.inr (fun i => some (p0_5_1a i 0)))))))]] : List va_W)) H := vP_perm (vP_fb hP) (bP (List.Perm.refl _))
        have hD : va_D A (List.flatten ([(oX11 (p0a 0) p0a p0w), (oX6 (p0a 9) p0_8a p0_8k p0_8w p0_8l), (oX0 (p0a 6) p0_5a p0_5k p0_5n p0_5w), (oX9 (p0_5_1a 0 0) (p0_5_1a 0) (p0_5_1k 0) (p0_5_1n 0) (p0_5_1w 0)), (oX9 (p0_5_1a 1 0) (p0_5_1a 1) (p0_5_1k 1) (p0_5_1n 1) (p0_5_1w 1)), (oX9 (p0_5_1a 2 0) (p0_5_1a 2) (p0_5_1k 2) (p0_5_1n 2) (p0_5_1w 2)), (oX9 (p0_5_1a 3 0) (p0_5_1a 3) (p0_5_1k 3) (p0_5_1n 3) (p0_5_1w 3)), (oX9 (p0_5_1a 4 0) (p0_5_1a 4) (p0_5_1k 4) (p0_5_1n 4) (p0_5_1w 4)), (oX9 (p0_5_1a 5 0) (p0_5_1a 5) (p0_5_1k 5) (p0_5_1n 5) (p0_5_1w 5)), [((p0_5a 2), .inl (p0_5_1c, 6, .inr (.inr (.inr (.inr (fun i => some (p0_5_1a i 0)))))))]] : List va_W)) := vD_perm (vD_fb hD) (bP (List.Perm.refl _))
        have hK : va_K (dC, dI) cls (List.flatten ([[], (tX6 p0_8k), (tX0 p0_5k), (tX9 (p0_5_1k 0)), (tX9 (p0_5_1k 1)), (tX9 (p0_5_1k 2)), (tX9 (p0_5_1k 3)), (tX9 (p0_5_1k 4)), (tX9 (p0_5_1k 5)), [(p0_5_1c, .object RX9)]] : List (List (ClassId × FieldType)))) s := vK_perm (vK_fb hK) (bP (List.Perm.refl _))
        obtain rfl : o_8 = r9 := hw.symm
        refine lv_istore (lv' := [(7, .int o_8), (6, .int o_6), (5, .int o_4), (0, .ref (p0a 0)), (1, .int p1), (2, .int p2), (3, .int o_1), (4, .int v4_9)]) hx hb dL_isCodeRight_40 hl (by decide) rfl (fun ls hl => ?_)
        refine lv_aload_n hx hb dL_isCodeRight_42 rfl (lv_at hl 3 rfl) ?_
        refine lv_iload_n hx hb dL_isCodeRight_43 rfl (lv_at hl 4 rfl) ?_
        refine lv_iload hx hb dL_isCodeRight_44 (lv_at hl 7 rfl) ?_
        obtain ⟨o_10, hc_10, hrun⟩ := bnd9 hrun
        have hPx : va_P (dC, dI) cls ((List.flatten ([(oX11 (p0a 0) p0a p0w), (oX6 (p0a 9) p0_8a p0_8k p0_8w p0_8l), (oX0 (p0a 6) p0_5a p0_5k p0_5n p0_5w), (oX9 (p0_5_1a 0 0) (p0_5_1a 0) (p0_5_1k 0) (p0_5_1n 0) (p0_5_1w 0)), (oX9 (p0_5_1a 1 0) (p0_5_1a 1) (p0_5_1k 1) (p0_5_1n 1) (p0_5_1w 1)), (oX9 (p0_5_1a 2 0) (p0_5_1a 2) (p0_5_1k 2) (p0_5_1n 2) (p0_5_1w 2)), (oX9 (p0_5_1a 3 0) (p0_5_1a 3) (p0_5_1k 3) (p0_5_1n 3) (p0_5_1w 3)), (oX9 (p0_5_1a 4 0) (p0_5_1a 4) (p0_5_1k 4) (p0_5_1n 4) (p0_5_1w 4)), (oX9 (p0_5_1a 5 0) (p0_5_1a 5) (p0_5_1k 5) (p0_5_1n 5) (p0_5_1w 5)), [((p0_5a 2), .inl (p0_5_1c, 6, .inr (.inr (.inr (.inr (fun i => some (p0_5_1a i 0)))))))]] : List va_W)) ++ (List.flatten ([] : List va_W))) H := vP_fa (vP_perm hP (bP (List.Perm.refl _)))
        have hDx : va_D A ((List.flatten ([(oX11 (p0a 0) p0a p0w), (oX6 (p0a 9) p0_8a p0_8k p0_8w p0_8l), (oX0 (p0a 6) p0_5a p0_5k p0_5n p0_5w), (oX9 (p0_5_1a 0 0) (p0_5_1a 0) (p0_5_1k 0) (p0_5_1n 0) (p0_5_1w 0)), (oX9 (p0_5_1a 1 0) (p0_5_1a 1) (p0_5_1k 1) (p0_5_1n 1) (p0_5_1w 1)), (oX9 (p0_5_1a 2 0) (p0_5_1a 2) (p0_5_1k 2) (p0_5_1n 2) (p0_5_1w 2)), (oX9 (p0_5_1a 3 0) (p0_5_1a 3) (p0_5_1k 3) (p0_5_1n 3) (p0_5_1w 3)), (oX9 (p0_5_1a 4 0) (p0_5_1a 4) (p0_5_1k 4) (p0_5_1n 4) (p0_5_1w 4)), (oX9 (p0_5_1a 5 0) (p0_5_1a 5) (p0_5_1k 5) (p0_5_1n 5) (p0_5_1w 5)), [((p0_5a 2), .inl (p0_5_1c, 6, .inr (.inr (.inr (.inr (fun i => some (p0_5_1a i 0)))))))]] : List va_W)) ++ (List.flatten ([] : List va_W))) := vD_fa (vD_perm hD (bP (List.Perm.refl _)))
        have hKx : va_K (dC, dI) cls ((List.flatten ([[], (tX6 p0_8k), (tX0 p0_5k), (tX9 (p0_5_1k 0)), (tX9 (p0_5_1k 1)), (tX9 (p0_5_1k 2)), (tX9 (p0_5_1k 3)), (tX9 (p0_5_1k 4)), (tX9 (p0_5_1k 5)), [(p0_5_1c, .object RX9)]] : List (List (ClassId × FieldType)))) ++ (List.flatten ([] : List (List (ClassId × FieldType))))) s := vK_fa (vK_perm hK (bP (List.Perm.refl _)))
        have hPc := vP_l hPx
        have hDc := vD_l hDx
        have hKc := vK_l hKx
        have hFc := vfree hDx hS hA
        refine va_calli (va_runV (As := [.int p1, .int v4_9]) (rest := []) ⟨hx, hb, hml, hown, hts⟩ (kX11_codeRight l dC dI (p0a := p0a) (p0w := p0w) (p1 := p1) (p2 := v4_9) (p0_8a := p0_8a) (p0_8k := p0_8k) (p0_8w := p0_8w) (p0_8l := p0_8l) (p0_5a := p0_5a) (p0_5k := p0_5k) (p0_5n := p0_5n) (p0_5w := p0_5w) (p0_5_1c := p0_5_1c) (p0_5_1a := p0_5_1a) (p0_5_1k := p0_5_1k) (p0_5_1n := p0_5_1n) (p0_5_1w := p0_5_1w) (sz := _) (o := o_10) (hrun := hc_10)) (cwV 2 hts (gi_V qw1545 qw1546 qw1547 qw129 (gi_z qw1544)) rfl rfl rfl (by decide +kernel) ⟨Nat.le_of_ble_eq_true rfl, Nat.le_of_ble_eq_true rfl⟩) ⟨PRE.blind, va_recv hKc hPc (ci := 11) (q0 := 0) rfl rfl, PRE.of hE hS hFc hPc hKc hDc⟩ rfl rfl hl.1 rfl (lv_room (Nat.le_of_ble_eq_true rfl)) dL_isCodeRight_46 ⟨(Nat.le_of_ble_eq_true rfl), (Nat.le_of_ble_eq_true rfl)⟩) hS (fun q _ h => hFc q h) hFc (fun r11 u t H locs ht hvm hw hB hz1 hk1 hS => ?_)
        obtain ⟨b1, b2, b3⟩ := hB
        rw [ht] at b1
        obtain ⟨hP, hD, hK⟩ := JOINC (wc := (List.flatten ([(oX11 (p0a 0) p0a p0w), (oX6 (p0a 9) p0_8a p0_8k p0_8w p0_8l), (oX0 (p0a 6) p0_5a p0_5k p0_5n p0_5w), (oX9 (p0_5_1a 0 0) (p0_5_1a 0) (p0_5_1k 0) (p0_5_1n 0) (p0_5_1w 0)), (oX9 (p0_5_1a 1 0) (p0_5_1a 1) (p0_5_1k 1) (p0_5_1n 1) (p0_5_1w 1)), (oX9 (p0_5_1a 2 0) (p0_5_1a 2) (p0_5_1k 2) (p0_5_1n 2) (p0_5_1w 2)), (oX9 (p0_5_1a 3 0) (p0_5_1a 3) (p0_5_1k 3) (p0_5_1n 3) (p0_5_1w 3)), (oX9 (p0_5_1a 4 0) (p0_5_1a 4) (p0_5_1k 4) (p0_5_1n 4) (p0_5_1w 4)), (oX9 (p0_5_1a 5 0) (p0_5_1a 5) (p0_5_1k 5) (p0_5_1n 5) (p0_5_1w 5)), [((p0_5a 2), .inl (p0_5_1c, 6, .inr (.inr (.inr (.inr (fun i => some (p0_5_1a i 0)))))))]] : List va_W))) (wr := (List.flatten ([] : List va_W))) (w1 := (List.flatten ([(oX11 (p0a 0) p0a p0w), (oX6 (p0a 9) p0_8a p0_8k p0_8w p0_8l), (oX0 (p0a 6) p0_5a p0_5k p0_5n p0_5w), (oX9 (p0_5_1a 0 0) (p0_5_1a 0) (p0_5_1k 0) (p0_5_1n 0) (p0_5_1w 0)), (oX9 (p0_5_1a 1 0) (p0_5_1a 1) (p0_5_1k 1) (p0_5_1n 1) (p0_5_1w 1)), (oX9 (p0_5_1a 2 0) (p0_5_1a 2) (p0_5_1k 2) (p0_5_1n 2) (p0_5_1w 2)), (oX9 (p0_5_1a 3 0) (p0_5_1a 3) (p0_5_1k 3) (p0_5_1n 3) (p0_5_1w 3)), (oX9 (p0_5_1a 4 0) (p0_5_1a 4) (p0_5_1k 4) (p0_5_1n 4) (p0_5_1w 4)), (oX9 (p0_5_1a 5 0) (p0_5_1a 5) (p0_5_1k 5) (p0_5_1n 5) (p0_5_1w 5)), [((p0_5a 2), .inl (p0_5_1c, 6, .inr (.inr (.inr (.inr (fun i => some (p0_5_1a i 0)))))))]] : List va_W))) (t1 := (List.flatten ([[], (tX6 p0_8k), (tX0 p0_5k), (tX9 (p0_5_1k 0)), (tX9 (p0_5_1k 1)), (tX9 (p0_5_1k 2)), (tX9 (p0_5_1k 3)), (tX9 (p0_5_1k 4)), (tX9 (p0_5_1k 5)), [(p0_5_1c, .object RX9)]] : List (List (ClassId × FieldType))))) hPx hDx hKx hk1 hFc b1 (va_K.moved hvm.symm b2) b3
        have hP : va_P (dC, dI) cls (List.flatten ([(oX11 (p0a 0) p0a p0w), (oX6 (p0a 9) p0_8a p0_8k p0_8w p0_8l), (oX0 (p0a 6) p0_5a p0_5k p0_5n p0_5w), (oX9 (p0_5_1a 0 0) (p0_5_1a 0) (p0_5_1k 0) (p0_5_1n 0) (p0_5_1w 0)), (oX9 (p0_5_1a 1 0) (p0_5_1a 1) (p0_5_1k 1) (p0_5_1n 1) (p0_5_1w 1)), (oX9 (p0_5_1a 2 0) (p0_5_1a 2) (p0_5_1k 2) (p0_5_1n 2) (p0_5_1w 2)), (oX9 (p0_5_1a 3 0) (p0_5_1a 3) (p0_5_1k 3) (p0_5_1n 3) (p0_5_1w 3)), (oX9 (p0_5_1a 4 0) (p0_5_1a 4) (p0_5_1k 4) (p0_5_1n 4) (p0_5_1w 4)), (oX9 (p0_5_1a 5 0) (p0_5_1a 5) (p0_5_1k 5) (p0_5_1n 5) (p0_5_1w 5)), [((p0_5a 2), .inl (p0_5_1c, 6, .inr (.inr (.inr (.inr (fun i => some (p0_5_1a i 0)))))))]] : List va_W)) H := vP_perm (vP_fb hP) (bP (List.Perm.refl _))
        have hD : va_D A (List.flatten ([(oX11 (p0a 0) p0a p0w), (oX6 (p0a 9) p0_8a p0_8k p0_8w p0_8l), (oX0 (p0a 6) p0_5a p0_5k p0_5n p0_5w), (oX9 (p0_5_1a 0 0) (p0_5_1a 0) (p0_5_1k 0) (p0_5_1n 0) (p0_5_1w 0)), (oX9 (p0_5_1a 1 0) (p0_5_1a 1) (p0_5_1k 1) (p0_5_1n 1) (p0_5_1w 1)), (oX9 (p0_5_1a 2 0) (p0_5_1a 2) (p0_5_1k 2) (p0_5_1n 2) (p0_5_1w 2)), (oX9 (p0_5_1a 3 0) (p0_5_1a 3) (p0_5_1k 3) (p0_5_1n 3) (p0_5_1w 3)), (oX9 (p0_5_1a 4 0) (p0_5_1a 4) (p0_5_1k 4) (p0_5_1n 4) (p0_5_1w 4)), (oX9 (p0_5_1a 5 0) (p0_5_1a 5) (p0_5_1k 5) (p0_5_1n 5) (p0_5_1w 5)), [((p0_5a 2), .inl (p0_5_1c, 6, .inr (.inr (.inr (.inr (fun i => some (p0_5_1a i 0)))))))]] : List va_W)) := vD_perm (vD_fb hD) (bP (List.Perm.refl _))
        have hK : va_K (dC, dI) cls (List.flatten ([[], (tX6 p0_8k), (tX0 p0_5k), (tX9 (p0_5_1k 0)), (tX9 (p0_5_1k 1)), (tX9 (p0_5_1k 2)), (tX9 (p0_5_1k 3)), (tX9 (p0_5_1k 4)), (tX9 (p0_5_1k 5)), [(p0_5_1c, .object RX9)]] : List (List (ClassId × FieldType)))) s := vK_perm (vK_fb hK) (bP (List.Perm.refl _))
        obtain rfl : o_10 = r11 := hw.symm
        refine lv_istore (lv' := [(8, .int o_10), (7, .int o_8), (6, .int o_6), (5, .int o_4), (0, .ref (p0a 0)), (1, .int p1), (2, .int p2), (3, .int o_1), (4, .int v4_9)]) hx hb dL_isCodeRight_49 hl (by decide) rfl (fun ls hl => ?_)
        refine lv_iload hx hb dL_isCodeRight_51 (lv_at hl 3 rfl) ?_
        refine lv_bipush (v := 18) hx hb dL_isCodeRight_53 (by decide) ?_
        have J91 : ∀ (y0_91 : Int32) (H : Heap) (locs : List Loc) (ls : Array Slot), (fL_isCodeRight_J91 (fL_isCodeRight_L9 p1 p2 p0_8w p0_5w p0_5_1n p0_5_1w o_1 n_9) p1 p2 p0_8w p0_5w o_1 v4_9 o_4 o_6 o_8 o_10 y0_91) = some o9 → va_P (dC, dI) cls (List.flatten ([(oX11 (p0a 0) p0a p0w), (oX6 (p0a 9) p0_8a p0_8k p0_8w p0_8l), (oX0 (p0a 6) p0_5a p0_5k p0_5n p0_5w), (oX9 (p0_5_1a 0 0) (p0_5_1a 0) (p0_5_1k 0) (p0_5_1n 0) (p0_5_1w 0)), (oX9 (p0_5_1a 1 0) (p0_5_1a 1) (p0_5_1k 1) (p0_5_1n 1) (p0_5_1w 1)), (oX9 (p0_5_1a 2 0) (p0_5_1a 2) (p0_5_1k 2) (p0_5_1n 2) (p0_5_1w 2)), (oX9 (p0_5_1a 3 0) (p0_5_1a 3) (p0_5_1k 3) (p0_5_1n 3) (p0_5_1w 3)), (oX9 (p0_5_1a 4 0) (p0_5_1a 4) (p0_5_1k 4) (p0_5_1n 4) (p0_5_1w 4)), (oX9 (p0_5_1a 5 0) (p0_5_1a 5) (p0_5_1k 5) (p0_5_1n 5) (p0_5_1w 5)), [((p0_5a 2), .inl (p0_5_1c, 6, .inr (.inr (.inr (.inr (fun i => some (p0_5_1a i 0)))))))]] : List va_W)) H → va_D A (List.flatten ([(oX11 (p0a 0) p0a p0w), (oX6 (p0a 9) p0_8a p0_8k p0_8w p0_8l), (oX0 (p0a 6) p0_5a p0_5k p0_5n p0_5w), (oX9 (p0_5_1a 0 0) (p0_5_1a 0) (p0_5_1k 0) (p0_5_1n 0) (p0_5_1w 0)), (oX9 (p0_5_1a 1 0) (p0_5_1a 1) (p0_5_1k 1) (p0_5_1n 1) (p0_5_1w 1)), (oX9 (p0_5_1a 2 0) (p0_5_1a 2) (p0_5_1k 2) (p0_5_1n 2) (p0_5_1w 2)), (oX9 (p0_5_1a 3 0) (p0_5_1a 3) (p0_5_1k 3) (p0_5_1n 3) (p0_5_1w 3)), (oX9 (p0_5_1a 4 0) (p0_5_1a 4) (p0_5_1k 4) (p0_5_1n 4) (p0_5_1w 4)), (oX9 (p0_5_1a 5 0) (p0_5_1a 5) (p0_5_1k 5) (p0_5_1n 5) (p0_5_1w 5)), [((p0_5a 2), .inl (p0_5_1c, 6, .inr (.inr (.inr (.inr (fun i => some (p0_5_1a i 0)))))))]] : List va_W)) → va_K (dC, dI) cls (List.flatten ([[], (tX6 p0_8k), (tX0 p0_5k), (tX9 (p0_5_1k 0)), (tX9 (p0_5_1k 1)), (tX9 (p0_5_1k 2)), (tX9 (p0_5_1k 3)), (tX9 (p0_5_1k 4)), (tX9 (p0_5_1k 5)), [(p0_5_1c, .object RX9)]] : List (List (ClassId × FieldType)))) s → va_S A s.heap H locs → lv_has ls 12 [(0, .ref (p0a 0)), (1, .int p1), (2, .int p2), (3, .int o_1), (4, .int v4_9), (5, .int o_4), (6, .int o_6), (7, .int o_8), (8, .int o_10)] → W p l e ({ frames := 3, cells := 0, slots := 0, locals := 66 } : Room) s m ([.ref (p0a 0), .int p1, .int p2] : List Value).toArray below meth c H locs 0 0 Q (F0 m 91 ls [.int y0_91]) := by
          intro y0_91 H locs ls hrun hP hD hK hS hl 
          unfold fL_isCodeRight_J91 at hrun
          refine lv_istore (lv' := [(9, .int y0_91), (0, .ref (p0a 0)), (1, .int p1), (2, .int p2), (3, .int o_1), (4, .int v4_9), (5, .int o_4), (6, .int o_6), (7, .int o_8), (8, .int o_10)]) hx hb dL_isCodeRight_91 hl (by decide) rfl (fun ls hl => ?_)
          refine lv_iload hx hb dL_isCodeRight_93 (lv_at hl 6 rfl) ?_
          rcases br9 hrun with ⟨hc12, hrun⟩ | ⟨hc12, hrun⟩
          · refine lv_if_lt (tgt := 126) hx hb dL_isCodeRight_95 (by decide) (fun _ => ?_) (fun c => absurd hc12 c)
            refine lv_iconst (v := 0) hx hb dL_isCodeRight_126 (by decide) ?_
            have ho9 : 0 = o := hr9 _ (Option.some.inj hrun).symm
            have hP9 : va_P (dC, dI) cls (List.flatten ([(oX11 (p0a 0) p0a p0w), (oX6 (p0a 9) p0_8a p0_8k p0_8w p0_8l), (oX0 (p0a 6) p0_5a p0_5k p0_5n p0_5w), (oX9 (p0_5_1a 0 0) (p0_5_1a 0) (p0_5_1k 0) (p0_5_1n 0) (p0_5_1w 0)), (oX9 (p0_5_1a 1 0) (p0_5_1a 1) (p0_5_1k 1) (p0_5_1n 1) (p0_5_1w 1)), (oX9 (p0_5_1a 2 0) (p0_5_1a 2) (p0_5_1k 2) (p0_5_1n 2) (p0_5_1w 2)), (oX9 (p0_5_1a 3 0) (p0_5_1a 3) (p0_5_1k 3) (p0_5_1n 3) (p0_5_1w 3)), (oX9 (p0_5_1a 4 0) (p0_5_1a 4) (p0_5_1k 4) (p0_5_1n 4) (p0_5_1w 4)), (oX9 (p0_5_1a 5 0) (p0_5_1a 5) (p0_5_1k 5) (p0_5_1n 5) (p0_5_1w 5)), [((p0_5a 2), .inl (p0_5_1c, 6, .inr (.inr (.inr (.inr (fun i => some (p0_5_1a i 0)))))))]] : List va_W)) H := by first | exact hP | (rw [← ho9]; exact hP)
            have hD9 : va_D A (List.flatten ([(oX11 (p0a 0) p0a p0w), (oX6 (p0a 9) p0_8a p0_8k p0_8w p0_8l), (oX0 (p0a 6) p0_5a p0_5k p0_5n p0_5w), (oX9 (p0_5_1a 0 0) (p0_5_1a 0) (p0_5_1k 0) (p0_5_1n 0) (p0_5_1w 0)), (oX9 (p0_5_1a 1 0) (p0_5_1a 1) (p0_5_1k 1) (p0_5_1n 1) (p0_5_1w 1)), (oX9 (p0_5_1a 2 0) (p0_5_1a 2) (p0_5_1k 2) (p0_5_1n 2) (p0_5_1w 2)), (oX9 (p0_5_1a 3 0) (p0_5_1a 3) (p0_5_1k 3) (p0_5_1n 3) (p0_5_1w 3)), (oX9 (p0_5_1a 4 0) (p0_5_1a 4) (p0_5_1k 4) (p0_5_1n 4) (p0_5_1w 4)), (oX9 (p0_5_1a 5 0) (p0_5_1a 5) (p0_5_1k 5) (p0_5_1n 5) (p0_5_1w 5)), [((p0_5a 2), .inl (p0_5_1c, 6, .inr (.inr (.inr (.inr (fun i => some (p0_5_1a i 0)))))))]] : List va_W)) := by first | exact hD | (rw [← ho9]; exact hD)
            subst hQ
            exact W.zret (v := 0) hx hb hr (by decide) (fun t ht hW => ⟨⟨0, (), rfl, (by rw [← ho9]), ⟨by rw [ht]; exact hP9, va_K.moved hW.alike hK, hD9⟩⟩, hS.F ht⟩) hS.2.2 dL_isCodeRight_127
          · refine lv_if_lt (tgt := 126) hx hb dL_isCodeRight_95 (by decide) (fun c => absurd c hc12) (fun _ => ?_)
            refine lv_iload hx hb dL_isCodeRight_98 (lv_at hl 6 rfl) ?_
            refine lv_bipush (v := 28) hx hb dL_isCodeRight_100 (by decide) ?_
            rcases br9 hrun with ⟨hc13, hrun⟩ | ⟨hc13, hrun⟩
            · refine lv_icmp_gt (tgt := 126) hx hb dL_isCodeRight_102 (by decide) (fun _ => ?_) (fun c => absurd hc13 c)
              refine lv_iconst (v := 0) hx hb dL_isCodeRight_126 (by decide) ?_
              have ho9 : 0 = o := hr9 _ (Option.some.inj hrun).symm
              have hP9 : va_P (dC, dI) cls (List.flatten ([(oX11 (p0a 0) p0a p0w), (oX6 (p0a 9) p0_8a p0_8k p0_8w p0_8l), (oX0 (p0a 6) p0_5a p0_5k p0_5n p0_5w), (oX9 (p0_5_1a 0 0) (p0_5_1a 0) (p0_5_1k 0) (p0_5_1n 0) (p0_5_1w 0)), (oX9 (p0_5_1a 1 0) (p0_5_1a 1) (p0_5_1k 1) (p0_5_1n 1) (p0_5_1w 1)), (oX9 (p0_5_1a 2 0) (p0_5_1a 2) (p0_5_1k 2) (p0_5_1n 2) (p0_5_1w 2)), (oX9 (p0_5_1a 3 0) (p0_5_1a 3) (p0_5_1k 3) (p0_5_1n 3) (p0_5_1w 3)), (oX9 (p0_5_1a 4 0) (p0_5_1a 4) (p0_5_1k 4) (p0_5_1n 4) (p0_5_1w 4)), (oX9 (p0_5_1a 5 0) (p0_5_1a 5) (p0_5_1k 5) (p0_5_1n 5) (p0_5_1w 5)), [((p0_5a 2), .inl (p0_5_1c, 6, .inr (.inr (.inr (.inr (fun i => some (p0_5_1a i 0)))))))]] : List va_W)) H := by first | exact hP | (rw [← ho9]; exact hP)
              have hD9 : va_D A (List.flatten ([(oX11 (p0a 0) p0a p0w), (oX6 (p0a 9) p0_8a p0_8k p0_8w p0_8l), (oX0 (p0a 6) p0_5a p0_5k p0_5n p0_5w), (oX9 (p0_5_1a 0 0) (p0_5_1a 0) (p0_5_1k 0) (p0_5_1n 0) (p0_5_1w 0)), (oX9 (p0_5_1a 1 0) (p0_5_1a 1) (p0_5_1k 1) (p0_5_1n 1) (p0_5_1w 1)), (oX9 (p0_5_1a 2 0) (p0_5_1a 2) (p0_5_1k 2) (p0_5_1n 2) (p0_5_1w 2)), (oX9 (p0_5_1a 3 0) (p0_5_1a 3) (p0_5_1k 3) (p0_5_1n 3) (p0_5_1w 3)), (oX9 (p0_5_1a 4 0) (p0_5_1a 4) (p0_5_1k 4) (p0_5_1n 4) (p0_5_1w 4)), (oX9 (p0_5_1a 5 0) (p0_5_1a 5) (p0_5_1k 5) (p0_5_1n 5) (p0_5_1w 5)), [((p0_5a 2), .inl (p0_5_1c, 6, .inr (.inr (.inr (.inr (fun i => some (p0_5_1a i 0)))))))]] : List va_W)) := by first | exact hD | (rw [← ho9]; exact hD)
              subst hQ
              exact W.zret (v := 0) hx hb hr (by decide) (fun t ht hW => ⟨⟨0, (), rfl, (by rw [← ho9]), ⟨by rw [ht]; exact hP9, va_K.moved hW.alike hK, hD9⟩⟩, hS.F ht⟩) hS.2.2 dL_isCodeRight_127
            · refine lv_icmp_gt (tgt := 126) hx hb dL_isCodeRight_102 (by decide) (fun c => absurd c hc13) (fun _ => ?_)
              refine lv_iload hx hb dL_isCodeRight_105 (lv_at hl 0 rfl) ?_
              refine lv_iload hx hb dL_isCodeRight_107 (lv_at hl 7 rfl) ?_
              have J117 : ∀ (y0_117 : Int32) (y1_117 : Int32) (H : Heap) (locs : List Loc) (ls : Array Slot), (fL_isCodeRight_J117 (fL_isCodeRight_L9 p1 p2 p0_8w p0_5w p0_5_1n p0_5_1w o_1 n_9) p1 p2 p0_8w p0_5w o_1 v4_9 o_4 o_6 o_8 o_10 y0_117 y1_117) = some o9 → va_P (dC, dI) cls (List.flatten ([(oX11 (p0a 0) p0a p0w), (oX6 (p0a 9) p0_8a p0_8k p0_8w p0_8l), (oX0 (p0a 6) p0_5a p0_5k p0_5n p0_5w), (oX9 (p0_5_1a 0 0) (p0_5_1a 0) (p0_5_1k 0) (p0_5_1n 0) (p0_5_1w 0)), (oX9 (p0_5_1a 1 0) (p0_5_1a 1) (p0_5_1k 1) (p0_5_1n 1) (p0_5_1w 1)), (oX9 (p0_5_1a 2 0) (p0_5_1a 2) (p0_5_1k 2) (p0_5_1n 2) (p0_5_1w 2)), (oX9 (p0_5_1a 3 0) (p0_5_1a 3) (p0_5_1k 3) (p0_5_1n 3) (p0_5_1w 3)), (oX9 (p0_5_1a 4 0) (p0_5_1a 4) (p0_5_1k 4) (p0_5_1n 4) (p0_5_1w 4)), (oX9 (p0_5_1a 5 0) (p0_5_1a 5) (p0_5_1k 5) (p0_5_1n 5) (p0_5_1w 5)), [((p0_5a 2), .inl (p0_5_1c, 6, .inr (.inr (.inr (.inr (fun i => some (p0_5_1a i 0)))))))]] : List va_W)) H → va_D A (List.flatten ([(oX11 (p0a 0) p0a p0w), (oX6 (p0a 9) p0_8a p0_8k p0_8w p0_8l), (oX0 (p0a 6) p0_5a p0_5k p0_5n p0_5w), (oX9 (p0_5_1a 0 0) (p0_5_1a 0) (p0_5_1k 0) (p0_5_1n 0) (p0_5_1w 0)), (oX9 (p0_5_1a 1 0) (p0_5_1a 1) (p0_5_1k 1) (p0_5_1n 1) (p0_5_1w 1)), (oX9 (p0_5_1a 2 0) (p0_5_1a 2) (p0_5_1k 2) (p0_5_1n 2) (p0_5_1w 2)), (oX9 (p0_5_1a 3 0) (p0_5_1a 3) (p0_5_1k 3) (p0_5_1n 3) (p0_5_1w 3)), (oX9 (p0_5_1a 4 0) (p0_5_1a 4) (p0_5_1k 4) (p0_5_1n 4) (p0_5_1w 4)), (oX9 (p0_5_1a 5 0) (p0_5_1a 5) (p0_5_1k 5) (p0_5_1n 5) (p0_5_1w 5)), [((p0_5a 2), .inl (p0_5_1c, 6, .inr (.inr (.inr (.inr (fun i => some (p0_5_1a i 0)))))))]] : List va_W)) → va_K (dC, dI) cls (List.flatten ([[], (tX6 p0_8k), (tX0 p0_5k), (tX9 (p0_5_1k 0)), (tX9 (p0_5_1k 1)), (tX9 (p0_5_1k 2)), (tX9 (p0_5_1k 3)), (tX9 (p0_5_1k 4)), (tX9 (p0_5_1k 5)), [(p0_5_1c, .object RX9)]] : List (List (ClassId × FieldType)))) s → va_S A s.heap H locs → lv_has ls 12 [(0, .ref (p0a 0)), (1, .int p1), (2, .int p2), (3, .int o_1), (4, .int v4_9), (5, .int o_4), (6, .int o_6), (7, .int o_8), (8, .int o_10)] → W p l e ({ frames := 3, cells := 0, slots := 0, locals := 66 } : Room) s m ([.ref (p0a 0), .int p1, .int p2] : List Value).toArray below meth c H locs 0 0 Q (F0 m 117 ls [.int y0_117, .int y1_117]) := by
                intro y0_117 y1_117 H locs ls hrun hP hD hK hS hl 
                unfold fL_isCodeRight_J117 at hrun
                rcases br9 hrun with ⟨hc14, hrun⟩ | ⟨hc14, hrun⟩
                · refine lv_icmp_ne (tgt := 126) hx hb dL_isCodeRight_117 (by decide) (fun c => absurd hc14 c) (fun _ => ?_)
                  refine lv_iload hx hb dL_isCodeRight_120 (lv_at hl 6 rfl) ?_
                  refine lv_iload_n hx hb dL_isCodeRight_122 rfl (lv_at hl 2 rfl) ?_
                  rcases br9 hrun with ⟨hc15, hrun⟩ | ⟨hc15, hrun⟩
                  · refine lv_icmp_lt (tgt := 128) hx hb dL_isCodeRight_123 (by decide) (fun _ => ?_) (fun c => absurd hc15 c)
                    refine lv_iload hx hb dL_isCodeRight_128 (lv_at hl 5 rfl) ?_
                    have J180 : ∀ (y0_180 : Int32) (H : Heap) (locs : List Loc) (ls : Array Slot), (fL_isCodeRight_J180 (fL_isCodeRight_L9 p1 p2 p0_8w p0_5w p0_5_1n p0_5_1w o_1 n_9) p1 p2 p0_8w p0_5w o_1 v4_9 o_4 o_6 o_8 o_10 y0_180) = some o9 → va_P (dC, dI) cls (List.flatten ([(oX11 (p0a 0) p0a p0w), (oX6 (p0a 9) p0_8a p0_8k p0_8w p0_8l), (oX0 (p0a 6) p0_5a p0_5k p0_5n p0_5w), (oX9 (p0_5_1a 0 0) (p0_5_1a 0) (p0_5_1k 0) (p0_5_1n 0) (p0_5_1w 0)), (oX9 (p0_5_1a 1 0) (p0_5_1a 1) (p0_5_1k 1) (p0_5_1n 1) (p0_5_1w 1)), (oX9 (p0_5_1a 2 0) (p0_5_1a 2) (p0_5_1k 2) (p0_5_1n 2) (p0_5_1w 2)), (oX9 (p0_5_1a 3 0) (p0_5_1a 3) (p0_5_1k 3) (p0_5_1n 3) (p0_5_1w 3)), (oX9 (p0_5_1a 4 0) (p0_5_1a 4) (p0_5_1k 4) (p0_5_1n 4) (p0_5_1w 4)), (oX9 (p0_5_1a 5 0) (p0_5_1a 5) (p0_5_1k 5) (p0_5_1n 5) (p0_5_1w 5)), [((p0_5a 2), .inl (p0_5_1c, 6, .inr (.inr (.inr (.inr (fun i => some (p0_5_1a i 0)))))))]] : List va_W)) H → va_D A (List.flatten ([(oX11 (p0a 0) p0a p0w), (oX6 (p0a 9) p0_8a p0_8k p0_8w p0_8l), (oX0 (p0a 6) p0_5a p0_5k p0_5n p0_5w), (oX9 (p0_5_1a 0 0) (p0_5_1a 0) (p0_5_1k 0) (p0_5_1n 0) (p0_5_1w 0)), (oX9 (p0_5_1a 1 0) (p0_5_1a 1) (p0_5_1k 1) (p0_5_1n 1) (p0_5_1w 1)), (oX9 (p0_5_1a 2 0) (p0_5_1a 2) (p0_5_1k 2) (p0_5_1n 2) (p0_5_1w 2)), (oX9 (p0_5_1a 3 0) (p0_5_1a 3) (p0_5_1k 3) (p0_5_1n 3) (p0_5_1w 3)), (oX9 (p0_5_1a 4 0) (p0_5_1a 4) (p0_5_1k 4) (p0_5_1n 4) (p0_5_1w 4)), (oX9 (p0_5_1a 5 0) (p0_5_1a 5) (p0_5_1k 5) (p0_5_1n 5) (p0_5_1w 5)), [((p0_5a 2), .inl (p0_5_1c, 6, .inr (.inr (.inr (.inr (fun i => some (p0_5_1a i 0)))))))]] : List va_W)) → va_K (dC, dI) cls (List.flatten ([[], (tX6 p0_8k), (tX0 p0_5k), (tX9 (p0_5_1k 0)), (tX9 (p0_5_1k 1)), (tX9 (p0_5_1k 2)), (tX9 (p0_5_1k 3)), (tX9 (p0_5_1k 4)), (tX9 (p0_5_1k 5)), [(p0_5_1c, .object RX9)]] : List (List (ClassId × FieldType)))) s → va_S A s.heap H locs → lv_has ls 12 [(0, .ref (p0a 0)), (1, .int p1), (2, .int p2), (3, .int o_1), (4, .int v4_9), (5, .int o_4), (6, .int o_6), (7, .int o_8), (8, .int o_10)] → W p l e ({ frames := 3, cells := 0, slots := 0, locals := 66 } : Room) s m ([.ref (p0a 0), .int p1, .int p2] : List Value).toArray below meth c H locs 0 0 Q (F0 m 180 ls [.int y0_180]) := by
                      intro y0_180 H locs ls hrun hP hD hK hS hl 
                      unfold fL_isCodeRight_J180 at hrun
                      refine lv_istore (lv' := [(10, .int y0_180), (0, .ref (p0a 0)), (1, .int p1), (2, .int p2), (3, .int o_1), (4, .int v4_9), (5, .int o_4), (6, .int o_6), (7, .int o_8), (8, .int o_10)]) hx hb dL_isCodeRight_180 hl (by decide) rfl (fun ls hl => ?_)
                      refine lv_iload hx hb dL_isCodeRight_182 (lv_at hl 0 rfl) ?_
                      have J198 : ∀ (H : Heap) (locs : List Loc) (ls : Array Slot), (fL_isCodeRight_J198 (fL_isCodeRight_L9 p1 p2 p0_8w p0_5w p0_5_1n p0_5_1w o_1 n_9) p1 p2 p0_8w p0_5w o_1 v4_9 o_4 o_6 o_8 o_10) = some o9 → va_P (dC, dI) cls (List.flatten ([(oX11 (p0a 0) p0a p0w), (oX6 (p0a 9) p0_8a p0_8k p0_8w p0_8l), (oX0 (p0a 6) p0_5a p0_5k p0_5n p0_5w), (oX9 (p0_5_1a 0 0) (p0_5_1a 0) (p0_5_1k 0) (p0_5_1n 0) (p0_5_1w 0)), (oX9 (p0_5_1a 1 0) (p0_5_1a 1) (p0_5_1k 1) (p0_5_1n 1) (p0_5_1w 1)), (oX9 (p0_5_1a 2 0) (p0_5_1a 2) (p0_5_1k 2) (p0_5_1n 2) (p0_5_1w 2)), (oX9 (p0_5_1a 3 0) (p0_5_1a 3) (p0_5_1k 3) (p0_5_1n 3) (p0_5_1w 3)), (oX9 (p0_5_1a 4 0) (p0_5_1a 4) (p0_5_1k 4) (p0_5_1n 4) (p0_5_1w 4)), (oX9 (p0_5_1a 5 0) (p0_5_1a 5) (p0_5_1k 5) (p0_5_1n 5) (p0_5_1w 5)), [((p0_5a 2), .inl (p0_5_1c, 6, .inr (.inr (.inr (.inr (fun i => some (p0_5_1a i 0)))))))]] : List va_W)) H → va_D A (List.flatten ([(oX11 (p0a 0) p0a p0w), (oX6 (p0a 9) p0_8a p0_8k p0_8w p0_8l), (oX0 (p0a 6) p0_5a p0_5k p0_5n p0_5w), (oX9 (p0_5_1a 0 0) (p0_5_1a 0) (p0_5_1k 0) (p0_5_1n 0) (p0_5_1w 0)), (oX9 (p0_5_1a 1 0) (p0_5_1a 1) (p0_5_1k 1) (p0_5_1n 1) (p0_5_1w 1)), (oX9 (p0_5_1a 2 0) (p0_5_1a 2) (p0_5_1k 2) (p0_5_1n 2) (p0_5_1w 2)), (oX9 (p0_5_1a 3 0) (p0_5_1a 3) (p0_5_1k 3) (p0_5_1n 3) (p0_5_1w 3)), (oX9 (p0_5_1a 4 0) (p0_5_1a 4) (p0_5_1k 4) (p0_5_1n 4) (p0_5_1w 4)), (oX9 (p0_5_1a 5 0) (p0_5_1a 5) (p0_5_1k 5) (p0_5_1n 5) (p0_5_1w 5)), [((p0_5a 2), .inl (p0_5_1c, 6, .inr (.inr (.inr (.inr (fun i => some (p0_5_1a i 0)))))))]] : List va_W)) → va_K (dC, dI) cls (List.flatten ([[], (tX6 p0_8k), (tX0 p0_5k), (tX9 (p0_5_1k 0)), (tX9 (p0_5_1k 1)), (tX9 (p0_5_1k 2)), (tX9 (p0_5_1k 3)), (tX9 (p0_5_1k 4)), (tX9 (p0_5_1k 5)), [(p0_5_1c, .object RX9)]] : List (List (ClassId × FieldType)))) s → va_S A s.heap H locs → lv_has ls 12 [(0, .ref (p0a 0)), (1, .int p1), (2, .int p2), (3, .int o_1), (4, .int v4_9), (5, .int o_4), (6, .int o_6), (7, .int o_8), (8, .int o_10)] → W p l e ({ frames := 3, cells := 0, slots := 0, locals := 66 } : Room) s m ([.ref (p0a 0), .int p1, .int p2] : List Value).toArray below meth c H locs 0 0 Q (F0 m 198 ls []) := by
                        intro  H locs ls hrun hP hD hK hS hl 
                        unfold fL_isCodeRight_J198 at hrun
                        refine lv_iload hx hb dL_isCodeRight_198 (lv_at hl 5 rfl) ?_
                        refine lv_bipush (v := 26) hx hb dL_isCodeRight_200 (by decide) ?_
                        have J220 : ∀ (H : Heap) (locs : List Loc) (ls : Array Slot), (fL_isCodeRight_J220 (fL_isCodeRight_L9 p1 p2 p0_8w p0_5w p0_5_1n p0_5_1w o_1 n_9) p1 p2 p0_8w p0_5w o_1 v4_9 o_4 o_6 o_8 o_10) = some o9 → va_P (dC, dI) cls (List.flatten ([(oX11 (p0a 0) p0a p0w), (oX6 (p0a 9) p0_8a p0_8k p0_8w p0_8l), (oX0 (p0a 6) p0_5a p0_5k p0_5n p0_5w), (oX9 (p0_5_1a 0 0) (p0_5_1a 0) (p0_5_1k 0) (p0_5_1n 0) (p0_5_1w 0)), (oX9 (p0_5_1a 1 0) (p0_5_1a 1) (p0_5_1k 1) (p0_5_1n 1) (p0_5_1w 1)), (oX9 (p0_5_1a 2 0) (p0_5_1a 2) (p0_5_1k 2) (p0_5_1n 2) (p0_5_1w 2)), (oX9 (p0_5_1a 3 0) (p0_5_1a 3) (p0_5_1k 3) (p0_5_1n 3) (p0_5_1w 3)), (oX9 (p0_5_1a 4 0) (p0_5_1a 4) (p0_5_1k 4) (p0_5_1n 4) (p0_5_1w 4)), (oX9 (p0_5_1a 5 0) (p0_5_1a 5) (p0_5_1k 5) (p0_5_1n 5) (p0_5_1w 5)), [((p0_5a 2), .inl (p0_5_1c, 6, .inr (.inr (.inr (.inr (fun i => some (p0_5_1a i 0)))))))]] : List va_W)) H → va_D A (List.flatten ([(oX11 (p0a 0) p0a p0w), (oX6 (p0a 9) p0_8a p0_8k p0_8w p0_8l), (oX0 (p0a 6) p0_5a p0_5k p0_5n p0_5w), (oX9 (p0_5_1a 0 0) (p0_5_1a 0) (p0_5_1k 0) (p0_5_1n 0) (p0_5_1w 0)), (oX9 (p0_5_1a 1 0) (p0_5_1a 1) (p0_5_1k 1) (p0_5_1n 1) (p0_5_1w 1)), (oX9 (p0_5_1a 2 0) (p0_5_1a 2) (p0_5_1k 2) (p0_5_1n 2) (p0_5_1w 2)), (oX9 (p0_5_1a 3 0) (p0_5_1a 3) (p0_5_1k 3) (p0_5_1n 3) (p0_5_1w 3)), (oX9 (p0_5_1a 4 0) (p0_5_1a 4) (p0_5_1k 4) (p0_5_1n 4) (p0_5_1w 4)), (oX9 (p0_5_1a 5 0) (p0_5_1a 5) (p0_5_1k 5) (p0_5_1n 5) (p0_5_1w 5)), [((p0_5a 2), .inl (p0_5_1c, 6, .inr (.inr (.inr (.inr (fun i => some (p0_5_1a i 0)))))))]] : List va_W)) → va_K (dC, dI) cls (List.flatten ([[], (tX6 p0_8k), (tX0 p0_5k), (tX9 (p0_5_1k 0)), (tX9 (p0_5_1k 1)), (tX9 (p0_5_1k 2)), (tX9 (p0_5_1k 3)), (tX9 (p0_5_1k 4)), (tX9 (p0_5_1k 5)), [(p0_5_1c, .object RX9)]] : List (List (ClassId × FieldType)))) s → va_S A s.heap H locs → lv_has ls 12 [(0, .ref (p0a 0)), (1, .int p1), (2, .int p2), (3, .int o_1), (4, .int v4_9), (5, .int o_4), (6, .int o_6), (7, .int o_8), (8, .int o_10)] → W p l e ({ frames := 3, cells := 0, slots := 0, locals := 66 } : Room) s m ([.ref (p0a 0), .int p1, .int p2] : List Value).toArray below meth c H locs 0 0 Q (F0 m 220 ls []) := by
                          intro  H locs ls hrun hP hD hK hS hl 
                          unfold fL_isCodeRight_J220 at hrun
                          refine lv_iload hx hb dL_isCodeRight_220 (lv_at hl 5 rfl) ?_
                          refine lv_bipush (v := 27) hx hb dL_isCodeRight_222 (by decide) ?_
                          have J244 : ∀ (H : Heap) (locs : List Loc) (ls : Array Slot), (fL_isCodeRight_J244 (fL_isCodeRight_L9 p1 p2 p0_8w p0_5w p0_5_1n p0_5_1w o_1 n_9) p2 p0_8w o_1 v4_9 o_4 o_6 o_8 o_10) = some o9 → va_P (dC, dI) cls (List.flatten ([(oX11 (p0a 0) p0a p0w), (oX6 (p0a 9) p0_8a p0_8k p0_8w p0_8l), (oX0 (p0a 6) p0_5a p0_5k p0_5n p0_5w), (oX9 (p0_5_1a 0 0) (p0_5_1a 0) (p0_5_1k 0) (p0_5_1n 0) (p0_5_1w 0)), (oX9 (p0_5_1a 1 0) (p0_5_1a 1) (p0_5_1k 1) (p0_5_1n 1) (p0_5_1w 1)), (oX9 (p0_5_1a 2 0) (p0_5_1a 2) (p0_5_1k 2) (p0_5_1n 2) (p0_5_1w 2)), (oX9 (p0_5_1a 3 0) (p0_5_1a 3) (p0_5_1k 3) (p0_5_1n 3) (p0_5_1w 3)), (oX9 (p0_5_1a 4 0) (p0_5_1a 4) (p0_5_1k 4) (p0_5_1n 4) (p0_5_1w 4)), (oX9 (p0_5_1a 5 0) (p0_5_1a 5) (p0_5_1k 5) (p0_5_1n 5) (p0_5_1w 5)), [((p0_5a 2), .inl (p0_5_1c, 6, .inr (.inr (.inr (.inr (fun i => some (p0_5_1a i 0)))))))]] : List va_W)) H → va_D A (List.flatten ([(oX11 (p0a 0) p0a p0w), (oX6 (p0a 9) p0_8a p0_8k p0_8w p0_8l), (oX0 (p0a 6) p0_5a p0_5k p0_5n p0_5w), (oX9 (p0_5_1a 0 0) (p0_5_1a 0) (p0_5_1k 0) (p0_5_1n 0) (p0_5_1w 0)), (oX9 (p0_5_1a 1 0) (p0_5_1a 1) (p0_5_1k 1) (p0_5_1n 1) (p0_5_1w 1)), (oX9 (p0_5_1a 2 0) (p0_5_1a 2) (p0_5_1k 2) (p0_5_1n 2) (p0_5_1w 2)), (oX9 (p0_5_1a 3 0) (p0_5_1a 3) (p0_5_1k 3) (p0_5_1n 3) (p0_5_1w 3)), (oX9 (p0_5_1a 4 0) (p0_5_1a 4) (p0_5_1k 4) (p0_5_1n 4) (p0_5_1w 4)), (oX9 (p0_5_1a 5 0) (p0_5_1a 5) (p0_5_1k 5) (p0_5_1n 5) (p0_5_1w 5)), [((p0_5a 2), .inl (p0_5_1c, 6, .inr (.inr (.inr (.inr (fun i => some (p0_5_1a i 0)))))))]] : List va_W)) → va_K (dC, dI) cls (List.flatten ([[], (tX6 p0_8k), (tX0 p0_5k), (tX9 (p0_5_1k 0)), (tX9 (p0_5_1k 1)), (tX9 (p0_5_1k 2)), (tX9 (p0_5_1k 3)), (tX9 (p0_5_1k 4)), (tX9 (p0_5_1k 5)), [(p0_5_1c, .object RX9)]] : List (List (ClassId × FieldType)))) s → va_S A s.heap H locs → lv_has ls 12 [(0, .ref (p0a 0)), (1, .int p1), (2, .int p2), (3, .int o_1), (4, .int v4_9), (5, .int o_4), (6, .int o_6), (7, .int o_8), (8, .int o_10)] → W p l e ({ frames := 3, cells := 0, slots := 0, locals := 66 } : Room) s m ([.ref (p0a 0), .int p1, .int p2] : List Value).toArray below meth c H locs 0 0 Q (F0 m 244 ls []) := by
                            intro  H locs ls hrun hP hD hK hS hl 
                            unfold fL_isCodeRight_J244 at hrun
                            refine lv_iload hx hb dL_isCodeRight_244 (lv_at hl 5 rfl) ?_
                            have J276 : ∀ (H : Heap) (locs : List Loc) (ls : Array Slot), (fL_isCodeRight_J276 (fL_isCodeRight_L9 p1 p2 p0_8w p0_5w p0_5_1n p0_5_1w o_1 n_9) p0_8w o_1 v4_9 o_4 o_6 o_8 o_10) = some o9 → va_P (dC, dI) cls (List.flatten ([(oX11 (p0a 0) p0a p0w), (oX6 (p0a 9) p0_8a p0_8k p0_8w p0_8l), (oX0 (p0a 6) p0_5a p0_5k p0_5n p0_5w), (oX9 (p0_5_1a 0 0) (p0_5_1a 0) (p0_5_1k 0) (p0_5_1n 0) (p0_5_1w 0)), (oX9 (p0_5_1a 1 0) (p0_5_1a 1) (p0_5_1k 1) (p0_5_1n 1) (p0_5_1w 1)), (oX9 (p0_5_1a 2 0) (p0_5_1a 2) (p0_5_1k 2) (p0_5_1n 2) (p0_5_1w 2)), (oX9 (p0_5_1a 3 0) (p0_5_1a 3) (p0_5_1k 3) (p0_5_1n 3) (p0_5_1w 3)), (oX9 (p0_5_1a 4 0) (p0_5_1a 4) (p0_5_1k 4) (p0_5_1n 4) (p0_5_1w 4)), (oX9 (p0_5_1a 5 0) (p0_5_1a 5) (p0_5_1k 5) (p0_5_1n 5) (p0_5_1w 5)), [((p0_5a 2), .inl (p0_5_1c, 6, .inr (.inr (.inr (.inr (fun i => some (p0_5_1a i 0)))))))]] : List va_W)) H → va_D A (List.flatten ([(oX11 (p0a 0) p0a p0w), (oX6 (p0a 9) p0_8a p0_8k p0_8w p0_8l), (oX0 (p0a 6) p0_5a p0_5k p0_5n p0_5w), (oX9 (p0_5_1a 0 0) (p0_5_1a 0) (p0_5_1k 0) (p0_5_1n 0) (p0_5_1w 0)), (oX9 (p0_5_1a 1 0) (p0_5_1a 1) (p0_5_1k 1) (p0_5_1n 1) (p0_5_1w 1)), (oX9 (p0_5_1a 2 0) (p0_5_1a 2) (p0_5_1k 2) (p0_5_1n 2) (p0_5_1w 2)), (oX9 (p0_5_1a 3 0) (p0_5_1a 3) (p0_5_1k 3) (p0_5_1n 3) (p0_5_1w 3)), (oX9 (p0_5_1a 4 0) (p0_5_1a 4) (p0_5_1k 4) (p0_5_1n 4) (p0_5_1w 4)), (oX9 (p0_5_1a 5 0) (p0_5_1a 5) (p0_5_1k 5) (p0_5_1n 5) (p0_5_1w 5)), [((p0_5a 2), .inl (p0_5_1c, 6, .inr (.inr (.inr (.inr (fun i => some (p0_5_1a i 0)))))))]] : List va_W)) → va_K (dC, dI) cls (List.flatten ([[], (tX6 p0_8k), (tX0 p0_5k), (tX9 (p0_5_1k 0)), (tX9 (p0_5_1k 1)), (tX9 (p0_5_1k 2)), (tX9 (p0_5_1k 3)), (tX9 (p0_5_1k 4)), (tX9 (p0_5_1k 5)), [(p0_5_1c, .object RX9)]] : List (List (ClassId × FieldType)))) s → va_S A s.heap H locs → lv_has ls 12 [(0, .ref (p0a 0)), (1, .int p1), (2, .int p2), (3, .int o_1), (4, .int v4_9), (5, .int o_4), (6, .int o_6), (7, .int o_8), (8, .int o_10)] → W p l e ({ frames := 3, cells := 0, slots := 0, locals := 66 } : Room) s m ([.ref (p0a 0), .int p1, .int p2] : List Value).toArray below meth c H locs 0 0 Q (F0 m 276 ls []) := by
                              intro  H locs ls hrun hP hD hK hS hl 
                              unfold fL_isCodeRight_J276 at hrun
                              refine lv_iload hx hb dL_isCodeRight_276 (lv_at hl 5 rfl) ?_
                              refine lv_bipush (v := 22) hx hb dL_isCodeRight_278 (by decide) ?_
                              have J308 : ∀ (y0_308 : Int32) (H : Heap) (locs : List Loc) (ls : Array Slot), (fL_isCodeRight_J308 (fL_isCodeRight_L9 p1 p2 p0_8w p0_5w p0_5_1n p0_5_1w o_1 n_9) p0_8w o_1 v4_9 o_4 o_6 o_8 y0_308) = some o9 → va_P (dC, dI) cls (List.flatten ([(oX11 (p0a 0) p0a p0w), (oX6 (p0a 9) p0_8a p0_8k p0_8w p0_8l), (oX0 (p0a 6) p0_5a p0_5k p0_5n p0_5w), (oX9 (p0_5_1a 0 0) (p0_5_1a 0) (p0_5_1k 0) (p0_5_1n 0) (p0_5_1w 0)), (oX9 (p0_5_1a 1 0) (p0_5_1a 1) (p0_5_1k 1) (p0_5_1n 1) (p0_5_1w 1)), (oX9 (p0_5_1a 2 0) (p0_5_1a 2) (p0_5_1k 2) (p0_5_1n 2) (p0_5_1w 2)), (oX9 (p0_5_1a 3 0) (p0_5_1a 3) (p0_5_1k 3) (p0_5_1n 3) (p0_5_1w 3)), (oX9 (p0_5_1a 4 0) (p0_5_1a 4) (p0_5_1k 4) (p0_5_1n 4) (p0_5_1w 4)), (oX9 (p0_5_1a 5 0) (p0_5_1a 5) (p0_5_1k 5) (p0_5_1n 5) (p0_5_1w 5)), [((p0_5a 2), .inl (p0_5_1c, 6, .inr (.inr (.inr (.inr (fun i => some (p0_5_1a i 0)))))))]] : List va_W)) H → va_D A (List.flatten ([(oX11 (p0a 0) p0a p0w), (oX6 (p0a 9) p0_8a p0_8k p0_8w p0_8l), (oX0 (p0a 6) p0_5a p0_5k p0_5n p0_5w), (oX9 (p0_5_1a 0 0) (p0_5_1a 0) (p0_5_1k 0) (p0_5_1n 0) (p0_5_1w 0)), (oX9 (p0_5_1a 1 0) (p0_5_1a 1) (p0_5_1k 1) (p0_5_1n 1) (p0_5_1w 1)), (oX9 (p0_5_1a 2 0) (p0_5_1a 2) (p0_5_1k 2) (p0_5_1n 2) (p0_5_1w 2)), (oX9 (p0_5_1a 3 0) (p0_5_1a 3) (p0_5_1k 3) (p0_5_1n 3) (p0_5_1w 3)), (oX9 (p0_5_1a 4 0) (p0_5_1a 4) (p0_5_1k 4) (p0_5_1n 4) (p0_5_1w 4)), (oX9 (p0_5_1a 5 0) (p0_5_1a 5) (p0_5_1k 5) (p0_5_1n 5) (p0_5_1w 5)), [((p0_5a 2), .inl (p0_5_1c, 6, .inr (.inr (.inr (.inr (fun i => some (p0_5_1a i 0)))))))]] : List va_W)) → va_K (dC, dI) cls (List.flatten ([[], (tX6 p0_8k), (tX0 p0_5k), (tX9 (p0_5_1k 0)), (tX9 (p0_5_1k 1)), (tX9 (p0_5_1k 2)), (tX9 (p0_5_1k 3)), (tX9 (p0_5_1k 4)), (tX9 (p0_5_1k 5)), [(p0_5_1c, .object RX9)]] : List (List (ClassId × FieldType)))) s → va_S A s.heap H locs → lv_has ls 12 [(0, .ref (p0a 0)), (1, .int p1), (2, .int p2), (3, .int o_1), (4, .int v4_9), (5, .int o_4), (6, .int o_6), (7, .int o_8)] → W p l e ({ frames := 3, cells := 0, slots := 0, locals := 66 } : Room) s m ([.ref (p0a 0), .int p1, .int p2] : List Value).toArray below meth c H locs 0 0 Q (F0 m 308 ls [.int y0_308]) := by
                                intro y0_308 H locs ls hrun hP hD hK hS hl 
                                unfold fL_isCodeRight_J308 at hrun
                                refine lv_istore (lv' := [(11, .int y0_308), (0, .ref (p0a 0)), (1, .int p1), (2, .int p2), (3, .int o_1), (4, .int v4_9), (5, .int o_4), (6, .int o_6), (7, .int o_8)]) hx hb dL_isCodeRight_308 hl (by decide) rfl (fun ls hl => ?_)
                                refine lv_iload hx hb dL_isCodeRight_310 (lv_at hl 0 rfl) ?_
                                rcases br9 hrun with ⟨hc16, hrun⟩ | ⟨hc16, hrun⟩
                                · refine lv_if_lt (tgt := 351) hx hb dL_isCodeRight_312 (by decide) (fun _ => ?_) (fun c => absurd hc16 c)
                                  refine lv_iconst (v := 0) hx hb dL_isCodeRight_351 (by decide) ?_
                                  have ho9 : 0 = o := hr9 _ (Option.some.inj hrun).symm
                                  have hP9 : va_P (dC, dI) cls (List.flatten ([(oX11 (p0a 0) p0a p0w), (oX6 (p0a 9) p0_8a p0_8k p0_8w p0_8l), (oX0 (p0a 6) p0_5a p0_5k p0_5n p0_5w), (oX9 (p0_5_1a 0 0) (p0_5_1a 0) (p0_5_1k 0) (p0_5_1n 0) (p0_5_1w 0)), (oX9 (p0_5_1a 1 0) (p0_5_1a 1) (p0_5_1k 1) (p0_5_1n 1) (p0_5_1w 1)), (oX9 (p0_5_1a 2 0) (p0_5_1a 2) (p0_5_1k 2) (p0_5_1n 2) (p0_5_1w 2)), (oX9 (p0_5_1a 3 0) (p0_5_1a 3) (p0_5_1k 3) (p0_5_1n 3) (p0_5_1w 3)), (oX9 (p0_5_1a 4 0) (p0_5_1a 4) (p0_5_1k 4) (p0_5_1n 4) (p0_5_1w 4)), (oX9 (p0_5_1a 5 0) (p0_5_1a 5) (p0_5_1k 5) (p0_5_1n 5) (p0_5_1w 5)), [((p0_5a 2), .inl (p0_5_1c, 6, .inr (.inr (.inr (.inr (fun i => some (p0_5_1a i 0)))))))]] : List va_W)) H := by first | exact hP | (rw [← ho9]; exact hP)
                                  have hD9 : va_D A (List.flatten ([(oX11 (p0a 0) p0a p0w), (oX6 (p0a 9) p0_8a p0_8k p0_8w p0_8l), (oX0 (p0a 6) p0_5a p0_5k p0_5n p0_5w), (oX9 (p0_5_1a 0 0) (p0_5_1a 0) (p0_5_1k 0) (p0_5_1n 0) (p0_5_1w 0)), (oX9 (p0_5_1a 1 0) (p0_5_1a 1) (p0_5_1k 1) (p0_5_1n 1) (p0_5_1w 1)), (oX9 (p0_5_1a 2 0) (p0_5_1a 2) (p0_5_1k 2) (p0_5_1n 2) (p0_5_1w 2)), (oX9 (p0_5_1a 3 0) (p0_5_1a 3) (p0_5_1k 3) (p0_5_1n 3) (p0_5_1w 3)), (oX9 (p0_5_1a 4 0) (p0_5_1a 4) (p0_5_1k 4) (p0_5_1n 4) (p0_5_1w 4)), (oX9 (p0_5_1a 5 0) (p0_5_1a 5) (p0_5_1k 5) (p0_5_1n 5) (p0_5_1w 5)), [((p0_5a 2), .inl (p0_5_1c, 6, .inr (.inr (.inr (.inr (fun i => some (p0_5_1a i 0)))))))]] : List va_W)) := by first | exact hD | (rw [← ho9]; exact hD)
                                  subst hQ
                                  exact W.zret (v := 0) hx hb hr (by decide) (fun t ht hW => ⟨⟨0, (), rfl, (by rw [← ho9]), ⟨by rw [ht]; exact hP9, va_K.moved hW.alike hK, hD9⟩⟩, hS.F ht⟩) hS.2.2 dL_isCodeRight_352
                                · refine lv_if_lt (tgt := 351) hx hb dL_isCodeRight_312 (by decide) (fun c => absurd c hc16) (fun _ => ?_)
                                  refine lv_iload hx hb dL_isCodeRight_315 (lv_at hl 0 rfl) ?_
                                  refine lv_iload_n hx hb dL_isCodeRight_317 rfl (lv_at hl 4 rfl) ?_
                                  rcases br9 hrun with ⟨hc17, hrun⟩ | ⟨hc17, hrun⟩
                                  · refine lv_icmp_ge (tgt := 351) hx hb dL_isCodeRight_318 (by decide) (fun _ => ?_) (fun c => absurd hc17 c)
                                    refine lv_iconst (v := 0) hx hb dL_isCodeRight_351 (by decide) ?_
                                    have ho9 : 0 = o := hr9 _ (Option.some.inj hrun).symm
                                    have hP9 : va_P (dC, dI) cls (List.flatten ([(oX11 (p0a 0) p0a p0w), (oX6 (p0a 9) p0_8a p0_8k p0_8w p0_8l), (oX0 (p0a 6) p0_5a p0_5k p0_5n p0_5w), (oX9 (p0_5_1a 0 0) (p0_5_1a 0) (p0_5_1k 0) (p0_5_1n 0) (p0_5_1w 0)), (oX9 (p0_5_1a 1 0) (p0_5_1a 1) (p0_5_1k 1) (p0_5_1n 1) (p0_5_1w 1)), (oX9 (p0_5_1a 2 0) (p0_5_1a 2) (p0_5_1k 2) (p0_5_1n 2) (p0_5_1w 2)), (oX9 (p0_5_1a 3 0) (p0_5_1a 3) (p0_5_1k 3) (p0_5_1n 3) (p0_5_1w 3)), (oX9 (p0_5_1a 4 0) (p0_5_1a 4) (p0_5_1k 4) (p0_5_1n 4) (p0_5_1w 4)), (oX9 (p0_5_1a 5 0) (p0_5_1a 5) (p0_5_1k 5) (p0_5_1n 5) (p0_5_1w 5)), [((p0_5a 2), .inl (p0_5_1c, 6, .inr (.inr (.inr (.inr (fun i => some (p0_5_1a i 0)))))))]] : List va_W)) H := by first | exact hP | (rw [← ho9]; exact hP)
                                    have hD9 : va_D A (List.flatten ([(oX11 (p0a 0) p0a p0w), (oX6 (p0a 9) p0_8a p0_8k p0_8w p0_8l), (oX0 (p0a 6) p0_5a p0_5k p0_5n p0_5w), (oX9 (p0_5_1a 0 0) (p0_5_1a 0) (p0_5_1k 0) (p0_5_1n 0) (p0_5_1w 0)), (oX9 (p0_5_1a 1 0) (p0_5_1a 1) (p0_5_1k 1) (p0_5_1n 1) (p0_5_1w 1)), (oX9 (p0_5_1a 2 0) (p0_5_1a 2) (p0_5_1k 2) (p0_5_1n 2) (p0_5_1w 2)), (oX9 (p0_5_1a 3 0) (p0_5_1a 3) (p0_5_1k 3) (p0_5_1n 3) (p0_5_1w 3)), (oX9 (p0_5_1a 4 0) (p0_5_1a 4) (p0_5_1k 4) (p0_5_1n 4) (p0_5_1w 4)), (oX9 (p0_5_1a 5 0) (p0_5_1a 5) (p0_5_1k 5) (p0_5_1n 5) (p0_5_1w 5)), [((p0_5a 2), .inl (p0_5_1c, 6, .inr (.inr (.inr (.inr (fun i => some (p0_5_1a i 0)))))))]] : List va_W)) := by first | exact hD | (rw [← ho9]; exact hD)
                                    subst hQ
                                    exact W.zret (v := 0) hx hb hr (by decide) (fun t ht hW => ⟨⟨0, (), rfl, (by rw [← ho9]), ⟨by rw [ht]; exact hP9, va_K.moved hW.alike hK, hD9⟩⟩, hS.F ht⟩) hS.2.2 dL_isCodeRight_352
                                  · refine lv_icmp_ge (tgt := 351) hx hb dL_isCodeRight_318 (by decide) (fun c => absurd c hc17) (fun _ => ?_)
                                    refine lv_iload hx hb dL_isCodeRight_321 (lv_at hl 6 rfl) ?_
                                    refine lv_bipush (v := 25) hx hb dL_isCodeRight_323 (by decide) ?_
                                    have J335 : ∀ (H : Heap) (locs : List Loc) (ls : Array Slot), (fL_isCodeRight_J335 (fL_isCodeRight_L9 p1 p2 p0_8w p0_5w p0_5_1n p0_5_1w o_1 n_9) p0_8w v4_9 o_4 o_8) = some o9 → va_P (dC, dI) cls (List.flatten ([(oX11 (p0a 0) p0a p0w), (oX6 (p0a 9) p0_8a p0_8k p0_8w p0_8l), (oX0 (p0a 6) p0_5a p0_5k p0_5n p0_5w), (oX9 (p0_5_1a 0 0) (p0_5_1a 0) (p0_5_1k 0) (p0_5_1n 0) (p0_5_1w 0)), (oX9 (p0_5_1a 1 0) (p0_5_1a 1) (p0_5_1k 1) (p0_5_1n 1) (p0_5_1w 1)), (oX9 (p0_5_1a 2 0) (p0_5_1a 2) (p0_5_1k 2) (p0_5_1n 2) (p0_5_1w 2)), (oX9 (p0_5_1a 3 0) (p0_5_1a 3) (p0_5_1k 3) (p0_5_1n 3) (p0_5_1w 3)), (oX9 (p0_5_1a 4 0) (p0_5_1a 4) (p0_5_1k 4) (p0_5_1n 4) (p0_5_1w 4)), (oX9 (p0_5_1a 5 0) (p0_5_1a 5) (p0_5_1k 5) (p0_5_1n 5) (p0_5_1w 5)), [((p0_5a 2), .inl (p0_5_1c, 6, .inr (.inr (.inr (.inr (fun i => some (p0_5_1a i 0)))))))]] : List va_W)) H → va_D A (List.flatten ([(oX11 (p0a 0) p0a p0w), (oX6 (p0a 9) p0_8a p0_8k p0_8w p0_8l), (oX0 (p0a 6) p0_5a p0_5k p0_5n p0_5w), (oX9 (p0_5_1a 0 0) (p0_5_1a 0) (p0_5_1k 0) (p0_5_1n 0) (p0_5_1w 0)), (oX9 (p0_5_1a 1 0) (p0_5_1a 1) (p0_5_1k 1) (p0_5_1n 1) (p0_5_1w 1)), (oX9 (p0_5_1a 2 0) (p0_5_1a 2) (p0_5_1k 2) (p0_5_1n 2) (p0_5_1w 2)), (oX9 (p0_5_1a 3 0) (p0_5_1a 3) (p0_5_1k 3) (p0_5_1n 3) (p0_5_1w 3)), (oX9 (p0_5_1a 4 0) (p0_5_1a 4) (p0_5_1k 4) (p0_5_1n 4) (p0_5_1w 4)), (oX9 (p0_5_1a 5 0) (p0_5_1a 5) (p0_5_1k 5) (p0_5_1n 5) (p0_5_1w 5)), [((p0_5a 2), .inl (p0_5_1c, 6, .inr (.inr (.inr (.inr (fun i => some (p0_5_1a i 0)))))))]] : List va_W)) → va_K (dC, dI) cls (List.flatten ([[], (tX6 p0_8k), (tX0 p0_5k), (tX9 (p0_5_1k 0)), (tX9 (p0_5_1k 1)), (tX9 (p0_5_1k 2)), (tX9 (p0_5_1k 3)), (tX9 (p0_5_1k 4)), (tX9 (p0_5_1k 5)), [(p0_5_1c, .object RX9)]] : List (List (ClassId × FieldType)))) s → va_S A s.heap H locs → lv_has ls 12 [(0, .ref (p0a 0)), (1, .int p1), (2, .int p2), (3, .int o_1), (4, .int v4_9), (5, .int o_4), (7, .int o_8)] → W p l e ({ frames := 3, cells := 0, slots := 0, locals := 66 } : Room) s m ([.ref (p0a 0), .int p1, .int p2] : List Value).toArray below meth c H locs 0 0 Q (F0 m 335 ls []) := by
                                      intro  H locs ls hrun hP hD hK hS hl 
                                      unfold fL_isCodeRight_J335 at hrun
                                      refine lv_iload hx hb dL_isCodeRight_335 (lv_at hl 5 rfl) ?_
                                      refine lv_bipush (v := 20) hx hb dL_isCodeRight_337 (by decide) ?_
                                      have J353 : ∀ (H : Heap) (locs : List Loc) (ls : Array Slot), (fL_isCodeRight_J353 (fL_isCodeRight_L9 p1 p2 p0_8w p0_5w p0_5_1n p0_5_1w o_1 n_9) v4_9) = some o9 → va_P (dC, dI) cls (List.flatten ([(oX11 (p0a 0) p0a p0w), (oX6 (p0a 9) p0_8a p0_8k p0_8w p0_8l), (oX0 (p0a 6) p0_5a p0_5k p0_5n p0_5w), (oX9 (p0_5_1a 0 0) (p0_5_1a 0) (p0_5_1k 0) (p0_5_1n 0) (p0_5_1w 0)), (oX9 (p0_5_1a 1 0) (p0_5_1a 1) (p0_5_1k 1) (p0_5_1n 1) (p0_5_1w 1)), (oX9 (p0_5_1a 2 0) (p0_5_1a 2) (p0_5_1k 2) (p0_5_1n 2) (p0_5_1w 2)), (oX9 (p0_5_1a 3 0) (p0_5_1a 3) (p0_5_1k 3) (p0_5_1n 3) (p0_5_1w 3)), (oX9 (p0_5_1a 4 0) (p0_5_1a 4) (p0_5_1k 4) (p0_5_1n 4) (p0_5_1w 4)), (oX9 (p0_5_1a 5 0) (p0_5_1a 5) (p0_5_1k 5) (p0_5_1n 5) (p0_5_1w 5)), [((p0_5a 2), .inl (p0_5_1c, 6, .inr (.inr (.inr (.inr (fun i => some (p0_5_1a i 0)))))))]] : List va_W)) H → va_D A (List.flatten ([(oX11 (p0a 0) p0a p0w), (oX6 (p0a 9) p0_8a p0_8k p0_8w p0_8l), (oX0 (p0a 6) p0_5a p0_5k p0_5n p0_5w), (oX9 (p0_5_1a 0 0) (p0_5_1a 0) (p0_5_1k 0) (p0_5_1n 0) (p0_5_1w 0)), (oX9 (p0_5_1a 1 0) (p0_5_1a 1) (p0_5_1k 1) (p0_5_1n 1) (p0_5_1w 1)), (oX9 (p0_5_1a 2 0) (p0_5_1a 2) (p0_5_1k 2) (p0_5_1n 2) (p0_5_1w 2)), (oX9 (p0_5_1a 3 0) (p0_5_1a 3) (p0_5_1k 3) (p0_5_1n 3) (p0_5_1w 3)), (oX9 (p0_5_1a 4 0) (p0_5_1a 4) (p0_5_1k 4) (p0_5_1n 4) (p0_5_1w 4)), (oX9 (p0_5_1a 5 0) (p0_5_1a 5) (p0_5_1k 5) (p0_5_1n 5) (p0_5_1w 5)), [((p0_5a 2), .inl (p0_5_1c, 6, .inr (.inr (.inr (.inr (fun i => some (p0_5_1a i 0)))))))]] : List va_W)) → va_K (dC, dI) cls (List.flatten ([[], (tX6 p0_8k), (tX0 p0_5k), (tX9 (p0_5_1k 0)), (tX9 (p0_5_1k 1)), (tX9 (p0_5_1k 2)), (tX9 (p0_5_1k 3)), (tX9 (p0_5_1k 4)), (tX9 (p0_5_1k 5)), [(p0_5_1c, .object RX9)]] : List (List (ClassId × FieldType)))) s → va_S A s.heap H locs → lv_has ls 12 [(0, .ref (p0a 0)), (1, .int p1), (2, .int p2), (3, .int o_1), (4, .int v4_9)] → W p l e ({ frames := 3, cells := 0, slots := 0, locals := 66 } : Room) s m ([.ref (p0a 0), .int p1, .int p2] : List Value).toArray below meth c H locs 0 0 Q (F0 m 353 ls []) := by
                                        intro  H locs ls hrun hP hD hK hS hl 
                                        unfold fL_isCodeRight_J353 at hrun
                                        refine lv_iinc (v := (v4_9 + 1)) (lv' := [(4, .int (v4_9 + 1)), (0, .ref (p0a 0)), (1, .int p1), (2, .int p2), (3, .int o_1)]) hx hb dL_isCodeRight_353 hl (k := 4) rfl rfl (by decide) rfl (fun ls hl => ?_)
                                        refine lv_goto (tgt := 9) hx hb dL_isCodeRight_356 (by decide) ?_
                                        exact IH9 (v4_9 + 1) o9 _ _ _ hrun hP hD hK hS (lv_sub hl [1, 2, 3, 4, 0] rfl) hr9 hk9
                                      rcases br9 hrun with ⟨hc18, hrun⟩ | ⟨hc18, hrun⟩
                                      · refine lv_icmp_ne (tgt := 353) hx hb dL_isCodeRight_339 (by decide) (fun c => absurd hc18 c) (fun _ => ?_)
                                        refine lv_iload hx hb dL_isCodeRight_342 (lv_at hl 6 rfl) ?_
                                        refine lv_aload_n hx hb dL_isCodeRight_344 rfl (lv_at hl 0 rfl) ?_
                                        obtain ⟨o_19, hc_19, hrun⟩ := bnd9 hrun
                                        have hPx : va_P (dC, dI) cls ((List.flatten ([(oX11 (p0a 0) p0a p0w), (oX6 (p0a 9) p0_8a p0_8k p0_8w p0_8l)] : List va_W)) ++ (List.flatten ([(oX0 (p0a 6) p0_5a p0_5k p0_5n p0_5w), (oX9 (p0_5_1a 0 0) (p0_5_1a 0) (p0_5_1k 0) (p0_5_1n 0) (p0_5_1w 0)), (oX9 (p0_5_1a 1 0) (p0_5_1a 1) (p0_5_1k 1) (p0_5_1n 1) (p0_5_1w 1)), (oX9 (p0_5_1a 2 0) (p0_5_1a 2) (p0_5_1k 2) (p0_5_1n 2) (p0_5_1w 2)), (oX9 (p0_5_1a 3 0) (p0_5_1a 3) (p0_5_1k 3) (p0_5_1n 3) (p0_5_1w 3)), (oX9 (p0_5_1a 4 0) (p0_5_1a 4) (p0_5_1k 4) (p0_5_1n 4) (p0_5_1w 4)), (oX9 (p0_5_1a 5 0) (p0_5_1a 5) (p0_5_1k 5) (p0_5_1n 5) (p0_5_1w 5)), [((p0_5a 2), .inl (p0_5_1c, 6, .inr (.inr (.inr (.inr (fun i => some (p0_5_1a i 0)))))))]] : List va_W))) H := vP_fa (vP_perm hP (bP (List.Perm.refl _)))
                                        have hDx : va_D A ((List.flatten ([(oX11 (p0a 0) p0a p0w), (oX6 (p0a 9) p0_8a p0_8k p0_8w p0_8l)] : List va_W)) ++ (List.flatten ([(oX0 (p0a 6) p0_5a p0_5k p0_5n p0_5w), (oX9 (p0_5_1a 0 0) (p0_5_1a 0) (p0_5_1k 0) (p0_5_1n 0) (p0_5_1w 0)), (oX9 (p0_5_1a 1 0) (p0_5_1a 1) (p0_5_1k 1) (p0_5_1n 1) (p0_5_1w 1)), (oX9 (p0_5_1a 2 0) (p0_5_1a 2) (p0_5_1k 2) (p0_5_1n 2) (p0_5_1w 2)), (oX9 (p0_5_1a 3 0) (p0_5_1a 3) (p0_5_1k 3) (p0_5_1n 3) (p0_5_1w 3)), (oX9 (p0_5_1a 4 0) (p0_5_1a 4) (p0_5_1k 4) (p0_5_1n 4) (p0_5_1w 4)), (oX9 (p0_5_1a 5 0) (p0_5_1a 5) (p0_5_1k 5) (p0_5_1n 5) (p0_5_1w 5)), [((p0_5a 2), .inl (p0_5_1c, 6, .inr (.inr (.inr (.inr (fun i => some (p0_5_1a i 0)))))))]] : List va_W))) := vD_fa (vD_perm hD (bP (List.Perm.refl _)))
                                        have hKx : va_K (dC, dI) cls ((List.flatten ([[], (tX6 p0_8k)] : List (List (ClassId × FieldType)))) ++ (List.flatten ([(tX0 p0_5k), (tX9 (p0_5_1k 0)), (tX9 (p0_5_1k 1)), (tX9 (p0_5_1k 2)), (tX9 (p0_5_1k 3)), (tX9 (p0_5_1k 4)), (tX9 (p0_5_1k 5)), [(p0_5_1c, .object RX9)]] : List (List (ClassId × FieldType))))) s := vK_fa (vK_perm hK (bP (List.Perm.refl _)))
                                        have hPc := vP_l hPx
                                        have hDc := vD_l hDx
                                        have hKc := vK_l hKx
                                        have hFc := vfree hDx hS hA
                                        refine va_calli (va_runV (As := []) (rest := [.int o_8]) ⟨hx, hb, hml, hown, hts⟩ (kX11_functions l dC dI (p0a := p0a) (p0w := p0w) (p0_8a := p0_8a) (p0_8k := p0_8k) (p0_8w := p0_8w) (p0_8l := p0_8l) (sz := _) (o := o_19) (hrun := hc_19)) (cwV 0 hts (gi_V qw1553 qw1554 qw1555 qw129 (gi_z qw1552)) rfl rfl rfl (by decide +kernel) ⟨Nat.le_of_ble_eq_true rfl, Nat.le_of_ble_eq_true rfl⟩) ⟨PRE.blind, va_recv hKc hPc (ci := 11) (q0 := 0) rfl rfl, PRE.of hE hS hFc hPc hKc hDc⟩ rfl rfl hl.1 rfl (lv_room (Nat.le_of_ble_eq_true rfl)) dL_isCodeRight_345 ⟨(Nat.le_of_ble_eq_true rfl), (Nat.le_of_ble_eq_true rfl)⟩) hS (fun q _ h => hFc q h) hFc (fun r20 u t H locs ht hvm hw hB hz1 hk1 hS => ?_)
                                        obtain ⟨b1, b2, b3⟩ := hB
                                        rw [ht] at b1
                                        obtain ⟨hP, hD, hK⟩ := JOINC (wc := (List.flatten ([(oX11 (p0a 0) p0a p0w), (oX6 (p0a 9) p0_8a p0_8k p0_8w p0_8l)] : List va_W))) (wr := (List.flatten ([(oX0 (p0a 6) p0_5a p0_5k p0_5n p0_5w), (oX9 (p0_5_1a 0 0) (p0_5_1a 0) (p0_5_1k 0) (p0_5_1n 0) (p0_5_1w 0)), (oX9 (p0_5_1a 1 0) (p0_5_1a 1) (p0_5_1k 1) (p0_5_1n 1) (p0_5_1w 1)), (oX9 (p0_5_1a 2 0) (p0_5_1a 2) (p0_5_1k 2) (p0_5_1n 2) (p0_5_1w 2)), (oX9 (p0_5_1a 3 0) (p0_5_1a 3) (p0_5_1k 3) (p0_5_1n 3) (p0_5_1w 3)), (oX9 (p0_5_1a 4 0) (p0_5_1a 4) (p0_5_1k 4) (p0_5_1n 4) (p0_5_1w 4)), (oX9 (p0_5_1a 5 0) (p0_5_1a 5) (p0_5_1k 5) (p0_5_1n 5) (p0_5_1w 5)), [((p0_5a 2), .inl (p0_5_1c, 6, .inr (.inr (.inr (.inr (fun i => some (p0_5_1a i 0)))))))]] : List va_W))) (w1 := (List.flatten ([(oX11 (p0a 0) p0a p0w), (oX6 (p0a 9) p0_8a p0_8k p0_8w p0_8l)] : List va_W))) (t1 := (List.flatten ([[], (tX6 p0_8k)] : List (List (ClassId × FieldType))))) hPx hDx hKx hk1 hFc b1 (va_K.moved hvm.symm b2) b3
                                        have hP : va_P (dC, dI) cls (List.flatten ([(oX11 (p0a 0) p0a p0w), (oX6 (p0a 9) p0_8a p0_8k p0_8w p0_8l), (oX0 (p0a 6) p0_5a p0_5k p0_5n p0_5w), (oX9 (p0_5_1a 0 0) (p0_5_1a 0) (p0_5_1k 0) (p0_5_1n 0) (p0_5_1w 0)), (oX9 (p0_5_1a 1 0) (p0_5_1a 1) (p0_5_1k 1) (p0_5_1n 1) (p0_5_1w 1)), (oX9 (p0_5_1a 2 0) (p0_5_1a 2) (p0_5_1k 2) (p0_5_1n 2) (p0_5_1w 2)), (oX9 (p0_5_1a 3 0) (p0_5_1a 3) (p0_5_1k 3) (p0_5_1n 3) (p0_5_1w 3)), (oX9 (p0_5_1a 4 0) (p0_5_1a 4) (p0_5_1k 4) (p0_5_1n 4) (p0_5_1w 4)), (oX9 (p0_5_1a 5 0) (p0_5_1a 5) (p0_5_1k 5) (p0_5_1n 5) (p0_5_1w 5)), [((p0_5a 2), .inl (p0_5_1c, 6, .inr (.inr (.inr (.inr (fun i => some (p0_5_1a i 0)))))))]] : List va_W)) H := vP_perm (vP_fb hP) (bP (List.Perm.refl _))
                                        have hD : va_D A (List.flatten ([(oX11 (p0a 0) p0a p0w), (oX6 (p0a 9) p0_8a p0_8k p0_8w p0_8l), (oX0 (p0a 6) p0_5a p0_5k p0_5n p0_5w), (oX9 (p0_5_1a 0 0) (p0_5_1a 0) (p0_5_1k 0) (p0_5_1n 0) (p0_5_1w 0)), (oX9 (p0_5_1a 1 0) (p0_5_1a 1) (p0_5_1k 1) (p0_5_1n 1) (p0_5_1w 1)), (oX9 (p0_5_1a 2 0) (p0_5_1a 2) (p0_5_1k 2) (p0_5_1n 2) (p0_5_1w 2)), (oX9 (p0_5_1a 3 0) (p0_5_1a 3) (p0_5_1k 3) (p0_5_1n 3) (p0_5_1w 3)), (oX9 (p0_5_1a 4 0) (p0_5_1a 4) (p0_5_1k 4) (p0_5_1n 4) (p0_5_1w 4)), (oX9 (p0_5_1a 5 0) (p0_5_1a 5) (p0_5_1k 5) (p0_5_1n 5) (p0_5_1w 5)), [((p0_5a 2), .inl (p0_5_1c, 6, .inr (.inr (.inr (.inr (fun i => some (p0_5_1a i 0)))))))]] : List va_W)) := vD_perm (vD_fb hD) (bP (List.Perm.refl _))
                                        have hK : va_K (dC, dI) cls (List.flatten ([[], (tX6 p0_8k), (tX0 p0_5k), (tX9 (p0_5_1k 0)), (tX9 (p0_5_1k 1)), (tX9 (p0_5_1k 2)), (tX9 (p0_5_1k 3)), (tX9 (p0_5_1k 4)), (tX9 (p0_5_1k 5)), [(p0_5_1c, .object RX9)]] : List (List (ClassId × FieldType)))) s := vK_perm (vK_fb hK) (bP (List.Perm.refl _))
                                        obtain rfl : o_19 = r20 := hw.symm
                                        rcases br9 hrun with ⟨hc21, hrun⟩ | ⟨hc21, hrun⟩
                                        · refine lv_icmp_lt (tgt := 353) hx hb dL_isCodeRight_348 (by decide) (fun _ => ?_) (fun c => absurd hc21 c)
                                          exact J353 _ _ _ hrun hP hD hK hS (lv_sub hl [0, 1, 2, 3, 4] rfl)
                                        · refine lv_icmp_lt (tgt := 353) hx hb dL_isCodeRight_348 (by decide) (fun c => absurd c hc21) (fun _ => ?_)
                                          refine lv_iconst (v := 0) hx hb dL_isCodeRight_351 (by decide) ?_
                                          have ho9 : 0 = o := hr9 _ (Option.some.inj hrun).symm
                                          have hP9 : va_P (dC, dI) cls (List.flatten ([(oX11 (p0a 0) p0a p0w), (oX6 (p0a 9) p0_8a p0_8k p0_8w p0_8l), (oX0 (p0a 6) p0_5a p0_5k p0_5n p0_5w), (oX9 (p0_5_1a 0 0) (p0_5_1a 0) (p0_5_1k 0) (p0_5_1n 0) (p0_5_1w 0)), (oX9 (p0_5_1a 1 0) (p0_5_1a 1) (p0_5_1k 1) (p0_5_1n 1) (p0_5_1w 1)), (oX9 (p0_5_1a 2 0) (p0_5_1a 2) (p0_5_1k 2) (p0_5_1n 2) (p0_5_1w 2)), (oX9 (p0_5_1a 3 0) (p0_5_1a 3) (p0_5_1k 3) (p0_5_1n 3) (p0_5_1w 3)), (oX9 (p0_5_1a 4 0) (p0_5_1a 4) (p0_5_1k 4) (p0_5_1n 4) (p0_5_1w 4)), (oX9 (p0_5_1a 5 0) (p0_5_1a 5) (p0_5_1k 5) (p0_5_1n 5) (p0_5_1w 5)), [((p0_5a 2), .inl (p0_5_1c, 6, .inr (.inr (.inr (.inr (fun i => some (p0_5_1a i 0)))))))]] : List va_W)) H := by first | exact hP | (rw [← ho9]; exact hP)
                                          have hD9 : va_D A (List.flatten ([(oX11 (p0a 0) p0a p0w), (oX6 (p0a 9) p0_8a p0_8k p0_8w p0_8l), (oX0 (p0a 6) p0_5a p0_5k p0_5n p0_5w), (oX9 (p0_5_1a 0 0) (p0_5_1a 0) (p0_5_1k 0) (p0_5_1n 0) (p0_5_1w 0)), (oX9 (p0_5_1a 1 0) (p0_5_1a 1) (p0_5_1k 1) (p0_5_1n 1) (p0_5_1w 1)), (oX9 (p0_5_1a 2 0) (p0_5_1a 2) (p0_5_1k 2) (p0_5_1n 2) (p0_5_1w 2)), (oX9 (p0_5_1a 3 0) (p0_5_1a 3) (p0_5_1k 3) (p0_5_1n 3) (p0_5_1w 3)), (oX9 (p0_5_1a 4 0) (p0_5_1a 4) (p0_5_1k 4) (p0_5_1n 4) (p0_5_1w 4)), (oX9 (p0_5_1a 5 0) (p0_5_1a 5) (p0_5_1k 5) (p0_5_1n 5) (p0_5_1w 5)), [((p0_5a 2), .inl (p0_5_1c, 6, .inr (.inr (.inr (.inr (fun i => some (p0_5_1a i 0)))))))]] : List va_W)) := by first | exact hD | (rw [← ho9]; exact hD)
                                          subst hQ
                                          exact W.zret (v := 0) hx hb hr (by decide) (fun t ht hW => ⟨⟨0, (), rfl, (by rw [← ho9]), ⟨by rw [ht]; exact hP9, va_K.moved hW.alike hK, hD9⟩⟩, hS.F ht⟩) hS.2.2 dL_isCodeRight_352
                                      · refine lv_icmp_ne (tgt := 353) hx hb dL_isCodeRight_339 (by decide) (fun _ => ?_) (fun c => absurd c hc18)
                                        exact J353 _ _ _ hrun hP hD hK hS (lv_sub hl [0, 1, 2, 3, 4] rfl)
                                    rcases br9 hrun with ⟨hc22, hrun⟩ | ⟨hc22, hrun⟩
                                    · refine lv_icmp_ne (tgt := 335) hx hb dL_isCodeRight_325 (by decide) (fun c => absurd hc22 c) (fun _ => ?_)
                                      refine lv_iload hx hb dL_isCodeRight_328 (lv_at hl 7 rfl) ?_
                                      refine lv_iload hx hb dL_isCodeRight_330 (lv_at hl 8 rfl) ?_
                                      rcases br9 hrun with ⟨hc23, hrun⟩ | ⟨hc23, hrun⟩
                                      · refine lv_icmp_eq (tgt := 351) hx hb dL_isCodeRight_332 (by decide) (fun _ => ?_) (fun c => absurd hc23 c)
                                        refine lv_iconst (v := 0) hx hb dL_isCodeRight_351 (by decide) ?_
                                        have ho9 : 0 = o := hr9 _ (Option.some.inj hrun).symm
                                        have hP9 : va_P (dC, dI) cls (List.flatten ([(oX11 (p0a 0) p0a p0w), (oX6 (p0a 9) p0_8a p0_8k p0_8w p0_8l), (oX0 (p0a 6) p0_5a p0_5k p0_5n p0_5w), (oX9 (p0_5_1a 0 0) (p0_5_1a 0) (p0_5_1k 0) (p0_5_1n 0) (p0_5_1w 0)), (oX9 (p0_5_1a 1 0) (p0_5_1a 1) (p0_5_1k 1) (p0_5_1n 1) (p0_5_1w 1)), (oX9 (p0_5_1a 2 0) (p0_5_1a 2) (p0_5_1k 2) (p0_5_1n 2) (p0_5_1w 2)), (oX9 (p0_5_1a 3 0) (p0_5_1a 3) (p0_5_1k 3) (p0_5_1n 3) (p0_5_1w 3)), (oX9 (p0_5_1a 4 0) (p0_5_1a 4) (p0_5_1k 4) (p0_5_1n 4) (p0_5_1w 4)), (oX9 (p0_5_1a 5 0) (p0_5_1a 5) (p0_5_1k 5) (p0_5_1n 5) (p0_5_1w 5)), [((p0_5a 2), .inl (p0_5_1c, 6, .inr (.inr (.inr (.inr (fun i => some (p0_5_1a i 0)))))))]] : List va_W)) H := by first | exact hP | (rw [← ho9]; exact hP)
                                        have hD9 : va_D A (List.flatten ([(oX11 (p0a 0) p0a p0w), (oX6 (p0a 9) p0_8a p0_8k p0_8w p0_8l), (oX0 (p0a 6) p0_5a p0_5k p0_5n p0_5w), (oX9 (p0_5_1a 0 0) (p0_5_1a 0) (p0_5_1k 0) (p0_5_1n 0) (p0_5_1w 0)), (oX9 (p0_5_1a 1 0) (p0_5_1a 1) (p0_5_1k 1) (p0_5_1n 1) (p0_5_1w 1)), (oX9 (p0_5_1a 2 0) (p0_5_1a 2) (p0_5_1k 2) (p0_5_1n 2) (p0_5_1w 2)), (oX9 (p0_5_1a 3 0) (p0_5_1a 3) (p0_5_1k 3) (p0_5_1n 3) (p0_5_1w 3)), (oX9 (p0_5_1a 4 0) (p0_5_1a 4) (p0_5_1k 4) (p0_5_1n 4) (p0_5_1w 4)), (oX9 (p0_5_1a 5 0) (p0_5_1a 5) (p0_5_1k 5) (p0_5_1n 5) (p0_5_1w 5)), [((p0_5a 2), .inl (p0_5_1c, 6, .inr (.inr (.inr (.inr (fun i => some (p0_5_1a i 0)))))))]] : List va_W)) := by first | exact hD | (rw [← ho9]; exact hD)
                                        subst hQ
                                        exact W.zret (v := 0) hx hb hr (by decide) (fun t ht hW => ⟨⟨0, (), rfl, (by rw [← ho9]), ⟨by rw [ht]; exact hP9, va_K.moved hW.alike hK, hD9⟩⟩, hS.F ht⟩) hS.2.2 dL_isCodeRight_352
                                      · refine lv_icmp_eq (tgt := 351) hx hb dL_isCodeRight_332 (by decide) (fun c => absurd c hc23) (fun _ => ?_)
                                        exact J335 _ _ _ hrun hP hD hK hS (lv_sub hl [1, 2, 3, 4, 5, 6, 8] rfl)
                                    · refine lv_icmp_ne (tgt := 335) hx hb dL_isCodeRight_325 (by decide) (fun _ => ?_) (fun c => absurd c hc22)
                                      exact J335 _ _ _ hrun hP hD hK hS (lv_sub hl [1, 2, 3, 4, 5, 6, 8] rfl)
                              rcases br9 hrun with ⟨hc24, hrun⟩ | ⟨hc24, hrun⟩
                              · refine lv_icmp_ne (tgt := 288) hx hb dL_isCodeRight_280 (by decide) (fun c => absurd hc24 c) (fun _ => ?_)
                                refine lv_iload hx hb dL_isCodeRight_283 (lv_at hl 7 rfl) ?_
                                refine lv_goto (tgt := 308) hx hb dL_isCodeRight_285 (by decide) ?_
                                exact J308 o_8 _ _ _ hrun hP hD hK hS (lv_sub hl [0, 1, 2, 3, 4, 5, 6, 7] rfl)
                              · refine lv_icmp_ne (tgt := 288) hx hb dL_isCodeRight_280 (by decide) (fun _ => ?_) (fun c => absurd c hc24)
                                refine lv_iload hx hb dL_isCodeRight_288 (lv_at hl 5 rfl) ?_
                                refine lv_bipush (v := 23) hx hb dL_isCodeRight_290 (by decide) ?_
                                have J302 : ∀ (H : Heap) (locs : List Loc) (ls : Array Slot), (fL_isCodeRight_J302 (fL_isCodeRight_L9 p1 p2 p0_8w p0_5w p0_5_1n p0_5_1w o_1 n_9) p0_8w o_1 v4_9 o_4 o_6 o_8 o_10) = some o9 → va_P (dC, dI) cls (List.flatten ([(oX11 (p0a 0) p0a p0w), (oX6 (p0a 9) p0_8a p0_8k p0_8w p0_8l), (oX0 (p0a 6) p0_5a p0_5k p0_5n p0_5w), (oX9 (p0_5_1a 0 0) (p0_5_1a 0) (p0_5_1k 0) (p0_5_1n 0) (p0_5_1w 0)), (oX9 (p0_5_1a 1 0) (p0_5_1a 1) (p0_5_1k 1) (p0_5_1n 1) (p0_5_1w 1)), (oX9 (p0_5_1a 2 0) (p0_5_1a 2) (p0_5_1k 2) (p0_5_1n 2) (p0_5_1w 2)), (oX9 (p0_5_1a 3 0) (p0_5_1a 3) (p0_5_1k 3) (p0_5_1n 3) (p0_5_1w 3)), (oX9 (p0_5_1a 4 0) (p0_5_1a 4) (p0_5_1k 4) (p0_5_1n 4) (p0_5_1w 4)), (oX9 (p0_5_1a 5 0) (p0_5_1a 5) (p0_5_1k 5) (p0_5_1n 5) (p0_5_1w 5)), [((p0_5a 2), .inl (p0_5_1c, 6, .inr (.inr (.inr (.inr (fun i => some (p0_5_1a i 0)))))))]] : List va_W)) H → va_D A (List.flatten ([(oX11 (p0a 0) p0a p0w), (oX6 (p0a 9) p0_8a p0_8k p0_8w p0_8l), (oX0 (p0a 6) p0_5a p0_5k p0_5n p0_5w), (oX9 (p0_5_1a 0 0) (p0_5_1a 0) (p0_5_1k 0) (p0_5_1n 0) (p0_5_1w 0)), (oX9 (p0_5_1a 1 0) (p0_5_1a 1) (p0_5_1k 1) (p0_5_1n 1) (p0_5_1w 1)), (oX9 (p0_5_1a 2 0) (p0_5_1a 2) (p0_5_1k 2) (p0_5_1n 2) (p0_5_1w 2)), (oX9 (p0_5_1a 3 0) (p0_5_1a 3) (p0_5_1k 3) (p0_5_1n 3) (p0_5_1w 3)), (oX9 (p0_5_1a 4 0) (p0_5_1a 4) (p0_5_1k 4) (p0_5_1n 4) (p0_5_1w 4)), (oX9 (p0_5_1a 5 0) (p0_5_1a 5) (p0_5_1k 5) (p0_5_1n 5) (p0_5_1w 5)), [((p0_5a 2), .inl (p0_5_1c, 6, .inr (.inr (.inr (.inr (fun i => some (p0_5_1a i 0)))))))]] : List va_W)) → va_K (dC, dI) cls (List.flatten ([[], (tX6 p0_8k), (tX0 p0_5k), (tX9 (p0_5_1k 0)), (tX9 (p0_5_1k 1)), (tX9 (p0_5_1k 2)), (tX9 (p0_5_1k 3)), (tX9 (p0_5_1k 4)), (tX9 (p0_5_1k 5)), [(p0_5_1c, .object RX9)]] : List (List (ClassId × FieldType)))) s → va_S A s.heap H locs → lv_has ls 12 [(0, .ref (p0a 0)), (1, .int p1), (2, .int p2), (3, .int o_1), (4, .int v4_9), (5, .int o_4), (6, .int o_6), (7, .int o_8), (8, .int o_10)] → W p l e ({ frames := 3, cells := 0, slots := 0, locals := 66 } : Room) s m ([.ref (p0a 0), .int p1, .int p2] : List Value).toArray below meth c H locs 0 0 Q (F0 m 302 ls []) := by
                                  intro  H locs ls hrun hP hD hK hS hl 
                                  unfold fL_isCodeRight_J302 at hrun
                                  refine lv_iload hx hb dL_isCodeRight_302 (lv_at hl 8 rfl) ?_
                                  refine lv_goto (tgt := 308) hx hb dL_isCodeRight_304 (by decide) ?_
                                  exact J308 o_10 _ _ _ hrun hP hD hK hS (lv_sub hl [0, 1, 2, 3, 4, 5, 6, 7] rfl)
                                rcases br9 hrun with ⟨hc25, hrun⟩ | ⟨hc25, hrun⟩
                                · refine lv_icmp_eq (tgt := 302) hx hb dL_isCodeRight_292 (by decide) (fun _ => ?_) (fun c => absurd hc25 c)
                                  exact J302 _ _ _ hrun hP hD hK hS (lv_sub hl [0, 1, 2, 3, 4, 5, 6, 7, 8] rfl)
                                · refine lv_icmp_eq (tgt := 302) hx hb dL_isCodeRight_292 (by decide) (fun c => absurd c hc25) (fun _ => ?_)
                                  refine lv_iload hx hb dL_isCodeRight_295 (lv_at hl 5 rfl) ?_
                                  refine lv_bipush (v := 28) hx hb dL_isCodeRight_297 (by decide) ?_
                                  rcases br9 hrun with ⟨hc26, hrun⟩ | ⟨hc26, hrun⟩
                                  · refine lv_icmp_ne (tgt := 307) hx hb dL_isCodeRight_299 (by decide) (fun c => absurd hc26 c) (fun _ => ?_)
                                    exact J302 _ _ _ hrun hP hD hK hS (lv_sub hl [0, 1, 2, 3, 4, 5, 6, 7, 8] rfl)
                                  · refine lv_icmp_ne (tgt := 307) hx hb dL_isCodeRight_299 (by decide) (fun _ => ?_) (fun c => absurd c hc26)
                                    refine lv_iconst (v := 0) hx hb dL_isCodeRight_307 (by decide) ?_
                                    exact J308 0 _ _ _ hrun hP hD hK hS (lv_sub hl [0, 1, 2, 3, 4, 5, 6, 7] rfl)
                            have J263 : ∀ (H : Heap) (locs : List Loc) (ls : Array Slot), (fL_isCodeRight_J263 (fL_isCodeRight_L9 p1 p2 p0_8w p0_5w p0_5_1n p0_5_1w o_1 n_9) p2 p0_8w o_1 v4_9 o_4 o_6 o_8 o_10) = some o9 → va_P (dC, dI) cls (List.flatten ([(oX11 (p0a 0) p0a p0w), (oX6 (p0a 9) p0_8a p0_8k p0_8w p0_8l), (oX0 (p0a 6) p0_5a p0_5k p0_5n p0_5w), (oX9 (p0_5_1a 0 0) (p0_5_1a 0) (p0_5_1k 0) (p0_5_1n 0) (p0_5_1w 0)), (oX9 (p0_5_1a 1 0) (p0_5_1a 1) (p0_5_1k 1) (p0_5_1n 1) (p0_5_1w 1)), (oX9 (p0_5_1a 2 0) (p0_5_1a 2) (p0_5_1k 2) (p0_5_1n 2) (p0_5_1w 2)), (oX9 (p0_5_1a 3 0) (p0_5_1a 3) (p0_5_1k 3) (p0_5_1n 3) (p0_5_1w 3)), (oX9 (p0_5_1a 4 0) (p0_5_1a 4) (p0_5_1k 4) (p0_5_1n 4) (p0_5_1w 4)), (oX9 (p0_5_1a 5 0) (p0_5_1a 5) (p0_5_1k 5) (p0_5_1n 5) (p0_5_1w 5)), [((p0_5a 2), .inl (p0_5_1c, 6, .inr (.inr (.inr (.inr (fun i => some (p0_5_1a i 0)))))))]] : List va_W)) H → va_D A (List.flatten ([(oX11 (p0a 0) p0a p0w), (oX6 (p0a 9) p0_8a p0_8k p0_8w p0_8l), (oX0 (p0a 6) p0_5a p0_5k p0_5n p0_5w), (oX9 (p0_5_1a 0 0) (p0_5_1a 0) (p0_5_1k 0) (p0_5_1n 0) (p0_5_1w 0)), (oX9 (p0_5_1a 1 0) (p0_5_1a 1) (p0_5_1k 1) (p0_5_1n 1) (p0_5_1w 1)), (oX9 (p0_5_1a 2 0) (p0_5_1a 2) (p0_5_1k 2) (p0_5_1n 2) (p0_5_1w 2)), (oX9 (p0_5_1a 3 0) (p0_5_1a 3) (p0_5_1k 3) (p0_5_1n 3) (p0_5_1w 3)), (oX9 (p0_5_1a 4 0) (p0_5_1a 4) (p0_5_1k 4) (p0_5_1n 4) (p0_5_1w 4)), (oX9 (p0_5_1a 5 0) (p0_5_1a 5) (p0_5_1k 5) (p0_5_1n 5) (p0_5_1w 5)), [((p0_5a 2), .inl (p0_5_1c, 6, .inr (.inr (.inr (.inr (fun i => some (p0_5_1a i 0)))))))]] : List va_W)) → va_K (dC, dI) cls (List.flatten ([[], (tX6 p0_8k), (tX0 p0_5k), (tX9 (p0_5_1k 0)), (tX9 (p0_5_1k 1)), (tX9 (p0_5_1k 2)), (tX9 (p0_5_1k 3)), (tX9 (p0_5_1k 4)), (tX9 (p0_5_1k 5)), [(p0_5_1c, .object RX9)]] : List (List (ClassId × FieldType)))) s → va_S A s.heap H locs → lv_has ls 12 [(0, .ref (p0a 0)), (1, .int p1), (2, .int p2), (3, .int o_1), (4, .int v4_9), (5, .int o_4), (6, .int o_6), (7, .int o_8), (8, .int o_10)] → W p l e ({ frames := 3, cells := 0, slots := 0, locals := 66 } : Room) s m ([.ref (p0a 0), .int p1, .int p2] : List Value).toArray below meth c H locs 0 0 Q (F0 m 263 ls []) := by
                              intro  H locs ls hrun hP hD hK hS hl 
                              unfold fL_isCodeRight_J263 at hrun
                              refine lv_iload hx hb dL_isCodeRight_263 (lv_at hl 8 rfl) ?_
                              rcases br9 hrun with ⟨hc27, hrun⟩ | ⟨hc27, hrun⟩
                              · refine lv_if_lt (tgt := 274) hx hb dL_isCodeRight_265 (by decide) (fun _ => ?_) (fun c => absurd hc27 c)
                                refine lv_iconst (v := 0) hx hb dL_isCodeRight_274 (by decide) ?_
                                have ho9 : 0 = o := hr9 _ (Option.some.inj hrun).symm
                                have hP9 : va_P (dC, dI) cls (List.flatten ([(oX11 (p0a 0) p0a p0w), (oX6 (p0a 9) p0_8a p0_8k p0_8w p0_8l), (oX0 (p0a 6) p0_5a p0_5k p0_5n p0_5w), (oX9 (p0_5_1a 0 0) (p0_5_1a 0) (p0_5_1k 0) (p0_5_1n 0) (p0_5_1w 0)), (oX9 (p0_5_1a 1 0) (p0_5_1a 1) (p0_5_1k 1) (p0_5_1n 1) (p0_5_1w 1)), (oX9 (p0_5_1a 2 0) (p0_5_1a 2) (p0_5_1k 2) (p0_5_1n 2) (p0_5_1w 2)), (oX9 (p0_5_1a 3 0) (p0_5_1a 3) (p0_5_1k 3) (p0_5_1n 3) (p0_5_1w 3)), (oX9 (p0_5_1a 4 0) (p0_5_1a 4) (p0_5_1k 4) (p0_5_1n 4) (p0_5_1w 4)), (oX9 (p0_5_1a 5 0) (p0_5_1a 5) (p0_5_1k 5) (p0_5_1n 5) (p0_5_1w 5)), [((p0_5a 2), .inl (p0_5_1c, 6, .inr (.inr (.inr (.inr (fun i => some (p0_5_1a i 0)))))))]] : List va_W)) H := by first | exact hP | (rw [← ho9]; exact hP)
                                have hD9 : va_D A (List.flatten ([(oX11 (p0a 0) p0a p0w), (oX6 (p0a 9) p0_8a p0_8k p0_8w p0_8l), (oX0 (p0a 6) p0_5a p0_5k p0_5n p0_5w), (oX9 (p0_5_1a 0 0) (p0_5_1a 0) (p0_5_1k 0) (p0_5_1n 0) (p0_5_1w 0)), (oX9 (p0_5_1a 1 0) (p0_5_1a 1) (p0_5_1k 1) (p0_5_1n 1) (p0_5_1w 1)), (oX9 (p0_5_1a 2 0) (p0_5_1a 2) (p0_5_1k 2) (p0_5_1n 2) (p0_5_1w 2)), (oX9 (p0_5_1a 3 0) (p0_5_1a 3) (p0_5_1k 3) (p0_5_1n 3) (p0_5_1w 3)), (oX9 (p0_5_1a 4 0) (p0_5_1a 4) (p0_5_1k 4) (p0_5_1n 4) (p0_5_1w 4)), (oX9 (p0_5_1a 5 0) (p0_5_1a 5) (p0_5_1k 5) (p0_5_1n 5) (p0_5_1w 5)), [((p0_5a 2), .inl (p0_5_1c, 6, .inr (.inr (.inr (.inr (fun i => some (p0_5_1a i 0)))))))]] : List va_W)) := by first | exact hD | (rw [← ho9]; exact hD)
                                subst hQ
                                exact W.zret (v := 0) hx hb hr (by decide) (fun t ht hW => ⟨⟨0, (), rfl, (by rw [← ho9]), ⟨by rw [ht]; exact hP9, va_K.moved hW.alike hK, hD9⟩⟩, hS.F ht⟩) hS.2.2 dL_isCodeRight_275
                              · refine lv_if_lt (tgt := 274) hx hb dL_isCodeRight_265 (by decide) (fun c => absurd c hc27) (fun _ => ?_)
                                refine lv_iload hx hb dL_isCodeRight_268 (lv_at hl 8 rfl) ?_
                                refine lv_iload_n hx hb dL_isCodeRight_270 rfl (lv_at hl 2 rfl) ?_
                                rcases br9 hrun with ⟨hc28, hrun⟩ | ⟨hc28, hrun⟩
                                · refine lv_icmp_lt (tgt := 276) hx hb dL_isCodeRight_271 (by decide) (fun _ => ?_) (fun c => absurd hc28 c)
                                  exact J276 _ _ _ hrun hP hD hK hS (lv_sub hl [0, 1, 2, 3, 4, 5, 6, 7, 8] rfl)
                                · refine lv_icmp_lt (tgt := 276) hx hb dL_isCodeRight_271 (by decide) (fun c => absurd c hc28) (fun _ => ?_)
                                  refine lv_iconst (v := 0) hx hb dL_isCodeRight_274 (by decide) ?_
                                  have ho9 : 0 = o := hr9 _ (Option.some.inj hrun).symm
                                  have hP9 : va_P (dC, dI) cls (List.flatten ([(oX11 (p0a 0) p0a p0w), (oX6 (p0a 9) p0_8a p0_8k p0_8w p0_8l), (oX0 (p0a 6) p0_5a p0_5k p0_5n p0_5w), (oX9 (p0_5_1a 0 0) (p0_5_1a 0) (p0_5_1k 0) (p0_5_1n 0) (p0_5_1w 0)), (oX9 (p0_5_1a 1 0) (p0_5_1a 1) (p0_5_1k 1) (p0_5_1n 1) (p0_5_1w 1)), (oX9 (p0_5_1a 2 0) (p0_5_1a 2) (p0_5_1k 2) (p0_5_1n 2) (p0_5_1w 2)), (oX9 (p0_5_1a 3 0) (p0_5_1a 3) (p0_5_1k 3) (p0_5_1n 3) (p0_5_1w 3)), (oX9 (p0_5_1a 4 0) (p0_5_1a 4) (p0_5_1k 4) (p0_5_1n 4) (p0_5_1w 4)), (oX9 (p0_5_1a 5 0) (p0_5_1a 5) (p0_5_1k 5) (p0_5_1n 5) (p0_5_1w 5)), [((p0_5a 2), .inl (p0_5_1c, 6, .inr (.inr (.inr (.inr (fun i => some (p0_5_1a i 0)))))))]] : List va_W)) H := by first | exact hP | (rw [← ho9]; exact hP)
                                  have hD9 : va_D A (List.flatten ([(oX11 (p0a 0) p0a p0w), (oX6 (p0a 9) p0_8a p0_8k p0_8w p0_8l), (oX0 (p0a 6) p0_5a p0_5k p0_5n p0_5w), (oX9 (p0_5_1a 0 0) (p0_5_1a 0) (p0_5_1k 0) (p0_5_1n 0) (p0_5_1w 0)), (oX9 (p0_5_1a 1 0) (p0_5_1a 1) (p0_5_1k 1) (p0_5_1n 1) (p0_5_1w 1)), (oX9 (p0_5_1a 2 0) (p0_5_1a 2) (p0_5_1k 2) (p0_5_1n 2) (p0_5_1w 2)), (oX9 (p0_5_1a 3 0) (p0_5_1a 3) (p0_5_1k 3) (p0_5_1n 3) (p0_5_1w 3)), (oX9 (p0_5_1a 4 0) (p0_5_1a 4) (p0_5_1k 4) (p0_5_1n 4) (p0_5_1w 4)), (oX9 (p0_5_1a 5 0) (p0_5_1a 5) (p0_5_1k 5) (p0_5_1n 5) (p0_5_1w 5)), [((p0_5a 2), .inl (p0_5_1c, 6, .inr (.inr (.inr (.inr (fun i => some (p0_5_1a i 0)))))))]] : List va_W)) := by first | exact hD | (rw [← ho9]; exact hD)
                                  subst hQ
                                  exact W.zret (v := 0) hx hb hr (by decide) (fun t ht hW => ⟨⟨0, (), rfl, (by rw [← ho9]), ⟨by rw [ht]; exact hP9, va_K.moved hW.alike hK, hD9⟩⟩, hS.F ht⟩) hS.2.2 dL_isCodeRight_275
                            have J256 : ∀ (H : Heap) (locs : List Loc) (ls : Array Slot), (fL_isCodeRight_J256 (fL_isCodeRight_L9 p1 p2 p0_8w p0_5w p0_5_1n p0_5_1w o_1 n_9) p2 p0_8w o_1 v4_9 o_4 o_6 o_8 o_10) = some o9 → va_P (dC, dI) cls (List.flatten ([(oX11 (p0a 0) p0a p0w), (oX6 (p0a 9) p0_8a p0_8k p0_8w p0_8l), (oX0 (p0a 6) p0_5a p0_5k p0_5n p0_5w), (oX9 (p0_5_1a 0 0) (p0_5_1a 0) (p0_5_1k 0) (p0_5_1n 0) (p0_5_1w 0)), (oX9 (p0_5_1a 1 0) (p0_5_1a 1) (p0_5_1k 1) (p0_5_1n 1) (p0_5_1w 1)), (oX9 (p0_5_1a 2 0) (p0_5_1a 2) (p0_5_1k 2) (p0_5_1n 2) (p0_5_1w 2)), (oX9 (p0_5_1a 3 0) (p0_5_1a 3) (p0_5_1k 3) (p0_5_1n 3) (p0_5_1w 3)), (oX9 (p0_5_1a 4 0) (p0_5_1a 4) (p0_5_1k 4) (p0_5_1n 4) (p0_5_1w 4)), (oX9 (p0_5_1a 5 0) (p0_5_1a 5) (p0_5_1k 5) (p0_5_1n 5) (p0_5_1w 5)), [((p0_5a 2), .inl (p0_5_1c, 6, .inr (.inr (.inr (.inr (fun i => some (p0_5_1a i 0)))))))]] : List va_W)) H → va_D A (List.flatten ([(oX11 (p0a 0) p0a p0w), (oX6 (p0a 9) p0_8a p0_8k p0_8w p0_8l), (oX0 (p0a 6) p0_5a p0_5k p0_5n p0_5w), (oX9 (p0_5_1a 0 0) (p0_5_1a 0) (p0_5_1k 0) (p0_5_1n 0) (p0_5_1w 0)), (oX9 (p0_5_1a 1 0) (p0_5_1a 1) (p0_5_1k 1) (p0_5_1n 1) (p0_5_1w 1)), (oX9 (p0_5_1a 2 0) (p0_5_1a 2) (p0_5_1k 2) (p0_5_1n 2) (p0_5_1w 2)), (oX9 (p0_5_1a 3 0) (p0_5_1a 3) (p0_5_1k 3) (p0_5_1n 3) (p0_5_1w 3)), (oX9 (p0_5_1a 4 0) (p0_5_1a 4) (p0_5_1k 4) (p0_5_1n 4) (p0_5_1w 4)), (oX9 (p0_5_1a 5 0) (p0_5_1a 5) (p0_5_1k 5) (p0_5_1n 5) (p0_5_1w 5)), [((p0_5a 2), .inl (p0_5_1c, 6, .inr (.inr (.inr (.inr (fun i => some (p0_5_1a i 0)))))))]] : List va_W)) → va_K (dC, dI) cls (List.flatten ([[], (tX6 p0_8k), (tX0 p0_5k), (tX9 (p0_5_1k 0)), (tX9 (p0_5_1k 1)), (tX9 (p0_5_1k 2)), (tX9 (p0_5_1k 3)), (tX9 (p0_5_1k 4)), (tX9 (p0_5_1k 5)), [(p0_5_1c, .object RX9)]] : List (List (ClassId × FieldType)))) s → va_S A s.heap H locs → lv_has ls 12 [(0, .ref (p0a 0)), (1, .int p1), (2, .int p2), (3, .int o_1), (4, .int v4_9), (5, .int o_4), (6, .int o_6), (7, .int o_8), (8, .int o_10)] → W p l e ({ frames := 3, cells := 0, slots := 0, locals := 66 } : Room) s m ([.ref (p0a 0), .int p1, .int p2] : List Value).toArray below meth c H locs 0 0 Q (F0 m 256 ls []) := by
                              intro  H locs ls hrun hP hD hK hS hl 
                              unfold fL_isCodeRight_J256 at hrun
                              refine lv_iload hx hb dL_isCodeRight_256 (lv_at hl 5 rfl) ?_
                              refine lv_bipush (v := 18) hx hb dL_isCodeRight_258 (by decide) ?_
                              rcases br9 hrun with ⟨hc29, hrun⟩ | ⟨hc29, hrun⟩
                              · refine lv_icmp_ne (tgt := 276) hx hb dL_isCodeRight_260 (by decide) (fun c => absurd hc29 c) (fun _ => ?_)
                                exact J263 _ _ _ hrun hP hD hK hS (lv_sub hl [0, 1, 2, 3, 4, 5, 6, 7, 8] rfl)
                              · refine lv_icmp_ne (tgt := 276) hx hb dL_isCodeRight_260 (by decide) (fun _ => ?_) (fun c => absurd c hc29)
                                exact J276 _ _ _ hrun hP hD hK hS (lv_sub hl [0, 1, 2, 3, 4, 5, 6, 7, 8] rfl)
                            rcases br9 hrun with ⟨hc30, hrun⟩ | ⟨hc30, hrun⟩
                            · refine lv_if_le (tgt := 256) hx hb dL_isCodeRight_246 (by decide) (fun _ => ?_) (fun c => absurd hc30 c)
                              exact J256 _ _ _ hrun hP hD hK hS (lv_sub hl [0, 1, 2, 3, 4, 5, 6, 7, 8] rfl)
                            · refine lv_if_le (tgt := 256) hx hb dL_isCodeRight_246 (by decide) (fun c => absurd c hc30) (fun _ => ?_)
                              refine lv_iload hx hb dL_isCodeRight_249 (lv_at hl 5 rfl) ?_
                              refine lv_bipush (v := 17) hx hb dL_isCodeRight_251 (by decide) ?_
                              rcases br9 hrun with ⟨hc31, hrun⟩ | ⟨hc31, hrun⟩
                              · refine lv_icmp_lt (tgt := 263) hx hb dL_isCodeRight_253 (by decide) (fun _ => ?_) (fun c => absurd hc31 c)
                                exact J263 _ _ _ hrun hP hD hK hS (lv_sub hl [0, 1, 2, 3, 4, 5, 6, 7, 8] rfl)
                              · refine lv_icmp_lt (tgt := 263) hx hb dL_isCodeRight_253 (by decide) (fun c => absurd c hc31) (fun _ => ?_)
                                exact J256 _ _ _ hrun hP hD hK hS (lv_sub hl [0, 1, 2, 3, 4, 5, 6, 7, 8] rfl)
                          rcases br9 hrun with ⟨hc32, hrun⟩ | ⟨hc32, hrun⟩
                          · refine lv_icmp_ne (tgt := 244) hx hb dL_isCodeRight_224 (by decide) (fun c => absurd hc32 c) (fun _ => ?_)
                            refine lv_iload hx hb dL_isCodeRight_227 (lv_at hl 8 rfl) ?_
                            rcases br9 hrun with ⟨hc33, hrun⟩ | ⟨hc33, hrun⟩
                            · refine lv_if_lt (tgt := 242) hx hb dL_isCodeRight_229 (by decide) (fun _ => ?_) (fun c => absurd hc33 c)
                              refine lv_iconst (v := 0) hx hb dL_isCodeRight_242 (by decide) ?_
                              have ho9 : 0 = o := hr9 _ (Option.some.inj hrun).symm
                              have hP9 : va_P (dC, dI) cls (List.flatten ([(oX11 (p0a 0) p0a p0w), (oX6 (p0a 9) p0_8a p0_8k p0_8w p0_8l), (oX0 (p0a 6) p0_5a p0_5k p0_5n p0_5w), (oX9 (p0_5_1a 0 0) (p0_5_1a 0) (p0_5_1k 0) (p0_5_1n 0) (p0_5_1w 0)), (oX9 (p0_5_1a 1 0) (p0_5_1a 1) (p0_5_1k 1) (p0_5_1n 1) (p0_5_1w 1)), (oX9 (p0_5_1a 2 0) (p0_5_1a 2) (p0_5_1k 2) (p0_5_1n 2) (p0_5_1w 2)), (oX9 (p0_5_1a 3 0) (p0_5_1a 3) (p0_5_1k 3) (p0_5_1n 3) (p0_5_1w 3)), (oX9 (p0_5_1a 4 0) (p0_5_1a 4) (p0_5_1k 4) (p0_5_1n 4) (p0_5_1w 4)), (oX9 (p0_5_1a 5 0) (p0_5_1a 5) (p0_5_1k 5) (p0_5_1n 5) (p0_5_1w 5)), [((p0_5a 2), .inl (p0_5_1c, 6, .inr (.inr (.inr (.inr (fun i => some (p0_5_1a i 0)))))))]] : List va_W)) H := by first | exact hP | (rw [← ho9]; exact hP)
                              have hD9 : va_D A (List.flatten ([(oX11 (p0a 0) p0a p0w), (oX6 (p0a 9) p0_8a p0_8k p0_8w p0_8l), (oX0 (p0a 6) p0_5a p0_5k p0_5n p0_5w), (oX9 (p0_5_1a 0 0) (p0_5_1a 0) (p0_5_1k 0) (p0_5_1n 0) (p0_5_1w 0)), (oX9 (p0_5_1a 1 0) (p0_5_1a 1) (p0_5_1k 1) (p0_5_1n 1) (p0_5_1w 1)), (oX9 (p0_5_1a 2 0) (p0_5_1a 2) (p0_5_1k 2) (p0_5_1n 2) (p0_5_1w 2)), (oX9 (p0_5_1a 3 0) (p0_5_1a 3) (p0_5_1k 3) (p0_5_1n 3) (p0_5_1w 3)), (oX9 (p0_5_1a 4 0) (p0_5_1a 4) (p0_5_1k 4) (p0_5_1n 4) (p0_5_1w 4)), (oX9 (p0_5_1a 5 0) (p0_5_1a 5) (p0_5_1k 5) (p0_5_1n 5) (p0_5_1w 5)), [((p0_5a 2), .inl (p0_5_1c, 6, .inr (.inr (.inr (.inr (fun i => some (p0_5_1a i 0)))))))]] : List va_W)) := by first | exact hD | (rw [← ho9]; exact hD)
                              subst hQ
                              exact W.zret (v := 0) hx hb hr (by decide) (fun t ht hW => ⟨⟨0, (), rfl, (by rw [← ho9]), ⟨by rw [ht]; exact hP9, va_K.moved hW.alike hK, hD9⟩⟩, hS.F ht⟩) hS.2.2 dL_isCodeRight_243
                            · refine lv_if_lt (tgt := 242) hx hb dL_isCodeRight_229 (by decide) (fun c => absurd c hc33) (fun _ => ?_)
                              refine lv_iload hx hb dL_isCodeRight_232 (lv_at hl 8 rfl) ?_
                              refine lv_aload_n hx hb dL_isCodeRight_234 rfl (lv_at hl 0 rfl) ?_
                              refine lv_iload_n hx hb dL_isCodeRight_235 rfl (lv_at hl 1 rfl) ?_
                              obtain ⟨o_34, hc_34, hrun⟩ := bnd9 hrun
                              have hPx : va_P (dC, dI) cls ((List.flatten ([(oX11 (p0a 0) p0a p0w), (oX6 (p0a 9) p0_8a p0_8k p0_8w p0_8l), (oX0 (p0a 6) p0_5a p0_5k p0_5n p0_5w)] : List va_W)) ++ (List.flatten ([(oX9 (p0_5_1a 0 0) (p0_5_1a 0) (p0_5_1k 0) (p0_5_1n 0) (p0_5_1w 0)), (oX9 (p0_5_1a 1 0) (p0_5_1a 1) (p0_5_1k 1) (p0_5_1n 1) (p0_5_1w 1)), (oX9 (p0_5_1a 2 0) (p0_5_1a 2) (p0_5_1k 2) (p0_5_1n 2) (p0_5_1w 2)), (oX9 (p0_5_1a 3 0) (p0_5_1a 3) (p0_5_1k 3) (p0_5_1n 3) (p0_5_1w 3)), (oX9 (p0_5_1a 4 0) (p0_5_1a 4) (p0_5_1k 4) (p0_5_1n 4) (p0_5_1w 4)), (oX9 (p0_5_1a 5 0) (p0_5_1a 5) (p0_5_1k 5) (p0_5_1n 5) (p0_5_1w 5)), [((p0_5a 2), .inl (p0_5_1c, 6, .inr (.inr (.inr (.inr (fun i => some (p0_5_1a i 0)))))))]] : List va_W))) H := vP_fa (vP_perm hP (bP (List.Perm.refl _)))
                              have hDx : va_D A ((List.flatten ([(oX11 (p0a 0) p0a p0w), (oX6 (p0a 9) p0_8a p0_8k p0_8w p0_8l), (oX0 (p0a 6) p0_5a p0_5k p0_5n p0_5w)] : List va_W)) ++ (List.flatten ([(oX9 (p0_5_1a 0 0) (p0_5_1a 0) (p0_5_1k 0) (p0_5_1n 0) (p0_5_1w 0)), (oX9 (p0_5_1a 1 0) (p0_5_1a 1) (p0_5_1k 1) (p0_5_1n 1) (p0_5_1w 1)), (oX9 (p0_5_1a 2 0) (p0_5_1a 2) (p0_5_1k 2) (p0_5_1n 2) (p0_5_1w 2)), (oX9 (p0_5_1a 3 0) (p0_5_1a 3) (p0_5_1k 3) (p0_5_1n 3) (p0_5_1w 3)), (oX9 (p0_5_1a 4 0) (p0_5_1a 4) (p0_5_1k 4) (p0_5_1n 4) (p0_5_1w 4)), (oX9 (p0_5_1a 5 0) (p0_5_1a 5) (p0_5_1k 5) (p0_5_1n 5) (p0_5_1w 5)), [((p0_5a 2), .inl (p0_5_1c, 6, .inr (.inr (.inr (.inr (fun i => some (p0_5_1a i 0)))))))]] : List va_W))) := vD_fa (vD_perm hD (bP (List.Perm.refl _)))
                              have hKx : va_K (dC, dI) cls ((List.flatten ([[], (tX6 p0_8k), (tX0 p0_5k)] : List (List (ClassId × FieldType)))) ++ (List.flatten ([(tX9 (p0_5_1k 0)), (tX9 (p0_5_1k 1)), (tX9 (p0_5_1k 2)), (tX9 (p0_5_1k 3)), (tX9 (p0_5_1k 4)), (tX9 (p0_5_1k 5)), [(p0_5_1c, .object RX9)]] : List (List (ClassId × FieldType))))) s := vK_fa (vK_perm hK (bP (List.Perm.refl _)))
                              have hPc := vP_l hPx
                              have hDc := vD_l hDx
                              have hKc := vK_l hKx
                              have hFc := vfree hDx hS hA
                              refine va_calli (va_runV (As := [.int p1]) (rest := [.int o_10]) ⟨hx, hb, hml, hown, hts⟩ (kX11_slots l dC dI (p0a := p0a) (p0w := p0w) (p1 := p1) (p0_8a := p0_8a) (p0_8k := p0_8k) (p0_8w := p0_8w) (p0_8l := p0_8l) (p0_5a := p0_5a) (p0_5k := p0_5k) (p0_5n := p0_5n) (p0_5w := p0_5w) (sz := _) (o := o_34) (hrun := hc_34)) (cwV 1 hts (gi_V qw1549 qw1550 qw1551 qw129 (gi_z qw1548)) rfl rfl rfl (by decide +kernel) ⟨Nat.le_of_ble_eq_true rfl, Nat.le_of_ble_eq_true rfl⟩) ⟨PRE.blind, va_recv hKc hPc (ci := 11) (q0 := 0) rfl rfl, PRE.of hE hS hFc hPc hKc hDc⟩ rfl rfl hl.1 rfl (lv_room (Nat.le_of_ble_eq_true rfl)) dL_isCodeRight_236 ⟨(Nat.le_of_ble_eq_true rfl), (Nat.le_of_ble_eq_true rfl)⟩) hS (fun q _ h => hFc q h) hFc (fun r35 u t H locs ht hvm hw hB hz1 hk1 hS => ?_)
                              obtain ⟨b1, b2, b3⟩ := hB
                              rw [ht] at b1
                              obtain ⟨hP, hD, hK⟩ := JOINC (wc := (List.flatten ([(oX11 (p0a 0) p0a p0w), (oX6 (p0a 9) p0_8a p0_8k p0_8w p0_8l), (oX0 (p0a 6) p0_5a p0_5k p0_5n p0_5w)] : List va_W))) (wr := (List.flatten ([(oX9 (p0_5_1a 0 0) (p0_5_1a 0) (p0_5_1k 0) (p0_5_1n 0) (p0_5_1w 0)), (oX9 (p0_5_1a 1 0) (p0_5_1a 1) (p0_5_1k 1) (p0_5_1n 1) (p0_5_1w 1)), (oX9 (p0_5_1a 2 0) (p0_5_1a 2) (p0_5_1k 2) (p0_5_1n 2) (p0_5_1w 2)), (oX9 (p0_5_1a 3 0) (p0_5_1a 3) (p0_5_1k 3) (p0_5_1n 3) (p0_5_1w 3)), (oX9 (p0_5_1a 4 0) (p0_5_1a 4) (p0_5_1k 4) (p0_5_1n 4) (p0_5_1w 4)), (oX9 (p0_5_1a 5 0) (p0_5_1a 5) (p0_5_1k 5) (p0_5_1n 5) (p0_5_1w 5)), [((p0_5a 2), .inl (p0_5_1c, 6, .inr (.inr (.inr (.inr (fun i => some (p0_5_1a i 0)))))))]] : List va_W))) (w1 := (List.flatten ([(oX11 (p0a 0) p0a p0w), (oX6 (p0a 9) p0_8a p0_8k p0_8w p0_8l), (oX0 (p0a 6) p0_5a p0_5k p0_5n p0_5w)] : List va_W))) (t1 := (List.flatten ([[], (tX6 p0_8k), (tX0 p0_5k)] : List (List (ClassId × FieldType))))) hPx hDx hKx hk1 hFc b1 (va_K.moved hvm.symm b2) b3
                              have hP : va_P (dC, dI) cls (List.flatten ([(oX11 (p0a 0) p0a p0w), (oX6 (p0a 9) p0_8a p0_8k p0_8w p0_8l), (oX0 (p0a 6) p0_5a p0_5k p0_5n p0_5w), (oX9 (p0_5_1a 0 0) (p0_5_1a 0) (p0_5_1k 0) (p0_5_1n 0) (p0_5_1w 0)), (oX9 (p0_5_1a 1 0) (p0_5_1a 1) (p0_5_1k 1) (p0_5_1n 1) (p0_5_1w 1)), (oX9 (p0_5_1a 2 0) (p0_5_1a 2) (p0_5_1k 2) (p0_5_1n 2) (p0_5_1w 2)), (oX9 (p0_5_1a 3 0) (p0_5_1a 3) (p0_5_1k 3) (p0_5_1n 3) (p0_5_1w 3)), (oX9 (p0_5_1a 4 0) (p0_5_1a 4) (p0_5_1k 4) (p0_5_1n 4) (p0_5_1w 4)), (oX9 (p0_5_1a 5 0) (p0_5_1a 5) (p0_5_1k 5) (p0_5_1n 5) (p0_5_1w 5)), [((p0_5a 2), .inl (p0_5_1c, 6, .inr (.inr (.inr (.inr (fun i => some (p0_5_1a i 0)))))))]] : List va_W)) H := vP_perm (vP_fb hP) (bP (List.Perm.refl _))
                              have hD : va_D A (List.flatten ([(oX11 (p0a 0) p0a p0w), (oX6 (p0a 9) p0_8a p0_8k p0_8w p0_8l), (oX0 (p0a 6) p0_5a p0_5k p0_5n p0_5w), (oX9 (p0_5_1a 0 0) (p0_5_1a 0) (p0_5_1k 0) (p0_5_1n 0) (p0_5_1w 0)), (oX9 (p0_5_1a 1 0) (p0_5_1a 1) (p0_5_1k 1) (p0_5_1n 1) (p0_5_1w 1)), (oX9 (p0_5_1a 2 0) (p0_5_1a 2) (p0_5_1k 2) (p0_5_1n 2) (p0_5_1w 2)), (oX9 (p0_5_1a 3 0) (p0_5_1a 3) (p0_5_1k 3) (p0_5_1n 3) (p0_5_1w 3)), (oX9 (p0_5_1a 4 0) (p0_5_1a 4) (p0_5_1k 4) (p0_5_1n 4) (p0_5_1w 4)), (oX9 (p0_5_1a 5 0) (p0_5_1a 5) (p0_5_1k 5) (p0_5_1n 5) (p0_5_1w 5)), [((p0_5a 2), .inl (p0_5_1c, 6, .inr (.inr (.inr (.inr (fun i => some (p0_5_1a i 0)))))))]] : List va_W)) := vD_perm (vD_fb hD) (bP (List.Perm.refl _))
                              have hK : va_K (dC, dI) cls (List.flatten ([[], (tX6 p0_8k), (tX0 p0_5k), (tX9 (p0_5_1k 0)), (tX9 (p0_5_1k 1)), (tX9 (p0_5_1k 2)), (tX9 (p0_5_1k 3)), (tX9 (p0_5_1k 4)), (tX9 (p0_5_1k 5)), [(p0_5_1c, .object RX9)]] : List (List (ClassId × FieldType)))) s := vK_perm (vK_fb hK) (bP (List.Perm.refl _))
                              obtain rfl : o_34 = r35 := hw.symm
                              rcases br9 hrun with ⟨hc36, hrun⟩ | ⟨hc36, hrun⟩
                              · refine lv_icmp_lt (tgt := 244) hx hb dL_isCodeRight_239 (by decide) (fun _ => ?_) (fun c => absurd hc36 c)
                                exact J244 _ _ _ hrun hP hD hK hS (lv_sub hl [0, 1, 2, 3, 4, 5, 6, 7, 8] rfl)
                              · refine lv_icmp_lt (tgt := 244) hx hb dL_isCodeRight_239 (by decide) (fun c => absurd c hc36) (fun _ => ?_)
                                refine lv_iconst (v := 0) hx hb dL_isCodeRight_242 (by decide) ?_
                                have ho9 : 0 = o := hr9 _ (Option.some.inj hrun).symm
                                have hP9 : va_P (dC, dI) cls (List.flatten ([(oX11 (p0a 0) p0a p0w), (oX6 (p0a 9) p0_8a p0_8k p0_8w p0_8l), (oX0 (p0a 6) p0_5a p0_5k p0_5n p0_5w), (oX9 (p0_5_1a 0 0) (p0_5_1a 0) (p0_5_1k 0) (p0_5_1n 0) (p0_5_1w 0)), (oX9 (p0_5_1a 1 0) (p0_5_1a 1) (p0_5_1k 1) (p0_5_1n 1) (p0_5_1w 1)), (oX9 (p0_5_1a 2 0) (p0_5_1a 2) (p0_5_1k 2) (p0_5_1n 2) (p0_5_1w 2)), (oX9 (p0_5_1a 3 0) (p0_5_1a 3) (p0_5_1k 3) (p0_5_1n 3) (p0_5_1w 3)), (oX9 (p0_5_1a 4 0) (p0_5_1a 4) (p0_5_1k 4) (p0_5_1n 4) (p0_5_1w 4)), (oX9 (p0_5_1a 5 0) (p0_5_1a 5) (p0_5_1k 5) (p0_5_1n 5) (p0_5_1w 5)), [((p0_5a 2), .inl (p0_5_1c, 6, .inr (.inr (.inr (.inr (fun i => some (p0_5_1a i 0)))))))]] : List va_W)) H := by first | exact hP | (rw [← ho9]; exact hP)
                                have hD9 : va_D A (List.flatten ([(oX11 (p0a 0) p0a p0w), (oX6 (p0a 9) p0_8a p0_8k p0_8w p0_8l), (oX0 (p0a 6) p0_5a p0_5k p0_5n p0_5w), (oX9 (p0_5_1a 0 0) (p0_5_1a 0) (p0_5_1k 0) (p0_5_1n 0) (p0_5_1w 0)), (oX9 (p0_5_1a 1 0) (p0_5_1a 1) (p0_5_1k 1) (p0_5_1n 1) (p0_5_1w 1)), (oX9 (p0_5_1a 2 0) (p0_5_1a 2) (p0_5_1k 2) (p0_5_1n 2) (p0_5_1w 2)), (oX9 (p0_5_1a 3 0) (p0_5_1a 3) (p0_5_1k 3) (p0_5_1n 3) (p0_5_1w 3)), (oX9 (p0_5_1a 4 0) (p0_5_1a 4) (p0_5_1k 4) (p0_5_1n 4) (p0_5_1w 4)), (oX9 (p0_5_1a 5 0) (p0_5_1a 5) (p0_5_1k 5) (p0_5_1n 5) (p0_5_1w 5)), [((p0_5a 2), .inl (p0_5_1c, 6, .inr (.inr (.inr (.inr (fun i => some (p0_5_1a i 0)))))))]] : List va_W)) := by first | exact hD | (rw [← ho9]; exact hD)
                                subst hQ
                                exact W.zret (v := 0) hx hb hr (by decide) (fun t ht hW => ⟨⟨0, (), rfl, (by rw [← ho9]), ⟨by rw [ht]; exact hP9, va_K.moved hW.alike hK, hD9⟩⟩, hS.F ht⟩) hS.2.2 dL_isCodeRight_243
                          · refine lv_icmp_ne (tgt := 244) hx hb dL_isCodeRight_224 (by decide) (fun _ => ?_) (fun c => absurd c hc32)
                            exact J244 _ _ _ hrun hP hD hK hS (lv_sub hl [0, 1, 2, 3, 4, 5, 6, 7, 8] rfl)
                        rcases br9 hrun with ⟨hc37, hrun⟩ | ⟨hc37, hrun⟩
                        · refine lv_icmp_ne (tgt := 220) hx hb dL_isCodeRight_202 (by decide) (fun c => absurd hc37 c) (fun _ => ?_)
                          refine lv_iload hx hb dL_isCodeRight_205 (lv_at hl 7 rfl) ?_
                          rcases br9 hrun with ⟨hc38, hrun⟩ | ⟨hc38, hrun⟩
                          · refine lv_if_lt (tgt := 242) hx hb dL_isCodeRight_207 (by decide) (fun _ => ?_) (fun c => absurd hc38 c)
                            refine lv_iconst (v := 0) hx hb dL_isCodeRight_242 (by decide) ?_
                            have ho9 : 0 = o := hr9 _ (Option.some.inj hrun).symm
                            have hP9 : va_P (dC, dI) cls (List.flatten ([(oX11 (p0a 0) p0a p0w), (oX6 (p0a 9) p0_8a p0_8k p0_8w p0_8l), (oX0 (p0a 6) p0_5a p0_5k p0_5n p0_5w), (oX9 (p0_5_1a 0 0) (p0_5_1a 0) (p0_5_1k 0) (p0_5_1n 0) (p0_5_1w 0)), (oX9 (p0_5_1a 1 0) (p0_5_1a 1) (p0_5_1k 1) (p0_5_1n 1) (p0_5_1w 1)), (oX9 (p0_5_1a 2 0) (p0_5_1a 2) (p0_5_1k 2) (p0_5_1n 2) (p0_5_1w 2)), (oX9 (p0_5_1a 3 0) (p0_5_1a 3) (p0_5_1k 3) (p0_5_1n 3) (p0_5_1w 3)), (oX9 (p0_5_1a 4 0) (p0_5_1a 4) (p0_5_1k 4) (p0_5_1n 4) (p0_5_1w 4)), (oX9 (p0_5_1a 5 0) (p0_5_1a 5) (p0_5_1k 5) (p0_5_1n 5) (p0_5_1w 5)), [((p0_5a 2), .inl (p0_5_1c, 6, .inr (.inr (.inr (.inr (fun i => some (p0_5_1a i 0)))))))]] : List va_W)) H := by first | exact hP | (rw [← ho9]; exact hP)
                            have hD9 : va_D A (List.flatten ([(oX11 (p0a 0) p0a p0w), (oX6 (p0a 9) p0_8a p0_8k p0_8w p0_8l), (oX0 (p0a 6) p0_5a p0_5k p0_5n p0_5w), (oX9 (p0_5_1a 0 0) (p0_5_1a 0) (p0_5_1k 0) (p0_5_1n 0) (p0_5_1w 0)), (oX9 (p0_5_1a 1 0) (p0_5_1a 1) (p0_5_1k 1) (p0_5_1n 1) (p0_5_1w 1)), (oX9 (p0_5_1a 2 0) (p0_5_1a 2) (p0_5_1k 2) (p0_5_1n 2) (p0_5_1w 2)), (oX9 (p0_5_1a 3 0) (p0_5_1a 3) (p0_5_1k 3) (p0_5_1n 3) (p0_5_1w 3)), (oX9 (p0_5_1a 4 0) (p0_5_1a 4) (p0_5_1k 4) (p0_5_1n 4) (p0_5_1w 4)), (oX9 (p0_5_1a 5 0) (p0_5_1a 5) (p0_5_1k 5) (p0_5_1n 5) (p0_5_1w 5)), [((p0_5a 2), .inl (p0_5_1c, 6, .inr (.inr (.inr (.inr (fun i => some (p0_5_1a i 0)))))))]] : List va_W)) := by first | exact hD | (rw [← ho9]; exact hD)
                            subst hQ
                            exact W.zret (v := 0) hx hb hr (by decide) (fun t ht hW => ⟨⟨0, (), rfl, (by rw [← ho9]), ⟨by rw [ht]; exact hP9, va_K.moved hW.alike hK, hD9⟩⟩, hS.F ht⟩) hS.2.2 dL_isCodeRight_243
                          · refine lv_if_lt (tgt := 242) hx hb dL_isCodeRight_207 (by decide) (fun c => absurd c hc38) (fun _ => ?_)
                            refine lv_iload hx hb dL_isCodeRight_210 (lv_at hl 7 rfl) ?_
                            refine lv_aload_n hx hb dL_isCodeRight_212 rfl (lv_at hl 0 rfl) ?_
                            refine lv_iload_n hx hb dL_isCodeRight_213 rfl (lv_at hl 1 rfl) ?_
                            obtain ⟨o_39, hc_39, hrun⟩ := bnd9 hrun
                            have hPx : va_P (dC, dI) cls ((List.flatten ([(oX11 (p0a 0) p0a p0w), (oX6 (p0a 9) p0_8a p0_8k p0_8w p0_8l), (oX0 (p0a 6) p0_5a p0_5k p0_5n p0_5w)] : List va_W)) ++ (List.flatten ([(oX9 (p0_5_1a 0 0) (p0_5_1a 0) (p0_5_1k 0) (p0_5_1n 0) (p0_5_1w 0)), (oX9 (p0_5_1a 1 0) (p0_5_1a 1) (p0_5_1k 1) (p0_5_1n 1) (p0_5_1w 1)), (oX9 (p0_5_1a 2 0) (p0_5_1a 2) (p0_5_1k 2) (p0_5_1n 2) (p0_5_1w 2)), (oX9 (p0_5_1a 3 0) (p0_5_1a 3) (p0_5_1k 3) (p0_5_1n 3) (p0_5_1w 3)), (oX9 (p0_5_1a 4 0) (p0_5_1a 4) (p0_5_1k 4) (p0_5_1n 4) (p0_5_1w 4)), (oX9 (p0_5_1a 5 0) (p0_5_1a 5) (p0_5_1k 5) (p0_5_1n 5) (p0_5_1w 5)), [((p0_5a 2), .inl (p0_5_1c, 6, .inr (.inr (.inr (.inr (fun i => some (p0_5_1a i 0)))))))]] : List va_W))) H := vP_fa (vP_perm hP (bP (List.Perm.refl _)))
                            have hDx : va_D A ((List.flatten ([(oX11 (p0a 0) p0a p0w), (oX6 (p0a 9) p0_8a p0_8k p0_8w p0_8l), (oX0 (p0a 6) p0_5a p0_5k p0_5n p0_5w)] : List va_W)) ++ (List.flatten ([(oX9 (p0_5_1a 0 0) (p0_5_1a 0) (p0_5_1k 0) (p0_5_1n 0) (p0_5_1w 0)), (oX9 (p0_5_1a 1 0) (p0_5_1a 1) (p0_5_1k 1) (p0_5_1n 1) (p0_5_1w 1)), (oX9 (p0_5_1a 2 0) (p0_5_1a 2) (p0_5_1k 2) (p0_5_1n 2) (p0_5_1w 2)), (oX9 (p0_5_1a 3 0) (p0_5_1a 3) (p0_5_1k 3) (p0_5_1n 3) (p0_5_1w 3)), (oX9 (p0_5_1a 4 0) (p0_5_1a 4) (p0_5_1k 4) (p0_5_1n 4) (p0_5_1w 4)), (oX9 (p0_5_1a 5 0) (p0_5_1a 5) (p0_5_1k 5) (p0_5_1n 5) (p0_5_1w 5)), [((p0_5a 2), .inl (p0_5_1c, 6, .inr (.inr (.inr (.inr (fun i => some (p0_5_1a i 0)))))))]] : List va_W))) := vD_fa (vD_perm hD (bP (List.Perm.refl _)))
                            have hKx : va_K (dC, dI) cls ((List.flatten ([[], (tX6 p0_8k), (tX0 p0_5k)] : List (List (ClassId × FieldType)))) ++ (List.flatten ([(tX9 (p0_5_1k 0)), (tX9 (p0_5_1k 1)), (tX9 (p0_5_1k 2)), (tX9 (p0_5_1k 3)), (tX9 (p0_5_1k 4)), (tX9 (p0_5_1k 5)), [(p0_5_1c, .object RX9)]] : List (List (ClassId × FieldType))))) s := vK_fa (vK_perm hK (bP (List.Perm.refl _)))
                            have hPc := vP_l hPx
                            have hDc := vD_l hDx
                            have hKc := vK_l hKx
                            have hFc := vfree hDx hS hA
                            refine va_calli (va_runV (As := [.int p1]) (rest := [.int o_8]) ⟨hx, hb, hml, hown, hts⟩ (kX11_slots l dC dI (p0a := p0a) (p0w := p0w) (p1 := p1) (p0_8a := p0_8a) (p0_8k := p0_8k) (p0_8w := p0_8w) (p0_8l := p0_8l) (p0_5a := p0_5a) (p0_5k := p0_5k) (p0_5n := p0_5n) (p0_5w := p0_5w) (sz := _) (o := o_39) (hrun := hc_39)) (cwV 1 hts (gi_V qw1549 qw1550 qw1551 qw129 (gi_z qw1548)) rfl rfl rfl (by decide +kernel) ⟨Nat.le_of_ble_eq_true rfl, Nat.le_of_ble_eq_true rfl⟩) ⟨PRE.blind, va_recv hKc hPc (ci := 11) (q0 := 0) rfl rfl, PRE.of hE hS hFc hPc hKc hDc⟩ rfl rfl hl.1 rfl (lv_room (Nat.le_of_ble_eq_true rfl)) dL_isCodeRight_214 ⟨(Nat.le_of_ble_eq_true rfl), (Nat.le_of_ble_eq_true rfl)⟩) hS (fun q _ h => hFc q h) hFc (fun r40 u t H locs ht hvm hw hB hz1 hk1 hS => ?_)
                            obtain ⟨b1, b2, b3⟩ := hB
                            rw [ht] at b1
                            obtain ⟨hP, hD, hK⟩ := JOINC (wc := (List.flatten ([(oX11 (p0a 0) p0a p0w), (oX6 (p0a 9) p0_8a p0_8k p0_8w p0_8l), (oX0 (p0a 6) p0_5a p0_5k p0_5n p0_5w)] : List va_W))) (wr := (List.flatten ([(oX9 (p0_5_1a 0 0) (p0_5_1a 0) (p0_5_1k 0) (p0_5_1n 0) (p0_5_1w 0)), (oX9 (p0_5_1a 1 0) (p0_5_1a 1) (p0_5_1k 1) (p0_5_1n 1) (p0_5_1w 1)), (oX9 (p0_5_1a 2 0) (p0_5_1a 2) (p0_5_1k 2) (p0_5_1n 2) (p0_5_1w 2)), (oX9 (p0_5_1a 3 0) (p0_5_1a 3) (p0_5_1k 3) (p0_5_1n 3) (p0_5_1w 3)), (oX9 (p0_5_1a 4 0) (p0_5_1a 4) (p0_5_1k 4) (p0_5_1n 4) (p0_5_1w 4)), (oX9 (p0_5_1a 5 0) (p0_5_1a 5) (p0_5_1k 5) (p0_5_1n 5) (p0_5_1w 5)), [((p0_5a 2), .inl (p0_5_1c, 6, .inr (.inr (.inr (.inr (fun i => some (p0_5_1a i 0)))))))]] : List va_W))) (w1 := (List.flatten ([(oX11 (p0a 0) p0a p0w), (oX6 (p0a 9) p0_8a p0_8k p0_8w p0_8l), (oX0 (p0a 6) p0_5a p0_5k p0_5n p0_5w)] : List va_W))) (t1 := (List.flatten ([[], (tX6 p0_8k), (tX0 p0_5k)] : List (List (ClassId × FieldType))))) hPx hDx hKx hk1 hFc b1 (va_K.moved hvm.symm b2) b3
                            have hP : va_P (dC, dI) cls (List.flatten ([(oX11 (p0a 0) p0a p0w), (oX6 (p0a 9) p0_8a p0_8k p0_8w p0_8l), (oX0 (p0a 6) p0_5a p0_5k p0_5n p0_5w), (oX9 (p0_5_1a 0 0) (p0_5_1a 0) (p0_5_1k 0) (p0_5_1n 0) (p0_5_1w 0)), (oX9 (p0_5_1a 1 0) (p0_5_1a 1) (p0_5_1k 1) (p0_5_1n 1) (p0_5_1w 1)), (oX9 (p0_5_1a 2 0) (p0_5_1a 2) (p0_5_1k 2) (p0_5_1n 2) (p0_5_1w 2)), (oX9 (p0_5_1a 3 0) (p0_5_1a 3) (p0_5_1k 3) (p0_5_1n 3) (p0_5_1w 3)), (oX9 (p0_5_1a 4 0) (p0_5_1a 4) (p0_5_1k 4) (p0_5_1n 4) (p0_5_1w 4)), (oX9 (p0_5_1a 5 0) (p0_5_1a 5) (p0_5_1k 5) (p0_5_1n 5) (p0_5_1w 5)), [((p0_5a 2), .inl (p0_5_1c, 6, .inr (.inr (.inr (.inr (fun i => some (p0_5_1a i 0)))))))]] : List va_W)) H := vP_perm (vP_fb hP) (bP (List.Perm.refl _))
                            have hD : va_D A (List.flatten ([(oX11 (p0a 0) p0a p0w), (oX6 (p0a 9) p0_8a p0_8k p0_8w p0_8l), (oX0 (p0a 6) p0_5a p0_5k p0_5n p0_5w), (oX9 (p0_5_1a 0 0) (p0_5_1a 0) (p0_5_1k 0) (p0_5_1n 0) (p0_5_1w 0)), (oX9 (p0_5_1a 1 0) (p0_5_1a 1) (p0_5_1k 1) (p0_5_1n 1) (p0_5_1w 1)), (oX9 (p0_5_1a 2 0) (p0_5_1a 2) (p0_5_1k 2) (p0_5_1n 2) (p0_5_1w 2)), (oX9 (p0_5_1a 3 0) (p0_5_1a 3) (p0_5_1k 3) (p0_5_1n 3) (p0_5_1w 3)), (oX9 (p0_5_1a 4 0) (p0_5_1a 4) (p0_5_1k 4) (p0_5_1n 4) (p0_5_1w 4)), (oX9 (p0_5_1a 5 0) (p0_5_1a 5) (p0_5_1k 5) (p0_5_1n 5) (p0_5_1w 5)), [((p0_5a 2), .inl (p0_5_1c, 6, .inr (.inr (.inr (.inr (fun i => some (p0_5_1a i 0)))))))]] : List va_W)) := vD_perm (vD_fb hD) (bP (List.Perm.refl _))
                            have hK : va_K (dC, dI) cls (List.flatten ([[], (tX6 p0_8k), (tX0 p0_5k), (tX9 (p0_5_1k 0)), (tX9 (p0_5_1k 1)), (tX9 (p0_5_1k 2)), (tX9 (p0_5_1k 3)), (tX9 (p0_5_1k 4)), (tX9 (p0_5_1k 5)), [(p0_5_1c, .object RX9)]] : List (List (ClassId × FieldType)))) s := vK_perm (vK_fb hK) (bP (List.Perm.refl _))
                            obtain rfl : o_39 = r40 := hw.symm
                            rcases br9 hrun with ⟨hc41, hrun⟩ | ⟨hc41, hrun⟩
                            · refine lv_icmp_ge (tgt := 242) hx hb dL_isCodeRight_217 (by decide) (fun _ => ?_) (fun c => absurd hc41 c)
                              refine lv_iconst (v := 0) hx hb dL_isCodeRight_242 (by decide) ?_
                              have ho9 : 0 = o := hr9 _ (Option.some.inj hrun).symm
                              have hP9 : va_P (dC, dI) cls (List.flatten ([(oX11 (p0a 0) p0a p0w), (oX6 (p0a 9) p0_8a p0_8k p0_8w p0_8l), (oX0 (p0a 6) p0_5a p0_5k p0_5n p0_5w), (oX9 (p0_5_1a 0 0) (p0_5_1a 0) (p0_5_1k 0) (p0_5_1n 0) (p0_5_1w 0)), (oX9 (p0_5_1a 1 0) (p0_5_1a 1) (p0_5_1k 1) (p0_5_1n 1) (p0_5_1w 1)), (oX9 (p0_5_1a 2 0) (p0_5_1a 2) (p0_5_1k 2) (p0_5_1n 2) (p0_5_1w 2)), (oX9 (p0_5_1a 3 0) (p0_5_1a 3) (p0_5_1k 3) (p0_5_1n 3) (p0_5_1w 3)), (oX9 (p0_5_1a 4 0) (p0_5_1a 4) (p0_5_1k 4) (p0_5_1n 4) (p0_5_1w 4)), (oX9 (p0_5_1a 5 0) (p0_5_1a 5) (p0_5_1k 5) (p0_5_1n 5) (p0_5_1w 5)), [((p0_5a 2), .inl (p0_5_1c, 6, .inr (.inr (.inr (.inr (fun i => some (p0_5_1a i 0)))))))]] : List va_W)) H := by first | exact hP | (rw [← ho9]; exact hP)
                              have hD9 : va_D A (List.flatten ([(oX11 (p0a 0) p0a p0w), (oX6 (p0a 9) p0_8a p0_8k p0_8w p0_8l), (oX0 (p0a 6) p0_5a p0_5k p0_5n p0_5w), (oX9 (p0_5_1a 0 0) (p0_5_1a 0) (p0_5_1k 0) (p0_5_1n 0) (p0_5_1w 0)), (oX9 (p0_5_1a 1 0) (p0_5_1a 1) (p0_5_1k 1) (p0_5_1n 1) (p0_5_1w 1)), (oX9 (p0_5_1a 2 0) (p0_5_1a 2) (p0_5_1k 2) (p0_5_1n 2) (p0_5_1w 2)), (oX9 (p0_5_1a 3 0) (p0_5_1a 3) (p0_5_1k 3) (p0_5_1n 3) (p0_5_1w 3)), (oX9 (p0_5_1a 4 0) (p0_5_1a 4) (p0_5_1k 4) (p0_5_1n 4) (p0_5_1w 4)), (oX9 (p0_5_1a 5 0) (p0_5_1a 5) (p0_5_1k 5) (p0_5_1n 5) (p0_5_1w 5)), [((p0_5a 2), .inl (p0_5_1c, 6, .inr (.inr (.inr (.inr (fun i => some (p0_5_1a i 0)))))))]] : List va_W)) := by first | exact hD | (rw [← ho9]; exact hD)
                              subst hQ
                              exact W.zret (v := 0) hx hb hr (by decide) (fun t ht hW => ⟨⟨0, (), rfl, (by rw [← ho9]), ⟨by rw [ht]; exact hP9, va_K.moved hW.alike hK, hD9⟩⟩, hS.F ht⟩) hS.2.2 dL_isCodeRight_243
                            · refine lv_icmp_ge (tgt := 242) hx hb dL_isCodeRight_217 (by decide) (fun c => absurd c hc41) (fun _ => ?_)
                              exact J220 _ _ _ hrun hP hD hK hS (lv_sub hl [0, 1, 2, 3, 4, 5, 6, 7, 8] rfl)
                        · refine lv_icmp_ne (tgt := 220) hx hb dL_isCodeRight_202 (by decide) (fun _ => ?_) (fun c => absurd c hc37)
                          exact J220 _ _ _ hrun hP hD hK hS (lv_sub hl [0, 1, 2, 3, 4, 5, 6, 7, 8] rfl)
                      rcases br9 hrun with ⟨hc42, hrun⟩ | ⟨hc42, hrun⟩
                      · refine lv_if_eq (tgt := 198) hx hb dL_isCodeRight_184 (by decide) (fun _ => ?_) (fun c => absurd hc42 c)
                        exact J198 _ _ _ hrun hP hD hK hS (lv_sub hl [1, 2, 3, 4, 5, 6, 7, 8, 9] rfl)
                      · refine lv_if_eq (tgt := 198) hx hb dL_isCodeRight_184 (by decide) (fun c => absurd c hc42) (fun _ => ?_)
                        refine lv_iload hx hb dL_isCodeRight_187 (lv_at hl 8 rfl) ?_
                        rcases br9 hrun with ⟨hc43, hrun⟩ | ⟨hc43, hrun⟩
                        · refine lv_if_lt (tgt := 242) hx hb dL_isCodeRight_189 (by decide) (fun _ => ?_) (fun c => absurd hc43 c)
                          refine lv_iconst (v := 0) hx hb dL_isCodeRight_242 (by decide) ?_
                          have ho9 : 0 = o := hr9 _ (Option.some.inj hrun).symm
                          have hP9 : va_P (dC, dI) cls (List.flatten ([(oX11 (p0a 0) p0a p0w), (oX6 (p0a 9) p0_8a p0_8k p0_8w p0_8l), (oX0 (p0a 6) p0_5a p0_5k p0_5n p0_5w), (oX9 (p0_5_1a 0 0) (p0_5_1a 0) (p0_5_1k 0) (p0_5_1n 0) (p0_5_1w 0)), (oX9 (p0_5_1a 1 0) (p0_5_1a 1) (p0_5_1k 1) (p0_5_1n 1) (p0_5_1w 1)), (oX9 (p0_5_1a 2 0) (p0_5_1a 2) (p0_5_1k 2) (p0_5_1n 2) (p0_5_1w 2)), (oX9 (p0_5_1a 3 0) (p0_5_1a 3) (p0_5_1k 3) (p0_5_1n 3) (p0_5_1w 3)), (oX9 (p0_5_1a 4 0) (p0_5_1a 4) (p0_5_1k 4) (p0_5_1n 4) (p0_5_1w 4)), (oX9 (p0_5_1a 5 0) (p0_5_1a 5) (p0_5_1k 5) (p0_5_1n 5) (p0_5_1w 5)), [((p0_5a 2), .inl (p0_5_1c, 6, .inr (.inr (.inr (.inr (fun i => some (p0_5_1a i 0)))))))]] : List va_W)) H := by first | exact hP | (rw [← ho9]; exact hP)
                          have hD9 : va_D A (List.flatten ([(oX11 (p0a 0) p0a p0w), (oX6 (p0a 9) p0_8a p0_8k p0_8w p0_8l), (oX0 (p0a 6) p0_5a p0_5k p0_5n p0_5w), (oX9 (p0_5_1a 0 0) (p0_5_1a 0) (p0_5_1k 0) (p0_5_1n 0) (p0_5_1w 0)), (oX9 (p0_5_1a 1 0) (p0_5_1a 1) (p0_5_1k 1) (p0_5_1n 1) (p0_5_1w 1)), (oX9 (p0_5_1a 2 0) (p0_5_1a 2) (p0_5_1k 2) (p0_5_1n 2) (p0_5_1w 2)), (oX9 (p0_5_1a 3 0) (p0_5_1a 3) (p0_5_1k 3) (p0_5_1n 3) (p0_5_1w 3)), (oX9 (p0_5_1a 4 0) (p0_5_1a 4) (p0_5_1k 4) (p0_5_1n 4) (p0_5_1w 4)), (oX9 (p0_5_1a 5 0) (p0_5_1a 5) (p0_5_1k 5) (p0_5_1n 5) (p0_5_1w 5)), [((p0_5a 2), .inl (p0_5_1c, 6, .inr (.inr (.inr (.inr (fun i => some (p0_5_1a i 0)))))))]] : List va_W)) := by first | exact hD | (rw [← ho9]; exact hD)
                          subst hQ
                          exact W.zret (v := 0) hx hb hr (by decide) (fun t ht hW => ⟨⟨0, (), rfl, (by rw [← ho9]), ⟨by rw [ht]; exact hP9, va_K.moved hW.alike hK, hD9⟩⟩, hS.F ht⟩) hS.2.2 dL_isCodeRight_243
                        · refine lv_if_lt (tgt := 242) hx hb dL_isCodeRight_189 (by decide) (fun c => absurd c hc43) (fun _ => ?_)
                          refine lv_iload hx hb dL_isCodeRight_192 (lv_at hl 8 rfl) ?_
                          refine lv_iload_n hx hb dL_isCodeRight_194 rfl (lv_at hl 3 rfl) ?_
                          rcases br9 hrun with ⟨hc44, hrun⟩ | ⟨hc44, hrun⟩
                          · refine lv_icmp_ge (tgt := 242) hx hb dL_isCodeRight_195 (by decide) (fun _ => ?_) (fun c => absurd hc44 c)
                            refine lv_iconst (v := 0) hx hb dL_isCodeRight_242 (by decide) ?_
                            have ho9 : 0 = o := hr9 _ (Option.some.inj hrun).symm
                            have hP9 : va_P (dC, dI) cls (List.flatten ([(oX11 (p0a 0) p0a p0w), (oX6 (p0a 9) p0_8a p0_8k p0_8w p0_8l), (oX0 (p0a 6) p0_5a p0_5k p0_5n p0_5w), (oX9 (p0_5_1a 0 0) (p0_5_1a 0) (p0_5_1k 0) (p0_5_1n 0) (p0_5_1w 0)), (oX9 (p0_5_1a 1 0) (p0_5_1a 1) (p0_5_1k 1) (p0_5_1n 1) (p0_5_1w 1)), (oX9 (p0_5_1a 2 0) (p0_5_1a 2) (p0_5_1k 2) (p0_5_1n 2) (p0_5_1w 2)), (oX9 (p0_5_1a 3 0) (p0_5_1a 3) (p0_5_1k 3) (p0_5_1n 3) (p0_5_1w 3)), (oX9 (p0_5_1a 4 0) (p0_5_1a 4) (p0_5_1k 4) (p0_5_1n 4) (p0_5_1w 4)), (oX9 (p0_5_1a 5 0) (p0_5_1a 5) (p0_5_1k 5) (p0_5_1n 5) (p0_5_1w 5)), [((p0_5a 2), .inl (p0_5_1c, 6, .inr (.inr (.inr (.inr (fun i => some (p0_5_1a i 0)))))))]] : List va_W)) H := by first | exact hP | (rw [← ho9]; exact hP)
                            have hD9 : va_D A (List.flatten ([(oX11 (p0a 0) p0a p0w), (oX6 (p0a 9) p0_8a p0_8k p0_8w p0_8l), (oX0 (p0a 6) p0_5a p0_5k p0_5n p0_5w), (oX9 (p0_5_1a 0 0) (p0_5_1a 0) (p0_5_1k 0) (p0_5_1n 0) (p0_5_1w 0)), (oX9 (p0_5_1a 1 0) (p0_5_1a 1) (p0_5_1k 1) (p0_5_1n 1) (p0_5_1w 1)), (oX9 (p0_5_1a 2 0) (p0_5_1a 2) (p0_5_1k 2) (p0_5_1n 2) (p0_5_1w 2)), (oX9 (p0_5_1a 3 0) (p0_5_1a 3) (p0_5_1k 3) (p0_5_1n 3) (p0_5_1w 3)), (oX9 (p0_5_1a 4 0) (p0_5_1a 4) (p0_5_1k 4) (p0_5_1n 4) (p0_5_1w 4)), (oX9 (p0_5_1a 5 0) (p0_5_1a 5) (p0_5_1k 5) (p0_5_1n 5) (p0_5_1w 5)), [((p0_5a 2), .inl (p0_5_1c, 6, .inr (.inr (.inr (.inr (fun i => some (p0_5_1a i 0)))))))]] : List va_W)) := by first | exact hD | (rw [← ho9]; exact hD)
                            subst hQ
                            exact W.zret (v := 0) hx hb hr (by decide) (fun t ht hW => ⟨⟨0, (), rfl, (by rw [← ho9]), ⟨by rw [ht]; exact hP9, va_K.moved hW.alike hK, hD9⟩⟩, hS.F ht⟩) hS.2.2 dL_isCodeRight_243
                          · refine lv_icmp_ge (tgt := 242) hx hb dL_isCodeRight_195 (by decide) (fun c => absurd c hc44) (fun _ => ?_)
                            exact J198 _ _ _ hrun hP hD hK hS (lv_sub hl [1, 2, 3, 4, 5, 6, 7, 8, 9] rfl)
                    have J175 : ∀ (H : Heap) (locs : List Loc) (ls : Array Slot), (fL_isCodeRight_J175 (fL_isCodeRight_L9 p1 p2 p0_8w p0_5w p0_5_1n p0_5_1w o_1 n_9) p1 p2 p0_8w p0_5w o_1 v4_9 o_4 o_6 o_8 o_10) = some o9 → va_P (dC, dI) cls (List.flatten ([(oX11 (p0a 0) p0a p0w), (oX6 (p0a 9) p0_8a p0_8k p0_8w p0_8l), (oX0 (p0a 6) p0_5a p0_5k p0_5n p0_5w), (oX9 (p0_5_1a 0 0) (p0_5_1a 0) (p0_5_1k 0) (p0_5_1n 0) (p0_5_1w 0)), (oX9 (p0_5_1a 1 0) (p0_5_1a 1) (p0_5_1k 1) (p0_5_1n 1) (p0_5_1w 1)), (oX9 (p0_5_1a 2 0) (p0_5_1a 2) (p0_5_1k 2) (p0_5_1n 2) (p0_5_1w 2)), (oX9 (p0_5_1a 3 0) (p0_5_1a 3) (p0_5_1k 3) (p0_5_1n 3) (p0_5_1w 3)), (oX9 (p0_5_1a 4 0) (p0_5_1a 4) (p0_5_1k 4) (p0_5_1n 4) (p0_5_1w 4)), (oX9 (p0_5_1a 5 0) (p0_5_1a 5) (p0_5_1k 5) (p0_5_1n 5) (p0_5_1w 5)), [((p0_5a 2), .inl (p0_5_1c, 6, .inr (.inr (.inr (.inr (fun i => some (p0_5_1a i 0)))))))]] : List va_W)) H → va_D A (List.flatten ([(oX11 (p0a 0) p0a p0w), (oX6 (p0a 9) p0_8a p0_8k p0_8w p0_8l), (oX0 (p0a 6) p0_5a p0_5k p0_5n p0_5w), (oX9 (p0_5_1a 0 0) (p0_5_1a 0) (p0_5_1k 0) (p0_5_1n 0) (p0_5_1w 0)), (oX9 (p0_5_1a 1 0) (p0_5_1a 1) (p0_5_1k 1) (p0_5_1n 1) (p0_5_1w 1)), (oX9 (p0_5_1a 2 0) (p0_5_1a 2) (p0_5_1k 2) (p0_5_1n 2) (p0_5_1w 2)), (oX9 (p0_5_1a 3 0) (p0_5_1a 3) (p0_5_1k 3) (p0_5_1n 3) (p0_5_1w 3)), (oX9 (p0_5_1a 4 0) (p0_5_1a 4) (p0_5_1k 4) (p0_5_1n 4) (p0_5_1w 4)), (oX9 (p0_5_1a 5 0) (p0_5_1a 5) (p0_5_1k 5) (p0_5_1n 5) (p0_5_1w 5)), [((p0_5a 2), .inl (p0_5_1c, 6, .inr (.inr (.inr (.inr (fun i => some (p0_5_1a i 0)))))))]] : List va_W)) → va_K (dC, dI) cls (List.flatten ([[], (tX6 p0_8k), (tX0 p0_5k), (tX9 (p0_5_1k 0)), (tX9 (p0_5_1k 1)), (tX9 (p0_5_1k 2)), (tX9 (p0_5_1k 3)), (tX9 (p0_5_1k 4)), (tX9 (p0_5_1k 5)), [(p0_5_1c, .object RX9)]] : List (List (ClassId × FieldType)))) s → va_S A s.heap H locs → lv_has ls 12 [(0, .ref (p0a 0)), (1, .int p1), (2, .int p2), (3, .int o_1), (4, .int v4_9), (5, .int o_4), (6, .int o_6), (7, .int o_8), (8, .int o_10)] → W p l e ({ frames := 3, cells := 0, slots := 0, locals := 66 } : Room) s m ([.ref (p0a 0), .int p1, .int p2] : List Value).toArray below meth c H locs 0 0 Q (F0 m 175 ls []) := by
                      intro  H locs ls hrun hP hD hK hS hl 
                      unfold fL_isCodeRight_J175 at hrun
                      refine lv_iconst (v := 1) hx hb dL_isCodeRight_175 (by decide) ?_
                      refine lv_goto (tgt := 180) hx hb dL_isCodeRight_176 (by decide) ?_
                      exact J180 1 _ _ _ hrun hP hD hK hS (lv_sub hl [0, 1, 2, 3, 4, 5, 6, 7, 8] rfl)
                    have J140 : ∀ (H : Heap) (locs : List Loc) (ls : Array Slot), (fL_isCodeRight_J140 (fL_isCodeRight_L9 p1 p2 p0_8w p0_5w p0_5_1n p0_5_1w o_1 n_9) p1 p2 p0_8w p0_5w o_1 v4_9 o_4 o_6 o_8 o_10) = some o9 → va_P (dC, dI) cls (List.flatten ([(oX11 (p0a 0) p0a p0w), (oX6 (p0a 9) p0_8a p0_8k p0_8w p0_8l), (oX0 (p0a 6) p0_5a p0_5k p0_5n p0_5w), (oX9 (p0_5_1a 0 0) (p0_5_1a 0) (p0_5_1k 0) (p0_5_1n 0) (p0_5_1w 0)), (oX9 (p0_5_1a 1 0) (p0_5_1a 1) (p0_5_1k 1) (p0_5_1n 1) (p0_5_1w 1)), (oX9 (p0_5_1a 2 0) (p0_5_1a 2) (p0_5_1k 2) (p0_5_1n 2) (p0_5_1w 2)), (oX9 (p0_5_1a 3 0) (p0_5_1a 3) (p0_5_1k 3) (p0_5_1n 3) (p0_5_1w 3)), (oX9 (p0_5_1a 4 0) (p0_5_1a 4) (p0_5_1k 4) (p0_5_1n 4) (p0_5_1w 4)), (oX9 (p0_5_1a 5 0) (p0_5_1a 5) (p0_5_1k 5) (p0_5_1n 5) (p0_5_1w 5)), [((p0_5a 2), .inl (p0_5_1c, 6, .inr (.inr (.inr (.inr (fun i => some (p0_5_1a i 0)))))))]] : List va_W)) H → va_D A (List.flatten ([(oX11 (p0a 0) p0a p0w), (oX6 (p0a 9) p0_8a p0_8k p0_8w p0_8l), (oX0 (p0a 6) p0_5a p0_5k p0_5n p0_5w), (oX9 (p0_5_1a 0 0) (p0_5_1a 0) (p0_5_1k 0) (p0_5_1n 0) (p0_5_1w 0)), (oX9 (p0_5_1a 1 0) (p0_5_1a 1) (p0_5_1k 1) (p0_5_1n 1) (p0_5_1w 1)), (oX9 (p0_5_1a 2 0) (p0_5_1a 2) (p0_5_1k 2) (p0_5_1n 2) (p0_5_1w 2)), (oX9 (p0_5_1a 3 0) (p0_5_1a 3) (p0_5_1k 3) (p0_5_1n 3) (p0_5_1w 3)), (oX9 (p0_5_1a 4 0) (p0_5_1a 4) (p0_5_1k 4) (p0_5_1n 4) (p0_5_1w 4)), (oX9 (p0_5_1a 5 0) (p0_5_1a 5) (p0_5_1k 5) (p0_5_1n 5) (p0_5_1w 5)), [((p0_5a 2), .inl (p0_5_1c, 6, .inr (.inr (.inr (.inr (fun i => some (p0_5_1a i 0)))))))]] : List va_W)) → va_K (dC, dI) cls (List.flatten ([[], (tX6 p0_8k), (tX0 p0_5k), (tX9 (p0_5_1k 0)), (tX9 (p0_5_1k 1)), (tX9 (p0_5_1k 2)), (tX9 (p0_5_1k 3)), (tX9 (p0_5_1k 4)), (tX9 (p0_5_1k 5)), [(p0_5_1c, .object RX9)]] : List (List (ClassId × FieldType)))) s → va_S A s.heap H locs → lv_has ls 12 [(0, .ref (p0a 0)), (1, .int p1), (2, .int p2), (3, .int o_1), (4, .int v4_9), (5, .int o_4), (6, .int o_6), (7, .int o_8), (8, .int o_10)] → W p l e ({ frames := 3, cells := 0, slots := 0, locals := 66 } : Room) s m ([.ref (p0a 0), .int p1, .int p2] : List Value).toArray below meth c H locs 0 0 Q (F0 m 140 ls []) := by
                      intro  H locs ls hrun hP hD hK hS hl 
                      unfold fL_isCodeRight_J140 at hrun
                      refine lv_iload hx hb dL_isCodeRight_140 (lv_at hl 5 rfl) ?_
                      refine lv_bipush (v := 23) hx hb dL_isCodeRight_142 (by decide) ?_
                      rcases br9 hrun with ⟨hc45, hrun⟩ | ⟨hc45, hrun⟩
                      · refine lv_icmp_eq (tgt := 175) hx hb dL_isCodeRight_144 (by decide) (fun _ => ?_) (fun c => absurd hc45 c)
                        exact J175 _ _ _ hrun hP hD hK hS (lv_sub hl [0, 1, 2, 3, 4, 5, 6, 7, 8] rfl)
                      · refine lv_icmp_eq (tgt := 175) hx hb dL_isCodeRight_144 (by decide) (fun c => absurd c hc45) (fun _ => ?_)
                        refine lv_iload hx hb dL_isCodeRight_147 (lv_at hl 5 rfl) ?_
                        refine lv_bipush (v := 24) hx hb dL_isCodeRight_149 (by decide) ?_
                        rcases br9 hrun with ⟨hc46, hrun⟩ | ⟨hc46, hrun⟩
                        · refine lv_icmp_eq (tgt := 175) hx hb dL_isCodeRight_151 (by decide) (fun _ => ?_) (fun c => absurd hc46 c)
                          exact J175 _ _ _ hrun hP hD hK hS (lv_sub hl [0, 1, 2, 3, 4, 5, 6, 7, 8] rfl)
                        · refine lv_icmp_eq (tgt := 175) hx hb dL_isCodeRight_151 (by decide) (fun c => absurd c hc46) (fun _ => ?_)
                          refine lv_iload hx hb dL_isCodeRight_154 (lv_at hl 5 rfl) ?_
                          refine lv_bipush (v := 25) hx hb dL_isCodeRight_156 (by decide) ?_
                          rcases br9 hrun with ⟨hc47, hrun⟩ | ⟨hc47, hrun⟩
                          · refine lv_icmp_eq (tgt := 175) hx hb dL_isCodeRight_158 (by decide) (fun _ => ?_) (fun c => absurd hc47 c)
                            exact J175 _ _ _ hrun hP hD hK hS (lv_sub hl [0, 1, 2, 3, 4, 5, 6, 7, 8] rfl)
                          · refine lv_icmp_eq (tgt := 175) hx hb dL_isCodeRight_158 (by decide) (fun c => absurd c hc47) (fun _ => ?_)
                            refine lv_iload hx hb dL_isCodeRight_161 (lv_at hl 5 rfl) ?_
                            refine lv_bipush (v := 27) hx hb dL_isCodeRight_163 (by decide) ?_
                            rcases br9 hrun with ⟨hc48, hrun⟩ | ⟨hc48, hrun⟩
                            · refine lv_icmp_eq (tgt := 175) hx hb dL_isCodeRight_165 (by decide) (fun _ => ?_) (fun c => absurd hc48 c)
                              exact J175 _ _ _ hrun hP hD hK hS (lv_sub hl [0, 1, 2, 3, 4, 5, 6, 7, 8] rfl)
                            · refine lv_icmp_eq (tgt := 175) hx hb dL_isCodeRight_165 (by decide) (fun c => absurd c hc48) (fun _ => ?_)
                              refine lv_iload hx hb dL_isCodeRight_168 (lv_at hl 5 rfl) ?_
                              refine lv_bipush (v := 28) hx hb dL_isCodeRight_170 (by decide) ?_
                              rcases br9 hrun with ⟨hc49, hrun⟩ | ⟨hc49, hrun⟩
                              · refine lv_icmp_ne (tgt := 179) hx hb dL_isCodeRight_172 (by decide) (fun c => absurd hc49 c) (fun _ => ?_)
                                exact J175 _ _ _ hrun hP hD hK hS (lv_sub hl [0, 1, 2, 3, 4, 5, 6, 7, 8] rfl)
                              · refine lv_icmp_ne (tgt := 179) hx hb dL_isCodeRight_172 (by decide) (fun _ => ?_) (fun c => absurd c hc49)
                                refine lv_iconst (v := 0) hx hb dL_isCodeRight_179 (by decide) ?_
                                exact J180 0 _ _ _ hrun hP hD hK hS (lv_sub hl [0, 1, 2, 3, 4, 5, 6, 7, 8] rfl)
                    rcases br9 hrun with ⟨hc50, hrun⟩ | ⟨hc50, hrun⟩
                    · refine lv_if_le (tgt := 140) hx hb dL_isCodeRight_130 (by decide) (fun _ => ?_) (fun c => absurd hc50 c)
                      exact J140 _ _ _ hrun hP hD hK hS (lv_sub hl [0, 1, 2, 3, 4, 5, 6, 7, 8] rfl)
                    · refine lv_if_le (tgt := 140) hx hb dL_isCodeRight_130 (by decide) (fun c => absurd c hc50) (fun _ => ?_)
                      refine lv_iload hx hb dL_isCodeRight_133 (lv_at hl 5 rfl) ?_
                      refine lv_bipush (v := 20) hx hb dL_isCodeRight_135 (by decide) ?_
                      rcases br9 hrun with ⟨hc51, hrun⟩ | ⟨hc51, hrun⟩
                      · refine lv_icmp_lt (tgt := 175) hx hb dL_isCodeRight_137 (by decide) (fun _ => ?_) (fun c => absurd hc51 c)
                        exact J175 _ _ _ hrun hP hD hK hS (lv_sub hl [0, 1, 2, 3, 4, 5, 6, 7, 8] rfl)
                      · refine lv_icmp_lt (tgt := 175) hx hb dL_isCodeRight_137 (by decide) (fun c => absurd c hc51) (fun _ => ?_)
                        exact J140 _ _ _ hrun hP hD hK hS (lv_sub hl [0, 1, 2, 3, 4, 5, 6, 7, 8] rfl)
                  · refine lv_icmp_lt (tgt := 128) hx hb dL_isCodeRight_123 (by decide) (fun c => absurd c hc15) (fun _ => ?_)
                    refine lv_iconst (v := 0) hx hb dL_isCodeRight_126 (by decide) ?_
                    have ho9 : 0 = o := hr9 _ (Option.some.inj hrun).symm
                    have hP9 : va_P (dC, dI) cls (List.flatten ([(oX11 (p0a 0) p0a p0w), (oX6 (p0a 9) p0_8a p0_8k p0_8w p0_8l), (oX0 (p0a 6) p0_5a p0_5k p0_5n p0_5w), (oX9 (p0_5_1a 0 0) (p0_5_1a 0) (p0_5_1k 0) (p0_5_1n 0) (p0_5_1w 0)), (oX9 (p0_5_1a 1 0) (p0_5_1a 1) (p0_5_1k 1) (p0_5_1n 1) (p0_5_1w 1)), (oX9 (p0_5_1a 2 0) (p0_5_1a 2) (p0_5_1k 2) (p0_5_1n 2) (p0_5_1w 2)), (oX9 (p0_5_1a 3 0) (p0_5_1a 3) (p0_5_1k 3) (p0_5_1n 3) (p0_5_1w 3)), (oX9 (p0_5_1a 4 0) (p0_5_1a 4) (p0_5_1k 4) (p0_5_1n 4) (p0_5_1w 4)), (oX9 (p0_5_1a 5 0) (p0_5_1a 5) (p0_5_1k 5) (p0_5_1n 5) (p0_5_1w 5)), [((p0_5a 2), .inl (p0_5_1c, 6, .inr (.inr (.inr (.inr (fun i => some (p0_5_1a i 0)))))))]] : List va_W)) H := by first | exact hP | (rw [← ho9]; exact hP)
                    have hD9 : va_D A (List.flatten ([(oX11 (p0a 0) p0a p0w), (oX6 (p0a 9) p0_8a p0_8k p0_8w p0_8l), (oX0 (p0a 6) p0_5a p0_5k p0_5n p0_5w), (oX9 (p0_5_1a 0 0) (p0_5_1a 0) (p0_5_1k 0) (p0_5_1n 0) (p0_5_1w 0)), (oX9 (p0_5_1a 1 0) (p0_5_1a 1) (p0_5_1k 1) (p0_5_1n 1) (p0_5_1w 1)), (oX9 (p0_5_1a 2 0) (p0_5_1a 2) (p0_5_1k 2) (p0_5_1n 2) (p0_5_1w 2)), (oX9 (p0_5_1a 3 0) (p0_5_1a 3) (p0_5_1k 3) (p0_5_1n 3) (p0_5_1w 3)), (oX9 (p0_5_1a 4 0) (p0_5_1a 4) (p0_5_1k 4) (p0_5_1n 4) (p0_5_1w 4)), (oX9 (p0_5_1a 5 0) (p0_5_1a 5) (p0_5_1k 5) (p0_5_1n 5) (p0_5_1w 5)), [((p0_5a 2), .inl (p0_5_1c, 6, .inr (.inr (.inr (.inr (fun i => some (p0_5_1a i 0)))))))]] : List va_W)) := by first | exact hD | (rw [← ho9]; exact hD)
                    subst hQ
                    exact W.zret (v := 0) hx hb hr (by decide) (fun t ht hW => ⟨⟨0, (), rfl, (by rw [← ho9]), ⟨by rw [ht]; exact hP9, va_K.moved hW.alike hK, hD9⟩⟩, hS.F ht⟩) hS.2.2 dL_isCodeRight_127
                · refine lv_icmp_ne (tgt := 126) hx hb dL_isCodeRight_117 (by decide) (fun _ => ?_) (fun c => absurd c hc14)
                  refine lv_iconst (v := 0) hx hb dL_isCodeRight_126 (by decide) ?_
                  have ho9 : 0 = o := hr9 _ (Option.some.inj hrun).symm
                  have hP9 : va_P (dC, dI) cls (List.flatten ([(oX11 (p0a 0) p0a p0w), (oX6 (p0a 9) p0_8a p0_8k p0_8w p0_8l), (oX0 (p0a 6) p0_5a p0_5k p0_5n p0_5w), (oX9 (p0_5_1a 0 0) (p0_5_1a 0) (p0_5_1k 0) (p0_5_1n 0) (p0_5_1w 0)), (oX9 (p0_5_1a 1 0) (p0_5_1a 1) (p0_5_1k 1) (p0_5_1n 1) (p0_5_1w 1)), (oX9 (p0_5_1a 2 0) (p0_5_1a 2) (p0_5_1k 2) (p0_5_1n 2) (p0_5_1w 2)), (oX9 (p0_5_1a 3 0) (p0_5_1a 3) (p0_5_1k 3) (p0_5_1n 3) (p0_5_1w 3)), (oX9 (p0_5_1a 4 0) (p0_5_1a 4) (p0_5_1k 4) (p0_5_1n 4) (p0_5_1w 4)), (oX9 (p0_5_1a 5 0) (p0_5_1a 5) (p0_5_1k 5) (p0_5_1n 5) (p0_5_1w 5)), [((p0_5a 2), .inl (p0_5_1c, 6, .inr (.inr (.inr (.inr (fun i => some (p0_5_1a i 0)))))))]] : List va_W)) H := by first | exact hP | (rw [← ho9]; exact hP)
                  have hD9 : va_D A (List.flatten ([(oX11 (p0a 0) p0a p0w), (oX6 (p0a 9) p0_8a p0_8k p0_8w p0_8l), (oX0 (p0a 6) p0_5a p0_5k p0_5n p0_5w), (oX9 (p0_5_1a 0 0) (p0_5_1a 0) (p0_5_1k 0) (p0_5_1n 0) (p0_5_1w 0)), (oX9 (p0_5_1a 1 0) (p0_5_1a 1) (p0_5_1k 1) (p0_5_1n 1) (p0_5_1w 1)), (oX9 (p0_5_1a 2 0) (p0_5_1a 2) (p0_5_1k 2) (p0_5_1n 2) (p0_5_1w 2)), (oX9 (p0_5_1a 3 0) (p0_5_1a 3) (p0_5_1k 3) (p0_5_1n 3) (p0_5_1w 3)), (oX9 (p0_5_1a 4 0) (p0_5_1a 4) (p0_5_1k 4) (p0_5_1n 4) (p0_5_1w 4)), (oX9 (p0_5_1a 5 0) (p0_5_1a 5) (p0_5_1k 5) (p0_5_1n 5) (p0_5_1w 5)), [((p0_5a 2), .inl (p0_5_1c, 6, .inr (.inr (.inr (.inr (fun i => some (p0_5_1a i 0)))))))]] : List va_W)) := by first | exact hD | (rw [← ho9]; exact hD)
                  subst hQ
                  exact W.zret (v := 0) hx hb hr (by decide) (fun t ht hW => ⟨⟨0, (), rfl, (by rw [← ho9]), ⟨by rw [ht]; exact hP9, va_K.moved hW.alike hK, hD9⟩⟩, hS.F ht⟩) hS.2.2 dL_isCodeRight_127
              rcases br9 hrun with ⟨hc52, hrun⟩ | ⟨hc52, hrun⟩
              · refine lv_if_lt (tgt := 116) hx hb dL_isCodeRight_109 (by decide) (fun _ => ?_) (fun c => absurd hc52 c)
                refine lv_iconst (v := 0) hx hb dL_isCodeRight_116 (by decide) ?_
                exact J117 0 y0_91 _ _ _ hrun hP hD hK hS (lv_sub hl [1, 2, 3, 4, 5, 6, 7, 8, 9] rfl)
              · refine lv_if_lt (tgt := 116) hx hb dL_isCodeRight_109 (by decide) (fun c => absurd c hc52) (fun _ => ?_)
                refine lv_iconst (v := 1) hx hb dL_isCodeRight_112 (by decide) ?_
                refine lv_goto (tgt := 117) hx hb dL_isCodeRight_113 (by decide) ?_
                exact J117 1 y0_91 _ _ _ hrun hP hD hK hS (lv_sub hl [1, 2, 3, 4, 5, 6, 7, 8, 9] rfl)
        have J86 : ∀ (H : Heap) (locs : List Loc) (ls : Array Slot), (fL_isCodeRight_J86 (fL_isCodeRight_L9 p1 p2 p0_8w p0_5w p0_5_1n p0_5_1w o_1 n_9) p1 p2 p0_8w p0_5w o_1 v4_9 o_4 o_6 o_8 o_10) = some o9 → va_P (dC, dI) cls (List.flatten ([(oX11 (p0a 0) p0a p0w), (oX6 (p0a 9) p0_8a p0_8k p0_8w p0_8l), (oX0 (p0a 6) p0_5a p0_5k p0_5n p0_5w), (oX9 (p0_5_1a 0 0) (p0_5_1a 0) (p0_5_1k 0) (p0_5_1n 0) (p0_5_1w 0)), (oX9 (p0_5_1a 1 0) (p0_5_1a 1) (p0_5_1k 1) (p0_5_1n 1) (p0_5_1w 1)), (oX9 (p0_5_1a 2 0) (p0_5_1a 2) (p0_5_1k 2) (p0_5_1n 2) (p0_5_1w 2)), (oX9 (p0_5_1a 3 0) (p0_5_1a 3) (p0_5_1k 3) (p0_5_1n 3) (p0_5_1w 3)), (oX9 (p0_5_1a 4 0) (p0_5_1a 4) (p0_5_1k 4) (p0_5_1n 4) (p0_5_1w 4)), (oX9 (p0_5_1a 5 0) (p0_5_1a 5) (p0_5_1k 5) (p0_5_1n 5) (p0_5_1w 5)), [((p0_5a 2), .inl (p0_5_1c, 6, .inr (.inr (.inr (.inr (fun i => some (p0_5_1a i 0)))))))]] : List va_W)) H → va_D A (List.flatten ([(oX11 (p0a 0) p0a p0w), (oX6 (p0a 9) p0_8a p0_8k p0_8w p0_8l), (oX0 (p0a 6) p0_5a p0_5k p0_5n p0_5w), (oX9 (p0_5_1a 0 0) (p0_5_1a 0) (p0_5_1k 0) (p0_5_1n 0) (p0_5_1w 0)), (oX9 (p0_5_1a 1 0) (p0_5_1a 1) (p0_5_1k 1) (p0_5_1n 1) (p0_5_1w 1)), (oX9 (p0_5_1a 2 0) (p0_5_1a 2) (p0_5_1k 2) (p0_5_1n 2) (p0_5_1w 2)), (oX9 (p0_5_1a 3 0) (p0_5_1a 3) (p0_5_1k 3) (p0_5_1n 3) (p0_5_1w 3)), (oX9 (p0_5_1a 4 0) (p0_5_1a 4) (p0_5_1k 4) (p0_5_1n 4) (p0_5_1w 4)), (oX9 (p0_5_1a 5 0) (p0_5_1a 5) (p0_5_1k 5) (p0_5_1n 5) (p0_5_1w 5)), [((p0_5a 2), .inl (p0_5_1c, 6, .inr (.inr (.inr (.inr (fun i => some (p0_5_1a i 0)))))))]] : List va_W)) → va_K (dC, dI) cls (List.flatten ([[], (tX6 p0_8k), (tX0 p0_5k), (tX9 (p0_5_1k 0)), (tX9 (p0_5_1k 1)), (tX9 (p0_5_1k 2)), (tX9 (p0_5_1k 3)), (tX9 (p0_5_1k 4)), (tX9 (p0_5_1k 5)), [(p0_5_1c, .object RX9)]] : List (List (ClassId × FieldType)))) s → va_S A s.heap H locs → lv_has ls 12 [(0, .ref (p0a 0)), (1, .int p1), (2, .int p2), (3, .int o_1), (4, .int v4_9), (5, .int o_4), (6, .int o_6), (7, .int o_8), (8, .int o_10)] → W p l e ({ frames := 3, cells := 0, slots := 0, locals := 66 } : Room) s m ([.ref (p0a 0), .int p1, .int p2] : List Value).toArray below meth c H locs 0 0 Q (F0 m 86 ls []) := by
          intro  H locs ls hrun hP hD hK hS hl 
          unfold fL_isCodeRight_J86 at hrun
          refine lv_iconst (v := 1) hx hb dL_isCodeRight_86 (by decide) ?_
          refine lv_goto (tgt := 91) hx hb dL_isCodeRight_87 (by decide) ?_
          exact J91 1 _ _ _ hrun hP hD hK hS (lv_sub hl [0, 1, 2, 3, 4, 5, 6, 7, 8] rfl)
        rcases br9 hrun with ⟨hc53, hrun⟩ | ⟨hc53, hrun⟩
        · refine lv_icmp_lt (tgt := 86) hx hb dL_isCodeRight_55 (by decide) (fun _ => ?_) (fun c => absurd hc53 c)
          exact J86 _ _ _ hrun hP hD hK hS (lv_sub hl [4, 5, 6, 7, 8, 3, 2, 1, 0] rfl)
        · refine lv_icmp_lt (tgt := 86) hx hb dL_isCodeRight_55 (by decide) (fun c => absurd c hc53) (fun _ => ?_)
          refine lv_iload hx hb dL_isCodeRight_58 (lv_at hl 3 rfl) ?_
          refine lv_bipush (v := 20) hx hb dL_isCodeRight_60 (by decide) ?_
          rcases br9 hrun with ⟨hc54, hrun⟩ | ⟨hc54, hrun⟩
          · refine lv_icmp_eq (tgt := 86) hx hb dL_isCodeRight_62 (by decide) (fun _ => ?_) (fun c => absurd hc54 c)
            exact J86 _ _ _ hrun hP hD hK hS (lv_sub hl [4, 5, 6, 7, 8, 3, 2, 1, 0] rfl)
          · refine lv_icmp_eq (tgt := 86) hx hb dL_isCodeRight_62 (by decide) (fun c => absurd c hc54) (fun _ => ?_)
            refine lv_iload hx hb dL_isCodeRight_65 (lv_at hl 3 rfl) ?_
            refine lv_bipush (v := 21) hx hb dL_isCodeRight_67 (by decide) ?_
            rcases br9 hrun with ⟨hc55, hrun⟩ | ⟨hc55, hrun⟩
            · refine lv_icmp_eq (tgt := 86) hx hb dL_isCodeRight_69 (by decide) (fun _ => ?_) (fun c => absurd hc55 c)
              exact J86 _ _ _ hrun hP hD hK hS (lv_sub hl [4, 5, 6, 7, 8, 3, 2, 1, 0] rfl)
            · refine lv_icmp_eq (tgt := 86) hx hb dL_isCodeRight_69 (by decide) (fun c => absurd c hc55) (fun _ => ?_)
              refine lv_iload hx hb dL_isCodeRight_72 (lv_at hl 3 rfl) ?_
              refine lv_bipush (v := 25) hx hb dL_isCodeRight_74 (by decide) ?_
              rcases br9 hrun with ⟨hc56, hrun⟩ | ⟨hc56, hrun⟩
              · refine lv_icmp_eq (tgt := 86) hx hb dL_isCodeRight_76 (by decide) (fun _ => ?_) (fun c => absurd hc56 c)
                exact J86 _ _ _ hrun hP hD hK hS (lv_sub hl [4, 5, 6, 7, 8, 3, 2, 1, 0] rfl)
              · refine lv_icmp_eq (tgt := 86) hx hb dL_isCodeRight_76 (by decide) (fun c => absurd c hc56) (fun _ => ?_)
                refine lv_iload hx hb dL_isCodeRight_79 (lv_at hl 3 rfl) ?_
                refine lv_bipush (v := 26) hx hb dL_isCodeRight_81 (by decide) ?_
                rcases br9 hrun with ⟨hc57, hrun⟩ | ⟨hc57, hrun⟩
                · refine lv_icmp_ne (tgt := 90) hx hb dL_isCodeRight_83 (by decide) (fun c => absurd hc57 c) (fun _ => ?_)
                  exact J86 _ _ _ hrun hP hD hK hS (lv_sub hl [4, 5, 6, 7, 8, 3, 2, 1, 0] rfl)
                · refine lv_icmp_ne (tgt := 90) hx hb dL_isCodeRight_83 (by decide) (fun _ => ?_) (fun c => absurd c hc57)
                  refine lv_iconst (v := 0) hx hb dL_isCodeRight_90 (by decide) ?_
                  exact J91 0 _ _ _ hrun hP hD hK hS (lv_sub hl [4, 5, 6, 7, 8, 3, 2, 1, 0] rfl)
  obtain ⟨o9, hc9, hrun⟩ := bnd9 hrun
  refine L9 NF 0 o9 _ _ _ hc9 hP hD hK hS (lv_sub hl [2, 3, 4, 1, 0] rfl) (fun r e9 => by subst e9; exact Option.some.inj hrun) ?_
  intro t9 e9
  subst e9
  replace hrun := el9 hrun
  intro H locs ls hP hD hK hS hl
  have hl := hl
  refine lv_iload_n hx hb dL_isCodeRight_359 rfl (lv_at hl 2 rfl) ?_
  have J394 : ∀ (y0_394 : Int32) (H : Heap) (locs : List Loc) (ls : Array Slot), (fL_isCodeRight_J394 y0_394) = some o → va_P (dC, dI) cls (List.flatten ([(oX11 (p0a 0) p0a p0w), (oX6 (p0a 9) p0_8a p0_8k p0_8w p0_8l), (oX0 (p0a 6) p0_5a p0_5k p0_5n p0_5w), (oX9 (p0_5_1a 0 0) (p0_5_1a 0) (p0_5_1k 0) (p0_5_1n 0) (p0_5_1w 0)), (oX9 (p0_5_1a 1 0) (p0_5_1a 1) (p0_5_1k 1) (p0_5_1n 1) (p0_5_1w 1)), (oX9 (p0_5_1a 2 0) (p0_5_1a 2) (p0_5_1k 2) (p0_5_1n 2) (p0_5_1w 2)), (oX9 (p0_5_1a 3 0) (p0_5_1a 3) (p0_5_1k 3) (p0_5_1n 3) (p0_5_1w 3)), (oX9 (p0_5_1a 4 0) (p0_5_1a 4) (p0_5_1k 4) (p0_5_1n 4) (p0_5_1w 4)), (oX9 (p0_5_1a 5 0) (p0_5_1a 5) (p0_5_1k 5) (p0_5_1n 5) (p0_5_1w 5)), [((p0_5a 2), .inl (p0_5_1c, 6, .inr (.inr (.inr (.inr (fun i => some (p0_5_1a i 0)))))))]] : List va_W)) H → va_D A (List.flatten ([(oX11 (p0a 0) p0a p0w), (oX6 (p0a 9) p0_8a p0_8k p0_8w p0_8l), (oX0 (p0a 6) p0_5a p0_5k p0_5n p0_5w), (oX9 (p0_5_1a 0 0) (p0_5_1a 0) (p0_5_1k 0) (p0_5_1n 0) (p0_5_1w 0)), (oX9 (p0_5_1a 1 0) (p0_5_1a 1) (p0_5_1k 1) (p0_5_1n 1) (p0_5_1w 1)), (oX9 (p0_5_1a 2 0) (p0_5_1a 2) (p0_5_1k 2) (p0_5_1n 2) (p0_5_1w 2)), (oX9 (p0_5_1a 3 0) (p0_5_1a 3) (p0_5_1k 3) (p0_5_1n 3) (p0_5_1w 3)), (oX9 (p0_5_1a 4 0) (p0_5_1a 4) (p0_5_1k 4) (p0_5_1n 4) (p0_5_1w 4)), (oX9 (p0_5_1a 5 0) (p0_5_1a 5) (p0_5_1k 5) (p0_5_1n 5) (p0_5_1w 5)), [((p0_5a 2), .inl (p0_5_1c, 6, .inr (.inr (.inr (.inr (fun i => some (p0_5_1a i 0)))))))]] : List va_W)) → va_K (dC, dI) cls (List.flatten ([[], (tX6 p0_8k), (tX0 p0_5k), (tX9 (p0_5_1k 0)), (tX9 (p0_5_1k 1)), (tX9 (p0_5_1k 2)), (tX9 (p0_5_1k 3)), (tX9 (p0_5_1k 4)), (tX9 (p0_5_1k 5)), [(p0_5_1c, .object RX9)]] : List (List (ClassId × FieldType)))) s → va_S A s.heap H locs → lv_has ls 12 [] → W p l e ({ frames := 3, cells := 0, slots := 0, locals := 66 } : Room) s m ([.ref (p0a 0), .int p1, .int p2] : List Value).toArray below meth c H locs 0 0 Q (F0 m 394 ls [.int y0_394]) := by
    intro y0_394 H locs ls hrun hP hD hK hS hl 
    unfold fL_isCodeRight_J394 at hrun
    obtain ⟨hz9, hrun⟩ := chk9 hrun
    have ho9 : y0_394 = o := Option.some.inj hrun
    have hP9 : va_P (dC, dI) cls (List.flatten ([(oX11 (p0a 0) p0a p0w), (oX6 (p0a 9) p0_8a p0_8k p0_8w p0_8l), (oX0 (p0a 6) p0_5a p0_5k p0_5n p0_5w), (oX9 (p0_5_1a 0 0) (p0_5_1a 0) (p0_5_1k 0) (p0_5_1n 0) (p0_5_1w 0)), (oX9 (p0_5_1a 1 0) (p0_5_1a 1) (p0_5_1k 1) (p0_5_1n 1) (p0_5_1w 1)), (oX9 (p0_5_1a 2 0) (p0_5_1a 2) (p0_5_1k 2) (p0_5_1n 2) (p0_5_1w 2)), (oX9 (p0_5_1a 3 0) (p0_5_1a 3) (p0_5_1k 3) (p0_5_1n 3) (p0_5_1w 3)), (oX9 (p0_5_1a 4 0) (p0_5_1a 4) (p0_5_1k 4) (p0_5_1n 4) (p0_5_1w 4)), (oX9 (p0_5_1a 5 0) (p0_5_1a 5) (p0_5_1k 5) (p0_5_1n 5) (p0_5_1w 5)), [((p0_5a 2), .inl (p0_5_1c, 6, .inr (.inr (.inr (.inr (fun i => some (p0_5_1a i 0)))))))]] : List va_W)) H := by first | exact hP | (rw [← ho9]; exact hP)
    have hD9 : va_D A (List.flatten ([(oX11 (p0a 0) p0a p0w), (oX6 (p0a 9) p0_8a p0_8k p0_8w p0_8l), (oX0 (p0a 6) p0_5a p0_5k p0_5n p0_5w), (oX9 (p0_5_1a 0 0) (p0_5_1a 0) (p0_5_1k 0) (p0_5_1n 0) (p0_5_1w 0)), (oX9 (p0_5_1a 1 0) (p0_5_1a 1) (p0_5_1k 1) (p0_5_1n 1) (p0_5_1w 1)), (oX9 (p0_5_1a 2 0) (p0_5_1a 2) (p0_5_1k 2) (p0_5_1n 2) (p0_5_1w 2)), (oX9 (p0_5_1a 3 0) (p0_5_1a 3) (p0_5_1k 3) (p0_5_1n 3) (p0_5_1w 3)), (oX9 (p0_5_1a 4 0) (p0_5_1a 4) (p0_5_1k 4) (p0_5_1n 4) (p0_5_1w 4)), (oX9 (p0_5_1a 5 0) (p0_5_1a 5) (p0_5_1k 5) (p0_5_1n 5) (p0_5_1w 5)), [((p0_5a 2), .inl (p0_5_1c, 6, .inr (.inr (.inr (.inr (fun i => some (p0_5_1a i 0)))))))]] : List va_W)) := by first | exact hD | (rw [← ho9]; exact hD)
    subst hQ
    exact W.zret (v := y0_394) hx hb hr (bz9 hz9) (fun t ht hW => ⟨⟨y0_394, (), rfl, (by rw [← ho9]), ⟨by rw [ht]; exact hP9, va_K.moved hW.alike hK, hD9⟩⟩, hS.F ht⟩) hS.2.2 dL_isCodeRight_394
  have J389 : ∀ (H : Heap) (locs : List Loc) (ls : Array Slot), (fL_isCodeRight_J389) = some o → va_P (dC, dI) cls (List.flatten ([(oX11 (p0a 0) p0a p0w), (oX6 (p0a 9) p0_8a p0_8k p0_8w p0_8l), (oX0 (p0a 6) p0_5a p0_5k p0_5n p0_5w), (oX9 (p0_5_1a 0 0) (p0_5_1a 0) (p0_5_1k 0) (p0_5_1n 0) (p0_5_1w 0)), (oX9 (p0_5_1a 1 0) (p0_5_1a 1) (p0_5_1k 1) (p0_5_1n 1) (p0_5_1w 1)), (oX9 (p0_5_1a 2 0) (p0_5_1a 2) (p0_5_1k 2) (p0_5_1n 2) (p0_5_1w 2)), (oX9 (p0_5_1a 3 0) (p0_5_1a 3) (p0_5_1k 3) (p0_5_1n 3) (p0_5_1w 3)), (oX9 (p0_5_1a 4 0) (p0_5_1a 4) (p0_5_1k 4) (p0_5_1n 4) (p0_5_1w 4)), (oX9 (p0_5_1a 5 0) (p0_5_1a 5) (p0_5_1k 5) (p0_5_1n 5) (p0_5_1w 5)), [((p0_5a 2), .inl (p0_5_1c, 6, .inr (.inr (.inr (.inr (fun i => some (p0_5_1a i 0)))))))]] : List va_W)) H → va_D A (List.flatten ([(oX11 (p0a 0) p0a p0w), (oX6 (p0a 9) p0_8a p0_8k p0_8w p0_8l), (oX0 (p0a 6) p0_5a p0_5k p0_5n p0_5w), (oX9 (p0_5_1a 0 0) (p0_5_1a 0) (p0_5_1k 0) (p0_5_1n 0) (p0_5_1w 0)), (oX9 (p0_5_1a 1 0) (p0_5_1a 1) (p0_5_1k 1) (p0_5_1n 1) (p0_5_1w 1)), (oX9 (p0_5_1a 2 0) (p0_5_1a 2) (p0_5_1k 2) (p0_5_1n 2) (p0_5_1w 2)), (oX9 (p0_5_1a 3 0) (p0_5_1a 3) (p0_5_1k 3) (p0_5_1n 3) (p0_5_1w 3)), (oX9 (p0_5_1a 4 0) (p0_5_1a 4) (p0_5_1k 4) (p0_5_1n 4) (p0_5_1w 4)), (oX9 (p0_5_1a 5 0) (p0_5_1a 5) (p0_5_1k 5) (p0_5_1n 5) (p0_5_1w 5)), [((p0_5a 2), .inl (p0_5_1c, 6, .inr (.inr (.inr (.inr (fun i => some (p0_5_1a i 0)))))))]] : List va_W)) → va_K (dC, dI) cls (List.flatten ([[], (tX6 p0_8k), (tX0 p0_5k), (tX9 (p0_5_1k 0)), (tX9 (p0_5_1k 1)), (tX9 (p0_5_1k 2)), (tX9 (p0_5_1k 3)), (tX9 (p0_5_1k 4)), (tX9 (p0_5_1k 5)), [(p0_5_1c, .object RX9)]] : List (List (ClassId × FieldType)))) s → va_S A s.heap H locs → lv_has ls 12 [] → W p l e ({ frames := 3, cells := 0, slots := 0, locals := 66 } : Room) s m ([.ref (p0a 0), .int p1, .int p2] : List Value).toArray below meth c H locs 0 0 Q (F0 m 389 ls []) := by
    intro  H locs ls hrun hP hD hK hS hl 
    unfold fL_isCodeRight_J389 at hrun
    refine lv_iconst (v := 1) hx hb dL_isCodeRight_389 (by decide) ?_
    refine lv_goto (tgt := 394) hx hb dL_isCodeRight_390 (by decide) ?_
    exact J394 1 _ _ _ hrun hP hD hK hS (lv_sub hl [] rfl)
  rcases br9 hrun with ⟨hc58, hrun⟩ | ⟨hc58, hrun⟩
  · refine lv_if_eq (tgt := 389) hx hb dL_isCodeRight_360 (by decide) (fun _ => ?_) (fun c => absurd hc58 c)
    exact J389 _ _ _ hrun hP hD hK hS (lv_sub hl [] rfl)
  · refine lv_if_eq (tgt := 389) hx hb dL_isCodeRight_360 (by decide) (fun c => absurd c hc58) (fun _ => ?_)
    refine lv_aload_n hx hb dL_isCodeRight_363 rfl (lv_at hl 0 rfl) ?_
    refine lv_iload_n hx hb dL_isCodeRight_364 rfl (lv_at hl 1 rfl) ?_
    refine lv_iload_n hx hb dL_isCodeRight_365 rfl (lv_at hl 2 rfl) ?_
    refine lv_iconst (v := 1) hx hb dL_isCodeRight_366 (by decide) ?_
    refine lv_isub hx hb dL_isCodeRight_367 ?_
    obtain ⟨o_59, hc_59, hrun⟩ := bnd9 hrun
    have hPx : va_P (dC, dI) cls ((List.flatten ([(oX11 (p0a 0) p0a p0w), (oX6 (p0a 9) p0_8a p0_8k p0_8w p0_8l), (oX0 (p0a 6) p0_5a p0_5k p0_5n p0_5w), (oX9 (p0_5_1a 0 0) (p0_5_1a 0) (p0_5_1k 0) (p0_5_1n 0) (p0_5_1w 0)), (oX9 (p0_5_1a 1 0) (p0_5_1a 1) (p0_5_1k 1) (p0_5_1n 1) (p0_5_1w 1)), (oX9 (p0_5_1a 2 0) (p0_5_1a 2) (p0_5_1k 2) (p0_5_1n 2) (p0_5_1w 2)), (oX9 (p0_5_1a 3 0) (p0_5_1a 3) (p0_5_1k 3) (p0_5_1n 3) (p0_5_1w 3)), (oX9 (p0_5_1a 4 0) (p0_5_1a 4) (p0_5_1k 4) (p0_5_1n 4) (p0_5_1w 4)), (oX9 (p0_5_1a 5 0) (p0_5_1a 5) (p0_5_1k 5) (p0_5_1n 5) (p0_5_1w 5)), [((p0_5a 2), .inl (p0_5_1c, 6, .inr (.inr (.inr (.inr (fun i => some (p0_5_1a i 0)))))))]] : List va_W)) ++ (List.flatten ([] : List va_W))) H := vP_fa (vP_perm hP (bP (List.Perm.refl _)))
    have hDx : va_D A ((List.flatten ([(oX11 (p0a 0) p0a p0w), (oX6 (p0a 9) p0_8a p0_8k p0_8w p0_8l), (oX0 (p0a 6) p0_5a p0_5k p0_5n p0_5w), (oX9 (p0_5_1a 0 0) (p0_5_1a 0) (p0_5_1k 0) (p0_5_1n 0) (p0_5_1w 0)), (oX9 (p0_5_1a 1 0) (p0_5_1a 1) (p0_5_1k 1) (p0_5_1n 1) (p0_5_1w 1)), (oX9 (p0_5_1a 2 0) (p0_5_1a 2) (p0_5_1k 2) (p0_5_1n 2) (p0_5_1w 2)), (oX9 (p0_5_1a 3 0) (p0_5_1a 3) (p0_5_1k 3) (p0_5_1n 3) (p0_5_1w 3)), (oX9 (p0_5_1a 4 0) (p0_5_1a 4) (p0_5_1k 4) (p0_5_1n 4) (p0_5_1w 4)), (oX9 (p0_5_1a 5 0) (p0_5_1a 5) (p0_5_1k 5) (p0_5_1n 5) (p0_5_1w 5)), [((p0_5a 2), .inl (p0_5_1c, 6, .inr (.inr (.inr (.inr (fun i => some (p0_5_1a i 0)))))))]] : List va_W)) ++ (List.flatten ([] : List va_W))) := vD_fa (vD_perm hD (bP (List.Perm.refl _)))
    have hKx : va_K (dC, dI) cls ((List.flatten ([[], (tX6 p0_8k), (tX0 p0_5k), (tX9 (p0_5_1k 0)), (tX9 (p0_5_1k 1)), (tX9 (p0_5_1k 2)), (tX9 (p0_5_1k 3)), (tX9 (p0_5_1k 4)), (tX9 (p0_5_1k 5)), [(p0_5_1c, .object RX9)]] : List (List (ClassId × FieldType)))) ++ (List.flatten ([] : List (List (ClassId × FieldType))))) s := vK_fa (vK_perm hK (bP (List.Perm.refl _)))
    have hPc := vP_l hPx
    have hDc := vD_l hDx
    have hKc := vK_l hKx
    have hFc := vfree hDx hS hA
    refine va_calli (va_runV (As := [.int p1, .int (o_1 - 1)]) (rest := []) ⟨hx, hb, hml, hown, hts⟩ (kX11_codeKind l dC dI (p0a := p0a) (p0w := p0w) (p1 := p1) (p2 := (o_1 - 1)) (p0_8a := p0_8a) (p0_8k := p0_8k) (p0_8w := p0_8w) (p0_8l := p0_8l) (p0_5a := p0_5a) (p0_5k := p0_5k) (p0_5n := p0_5n) (p0_5w := p0_5w) (p0_5_1c := p0_5_1c) (p0_5_1a := p0_5_1a) (p0_5_1k := p0_5_1k) (p0_5_1n := p0_5_1n) (p0_5_1w := p0_5_1w) (sz := _) (o := o_59) (hrun := hc_59)) (cwV 2 hts (gi_V qw1533 qw1534 qw1535 qw129 (gi_z qw1532)) rfl rfl rfl (by decide +kernel) ⟨Nat.le_of_ble_eq_true rfl, Nat.le_of_ble_eq_true rfl⟩) ⟨PRE.blind, va_recv hKc hPc (ci := 11) (q0 := 0) rfl rfl, PRE.of hE hS hFc hPc hKc hDc⟩ rfl rfl hl.1 rfl (lv_room (Nat.le_of_ble_eq_true rfl)) dL_isCodeRight_368 ⟨(Nat.le_of_ble_eq_true rfl), (Nat.le_of_ble_eq_true rfl)⟩) hS (fun q _ h => hFc q h) hFc (fun r60 u t H locs ht hvm hw hB hz1 hk1 hS => ?_)
    obtain ⟨b1, b2, b3⟩ := hB
    rw [ht] at b1
    obtain ⟨hP, hD, hK⟩ := JOINC (wc := (List.flatten ([(oX11 (p0a 0) p0a p0w), (oX6 (p0a 9) p0_8a p0_8k p0_8w p0_8l), (oX0 (p0a 6) p0_5a p0_5k p0_5n p0_5w), (oX9 (p0_5_1a 0 0) (p0_5_1a 0) (p0_5_1k 0) (p0_5_1n 0) (p0_5_1w 0)), (oX9 (p0_5_1a 1 0) (p0_5_1a 1) (p0_5_1k 1) (p0_5_1n 1) (p0_5_1w 1)), (oX9 (p0_5_1a 2 0) (p0_5_1a 2) (p0_5_1k 2) (p0_5_1n 2) (p0_5_1w 2)), (oX9 (p0_5_1a 3 0) (p0_5_1a 3) (p0_5_1k 3) (p0_5_1n 3) (p0_5_1w 3)), (oX9 (p0_5_1a 4 0) (p0_5_1a 4) (p0_5_1k 4) (p0_5_1n 4) (p0_5_1w 4)), (oX9 (p0_5_1a 5 0) (p0_5_1a 5) (p0_5_1k 5) (p0_5_1n 5) (p0_5_1w 5)), [((p0_5a 2), .inl (p0_5_1c, 6, .inr (.inr (.inr (.inr (fun i => some (p0_5_1a i 0)))))))]] : List va_W))) (wr := (List.flatten ([] : List va_W))) (w1 := (List.flatten ([(oX11 (p0a 0) p0a p0w), (oX6 (p0a 9) p0_8a p0_8k p0_8w p0_8l), (oX0 (p0a 6) p0_5a p0_5k p0_5n p0_5w), (oX9 (p0_5_1a 0 0) (p0_5_1a 0) (p0_5_1k 0) (p0_5_1n 0) (p0_5_1w 0)), (oX9 (p0_5_1a 1 0) (p0_5_1a 1) (p0_5_1k 1) (p0_5_1n 1) (p0_5_1w 1)), (oX9 (p0_5_1a 2 0) (p0_5_1a 2) (p0_5_1k 2) (p0_5_1n 2) (p0_5_1w 2)), (oX9 (p0_5_1a 3 0) (p0_5_1a 3) (p0_5_1k 3) (p0_5_1n 3) (p0_5_1w 3)), (oX9 (p0_5_1a 4 0) (p0_5_1a 4) (p0_5_1k 4) (p0_5_1n 4) (p0_5_1w 4)), (oX9 (p0_5_1a 5 0) (p0_5_1a 5) (p0_5_1k 5) (p0_5_1n 5) (p0_5_1w 5)), [((p0_5a 2), .inl (p0_5_1c, 6, .inr (.inr (.inr (.inr (fun i => some (p0_5_1a i 0)))))))]] : List va_W))) (t1 := (List.flatten ([[], (tX6 p0_8k), (tX0 p0_5k), (tX9 (p0_5_1k 0)), (tX9 (p0_5_1k 1)), (tX9 (p0_5_1k 2)), (tX9 (p0_5_1k 3)), (tX9 (p0_5_1k 4)), (tX9 (p0_5_1k 5)), [(p0_5_1c, .object RX9)]] : List (List (ClassId × FieldType))))) hPx hDx hKx hk1 hFc b1 (va_K.moved hvm.symm b2) b3
    have hP : va_P (dC, dI) cls (List.flatten ([(oX11 (p0a 0) p0a p0w), (oX6 (p0a 9) p0_8a p0_8k p0_8w p0_8l), (oX0 (p0a 6) p0_5a p0_5k p0_5n p0_5w), (oX9 (p0_5_1a 0 0) (p0_5_1a 0) (p0_5_1k 0) (p0_5_1n 0) (p0_5_1w 0)), (oX9 (p0_5_1a 1 0) (p0_5_1a 1) (p0_5_1k 1) (p0_5_1n 1) (p0_5_1w 1)), (oX9 (p0_5_1a 2 0) (p0_5_1a 2) (p0_5_1k 2) (p0_5_1n 2) (p0_5_1w 2)), (oX9 (p0_5_1a 3 0) (p0_5_1a 3) (p0_5_1k 3) (p0_5_1n 3) (p0_5_1w 3)), (oX9 (p0_5_1a 4 0) (p0_5_1a 4) (p0_5_1k 4) (p0_5_1n 4) (p0_5_1w 4)), (oX9 (p0_5_1a 5 0) (p0_5_1a 5) (p0_5_1k 5) (p0_5_1n 5) (p0_5_1w 5)), [((p0_5a 2), .inl (p0_5_1c, 6, .inr (.inr (.inr (.inr (fun i => some (p0_5_1a i 0)))))))]] : List va_W)) H := vP_perm (vP_fb hP) (bP (List.Perm.refl _))
    have hD : va_D A (List.flatten ([(oX11 (p0a 0) p0a p0w), (oX6 (p0a 9) p0_8a p0_8k p0_8w p0_8l), (oX0 (p0a 6) p0_5a p0_5k p0_5n p0_5w), (oX9 (p0_5_1a 0 0) (p0_5_1a 0) (p0_5_1k 0) (p0_5_1n 0) (p0_5_1w 0)), (oX9 (p0_5_1a 1 0) (p0_5_1a 1) (p0_5_1k 1) (p0_5_1n 1) (p0_5_1w 1)), (oX9 (p0_5_1a 2 0) (p0_5_1a 2) (p0_5_1k 2) (p0_5_1n 2) (p0_5_1w 2)), (oX9 (p0_5_1a 3 0) (p0_5_1a 3) (p0_5_1k 3) (p0_5_1n 3) (p0_5_1w 3)), (oX9 (p0_5_1a 4 0) (p0_5_1a 4) (p0_5_1k 4) (p0_5_1n 4) (p0_5_1w 4)), (oX9 (p0_5_1a 5 0) (p0_5_1a 5) (p0_5_1k 5) (p0_5_1n 5) (p0_5_1w 5)), [((p0_5a 2), .inl (p0_5_1c, 6, .inr (.inr (.inr (.inr (fun i => some (p0_5_1a i 0)))))))]] : List va_W)) := vD_perm (vD_fb hD) (bP (List.Perm.refl _))
    have hK : va_K (dC, dI) cls (List.flatten ([[], (tX6 p0_8k), (tX0 p0_5k), (tX9 (p0_5_1k 0)), (tX9 (p0_5_1k 1)), (tX9 (p0_5_1k 2)), (tX9 (p0_5_1k 3)), (tX9 (p0_5_1k 4)), (tX9 (p0_5_1k 5)), [(p0_5_1c, .object RX9)]] : List (List (ClassId × FieldType)))) s := vK_perm (vK_fb hK) (bP (List.Perm.refl _))
    obtain rfl : o_59 = r60 := hw.symm
    refine lv_bipush (v := 24) hx hb dL_isCodeRight_371 (by decide) ?_
    rcases br9 hrun with ⟨hc61, hrun⟩ | ⟨hc61, hrun⟩
    · refine lv_icmp_eq (tgt := 389) hx hb dL_isCodeRight_373 (by decide) (fun _ => ?_) (fun c => absurd hc61 c)
      exact J389 _ _ _ hrun hP hD hK hS (lv_sub hl [] rfl)
    · refine lv_icmp_eq (tgt := 389) hx hb dL_isCodeRight_373 (by decide) (fun c => absurd c hc61) (fun _ => ?_)
      refine lv_aload_n hx hb dL_isCodeRight_376 rfl (lv_at hl 0 rfl) ?_
      refine lv_iload_n hx hb dL_isCodeRight_377 rfl (lv_at hl 1 rfl) ?_
      refine lv_iload_n hx hb dL_isCodeRight_378 rfl (lv_at hl 2 rfl) ?_
      refine lv_iconst (v := 1) hx hb dL_isCodeRight_379 (by decide) ?_
      refine lv_isub hx hb dL_isCodeRight_380 ?_
      obtain ⟨o_62, hc_62, hrun⟩ := bnd9 hrun
      have hPx : va_P (dC, dI) cls ((List.flatten ([(oX11 (p0a 0) p0a p0w), (oX6 (p0a 9) p0_8a p0_8k p0_8w p0_8l), (oX0 (p0a 6) p0_5a p0_5k p0_5n p0_5w), (oX9 (p0_5_1a 0 0) (p0_5_1a 0) (p0_5_1k 0) (p0_5_1n 0) (p0_5_1w 0)), (oX9 (p0_5_1a 1 0) (p0_5_1a 1) (p0_5_1k 1) (p0_5_1n 1) (p0_5_1w 1)), (oX9 (p0_5_1a 2 0) (p0_5_1a 2) (p0_5_1k 2) (p0_5_1n 2) (p0_5_1w 2)), (oX9 (p0_5_1a 3 0) (p0_5_1a 3) (p0_5_1k 3) (p0_5_1n 3) (p0_5_1w 3)), (oX9 (p0_5_1a 4 0) (p0_5_1a 4) (p0_5_1k 4) (p0_5_1n 4) (p0_5_1w 4)), (oX9 (p0_5_1a 5 0) (p0_5_1a 5) (p0_5_1k 5) (p0_5_1n 5) (p0_5_1w 5)), [((p0_5a 2), .inl (p0_5_1c, 6, .inr (.inr (.inr (.inr (fun i => some (p0_5_1a i 0)))))))]] : List va_W)) ++ (List.flatten ([] : List va_W))) H := vP_fa (vP_perm hP (bP (List.Perm.refl _)))
      have hDx : va_D A ((List.flatten ([(oX11 (p0a 0) p0a p0w), (oX6 (p0a 9) p0_8a p0_8k p0_8w p0_8l), (oX0 (p0a 6) p0_5a p0_5k p0_5n p0_5w), (oX9 (p0_5_1a 0 0) (p0_5_1a 0) (p0_5_1k 0) (p0_5_1n 0) (p0_5_1w 0)), (oX9 (p0_5_1a 1 0) (p0_5_1a 1) (p0_5_1k 1) (p0_5_1n 1) (p0_5_1w 1)), (oX9 (p0_5_1a 2 0) (p0_5_1a 2) (p0_5_1k 2) (p0_5_1n 2) (p0_5_1w 2)), (oX9 (p0_5_1a 3 0) (p0_5_1a 3) (p0_5_1k 3) (p0_5_1n 3) (p0_5_1w 3)), (oX9 (p0_5_1a 4 0) (p0_5_1a 4) (p0_5_1k 4) (p0_5_1n 4) (p0_5_1w 4)), (oX9 (p0_5_1a 5 0) (p0_5_1a 5) (p0_5_1k 5) (p0_5_1n 5) (p0_5_1w 5)), [((p0_5a 2), .inl (p0_5_1c, 6, .inr (.inr (.inr (.inr (fun i => some (p0_5_1a i 0)))))))]] : List va_W)) ++ (List.flatten ([] : List va_W))) := vD_fa (vD_perm hD (bP (List.Perm.refl _)))
      have hKx : va_K (dC, dI) cls ((List.flatten ([[], (tX6 p0_8k), (tX0 p0_5k), (tX9 (p0_5_1k 0)), (tX9 (p0_5_1k 1)), (tX9 (p0_5_1k 2)), (tX9 (p0_5_1k 3)), (tX9 (p0_5_1k 4)), (tX9 (p0_5_1k 5)), [(p0_5_1c, .object RX9)]] : List (List (ClassId × FieldType)))) ++ (List.flatten ([] : List (List (ClassId × FieldType))))) s := vK_fa (vK_perm hK (bP (List.Perm.refl _)))
      have hPc := vP_l hPx
      have hDc := vD_l hDx
      have hKc := vK_l hKx
      have hFc := vfree hDx hS hA
      refine va_calli (va_runV (As := [.int p1, .int (o_1 - 1)]) (rest := []) ⟨hx, hb, hml, hown, hts⟩ (kX11_codeKind l dC dI (p0a := p0a) (p0w := p0w) (p1 := p1) (p2 := (o_1 - 1)) (p0_8a := p0_8a) (p0_8k := p0_8k) (p0_8w := p0_8w) (p0_8l := p0_8l) (p0_5a := p0_5a) (p0_5k := p0_5k) (p0_5n := p0_5n) (p0_5w := p0_5w) (p0_5_1c := p0_5_1c) (p0_5_1a := p0_5_1a) (p0_5_1k := p0_5_1k) (p0_5_1n := p0_5_1n) (p0_5_1w := p0_5_1w) (sz := _) (o := o_62) (hrun := hc_62)) (cwV 2 hts (gi_V qw1533 qw1534 qw1535 qw129 (gi_z qw1532)) rfl rfl rfl (by decide +kernel) ⟨Nat.le_of_ble_eq_true rfl, Nat.le_of_ble_eq_true rfl⟩) ⟨PRE.blind, va_recv hKc hPc (ci := 11) (q0 := 0) rfl rfl, PRE.of hE hS hFc hPc hKc hDc⟩ rfl rfl hl.1 rfl (lv_room (Nat.le_of_ble_eq_true rfl)) dL_isCodeRight_381 ⟨(Nat.le_of_ble_eq_true rfl), (Nat.le_of_ble_eq_true rfl)⟩) hS (fun q _ h => hFc q h) hFc (fun r63 u t H locs ht hvm hw hB hz1 hk1 hS => ?_)
      obtain ⟨b1, b2, b3⟩ := hB
      rw [ht] at b1
      obtain ⟨hP, hD, hK⟩ := JOINC (wc := (List.flatten ([(oX11 (p0a 0) p0a p0w), (oX6 (p0a 9) p0_8a p0_8k p0_8w p0_8l), (oX0 (p0a 6) p0_5a p0_5k p0_5n p0_5w), (oX9 (p0_5_1a 0 0) (p0_5_1a 0) (p0_5_1k 0) (p0_5_1n 0) (p0_5_1w 0)), (oX9 (p0_5_1a 1 0) (p0_5_1a 1) (p0_5_1k 1) (p0_5_1n 1) (p0_5_1w 1)), (oX9 (p0_5_1a 2 0) (p0_5_1a 2) (p0_5_1k 2) (p0_5_1n 2) (p0_5_1w 2)), (oX9 (p0_5_1a 3 0) (p0_5_1a 3) (p0_5_1k 3) (p0_5_1n 3) (p0_5_1w 3)), (oX9 (p0_5_1a 4 0) (p0_5_1a 4) (p0_5_1k 4) (p0_5_1n 4) (p0_5_1w 4)), (oX9 (p0_5_1a 5 0) (p0_5_1a 5) (p0_5_1k 5) (p0_5_1n 5) (p0_5_1w 5)), [((p0_5a 2), .inl (p0_5_1c, 6, .inr (.inr (.inr (.inr (fun i => some (p0_5_1a i 0)))))))]] : List va_W))) (wr := (List.flatten ([] : List va_W))) (w1 := (List.flatten ([(oX11 (p0a 0) p0a p0w), (oX6 (p0a 9) p0_8a p0_8k p0_8w p0_8l), (oX0 (p0a 6) p0_5a p0_5k p0_5n p0_5w), (oX9 (p0_5_1a 0 0) (p0_5_1a 0) (p0_5_1k 0) (p0_5_1n 0) (p0_5_1w 0)), (oX9 (p0_5_1a 1 0) (p0_5_1a 1) (p0_5_1k 1) (p0_5_1n 1) (p0_5_1w 1)), (oX9 (p0_5_1a 2 0) (p0_5_1a 2) (p0_5_1k 2) (p0_5_1n 2) (p0_5_1w 2)), (oX9 (p0_5_1a 3 0) (p0_5_1a 3) (p0_5_1k 3) (p0_5_1n 3) (p0_5_1w 3)), (oX9 (p0_5_1a 4 0) (p0_5_1a 4) (p0_5_1k 4) (p0_5_1n 4) (p0_5_1w 4)), (oX9 (p0_5_1a 5 0) (p0_5_1a 5) (p0_5_1k 5) (p0_5_1n 5) (p0_5_1w 5)), [((p0_5a 2), .inl (p0_5_1c, 6, .inr (.inr (.inr (.inr (fun i => some (p0_5_1a i 0)))))))]] : List va_W))) (t1 := (List.flatten ([[], (tX6 p0_8k), (tX0 p0_5k), (tX9 (p0_5_1k 0)), (tX9 (p0_5_1k 1)), (tX9 (p0_5_1k 2)), (tX9 (p0_5_1k 3)), (tX9 (p0_5_1k 4)), (tX9 (p0_5_1k 5)), [(p0_5_1c, .object RX9)]] : List (List (ClassId × FieldType))))) hPx hDx hKx hk1 hFc b1 (va_K.moved hvm.symm b2) b3
      have hP : va_P (dC, dI) cls (List.flatten ([(oX11 (p0a 0) p0a p0w), (oX6 (p0a 9) p0_8a p0_8k p0_8w p0_8l), (oX0 (p0a 6) p0_5a p0_5k p0_5n p0_5w), (oX9 (p0_5_1a 0 0) (p0_5_1a 0) (p0_5_1k 0) (p0_5_1n 0) (p0_5_1w 0)), (oX9 (p0_5_1a 1 0) (p0_5_1a 1) (p0_5_1k 1) (p0_5_1n 1) (p0_5_1w 1)), (oX9 (p0_5_1a 2 0) (p0_5_1a 2) (p0_5_1k 2) (p0_5_1n 2) (p0_5_1w 2)), (oX9 (p0_5_1a 3 0) (p0_5_1a 3) (p0_5_1k 3) (p0_5_1n 3) (p0_5_1w 3)), (oX9 (p0_5_1a 4 0) (p0_5_1a 4) (p0_5_1k 4) (p0_5_1n 4) (p0_5_1w 4)), (oX9 (p0_5_1a 5 0) (p0_5_1a 5) (p0_5_1k 5) (p0_5_1n 5) (p0_5_1w 5)), [((p0_5a 2), .inl (p0_5_1c, 6, .inr (.inr (.inr (.inr (fun i => some (p0_5_1a i 0)))))))]] : List va_W)) H := vP_perm (vP_fb hP) (bP (List.Perm.refl _))
      have hD : va_D A (List.flatten ([(oX11 (p0a 0) p0a p0w), (oX6 (p0a 9) p0_8a p0_8k p0_8w p0_8l), (oX0 (p0a 6) p0_5a p0_5k p0_5n p0_5w), (oX9 (p0_5_1a 0 0) (p0_5_1a 0) (p0_5_1k 0) (p0_5_1n 0) (p0_5_1w 0)), (oX9 (p0_5_1a 1 0) (p0_5_1a 1) (p0_5_1k 1) (p0_5_1n 1) (p0_5_1w 1)), (oX9 (p0_5_1a 2 0) (p0_5_1a 2) (p0_5_1k 2) (p0_5_1n 2) (p0_5_1w 2)), (oX9 (p0_5_1a 3 0) (p0_5_1a 3) (p0_5_1k 3) (p0_5_1n 3) (p0_5_1w 3)), (oX9 (p0_5_1a 4 0) (p0_5_1a 4) (p0_5_1k 4) (p0_5_1n 4) (p0_5_1w 4)), (oX9 (p0_5_1a 5 0) (p0_5_1a 5) (p0_5_1k 5) (p0_5_1n 5) (p0_5_1w 5)), [((p0_5a 2), .inl (p0_5_1c, 6, .inr (.inr (.inr (.inr (fun i => some (p0_5_1a i 0)))))))]] : List va_W)) := vD_perm (vD_fb hD) (bP (List.Perm.refl _))
      have hK : va_K (dC, dI) cls (List.flatten ([[], (tX6 p0_8k), (tX0 p0_5k), (tX9 (p0_5_1k 0)), (tX9 (p0_5_1k 1)), (tX9 (p0_5_1k 2)), (tX9 (p0_5_1k 3)), (tX9 (p0_5_1k 4)), (tX9 (p0_5_1k 5)), [(p0_5_1c, .object RX9)]] : List (List (ClassId × FieldType)))) s := vK_perm (vK_fb hK) (bP (List.Perm.refl _))
      obtain rfl : o_62 = r63 := hw.symm
      refine lv_bipush (v := 22) hx hb dL_isCodeRight_384 (by decide) ?_
      rcases br9 hrun with ⟨hc64, hrun⟩ | ⟨hc64, hrun⟩
      · refine lv_icmp_ne (tgt := 393) hx hb dL_isCodeRight_386 (by decide) (fun c => absurd hc64 c) (fun _ => ?_)
        exact J389 _ _ _ hrun hP hD hK hS (lv_sub hl [] rfl)
      · refine lv_icmp_ne (tgt := 393) hx hb dL_isCodeRight_386 (by decide) (fun _ => ?_) (fun c => absurd c hc64)
        refine lv_iconst (v := 0) hx hb dL_isCodeRight_393 (by decide) ?_
        exact J394 0 _ _ _ hrun hP hD hK hS (lv_sub hl [] rfl)
def fX13_draw (p0w : ST) (p1 : Int32) (xm : Nat) (xf : RI) : Option (Int32 × ST) := ((fL_cell xm xf ((p0w 0 1) - (p0w 0 1) / 24 * 24)).bind fun (o_1 : Int32) => ((fL_below ((o_1 >>> ((((p0w 0 1) / 24) - ((p0w 0 1) / 24) / 8 * 8) &&& 31)) + (47 * (p0w 0 1))) p1).bind fun (o_3 : Int32) => (lt9 (upw p0w 0 1 ((p0w 0 1) + 1)) fun (w5 : ST) => some (o_3, w5))))
set_option maxHeartbeats 16000000 in
set_option maxRecDepth 100000 in
theorem kX13_draw {zs : ZS} (l : Launch) (dC : Nat → ClassId) (dI : Nat → Nat → Nat) (p0a : Nat → Nat) (p0w : ST) (p1 : Int32) (xv : Nat) (xm : Nat) (xf : RI) (sz : Nat) (o : Int32 × ST) (hrun : fX13_draw p0w p1 xm xf = some o) : Met l yX13_draw (wz yX13_draw cX13_draw 3 (Option.some Jvm.ClassFile.FieldType.int)) ({ frames := 1, cells := 0, slots := 0, locals := 21 } : Room) (va_Pc [.ref (p0a 0), .int p1] (PRE (zA zs (xq9 xv xm xf)) dC dI (List.flatten ([[((p0a 0), .inr (14, [.ref xv, .int (p0w 0 1), .int (p0w 0 2), .int (p0w 0 3), .int (p0w 0 4), .ref (p0a 6), .null, .ref (p0a 8), .ref (p0a 9), .int (p0w 0 9), .int (p0w 0 10), .int (p0w 0 11), .int (p0w 0 12)]))]] : List va_W)) (List.flatten ([[]] : List (List (ClassId × FieldType)))) sz)) (va_Qi (fun (r : Int32) (_ : Unit) => r = (o.1)) (fun _ t => POST dC dI (List.flatten ([[((p0a 0), .inr (14, [.ref xv, .int ((o.2) 0 1), .int ((o.2) 0 2), .int ((o.2) 0 3), .int ((o.2) 0 4), .ref (p0a 6), .null, .ref (p0a 8), .ref (p0a 9), .int ((o.2) 0 9), .int ((o.2) 0 10), .int ((o.2) 0 11), .int ((o.2) 0 12)]))]] : List va_W)) (List.flatten ([[]] : List (List (ClassId × FieldType)))) (va_A (List.flatten ([[((p0a 0), .inr (14, [.ref xv, .int (p0w 0 1), .int (p0w 0 2), .int (p0w 0 3), .int (p0w 0 4), .ref (p0a 6), .null, .ref (p0a 8), .ref (p0a 9), .int (p0w 0 9), .int (p0w 0 10), .int (p0w 0 11), .int (p0w 0 12)]))]] : List va_W)) sz) t) (va_A (List.flatten ([[((p0a 0), .inr (14, [.ref xv, .int (p0w 0 1), .int (p0w 0 2), .int (p0w 0 3), .int (p0w 0 4), .ref (p0a 6), .null, .ref (p0a 8), .ref (p0a 9), .int (p0w 0 9), .int (p0w 0 10), .int (p0w 0 11), .int (p0w 0 12)]))]] : List va_W)) sz)) 0 0 (va_A (List.flatten ([[((p0a 0), .inr (14, [.ref xv, .int (p0w 0 1), .int (p0w 0 2), .int (p0w 0 3), .int (p0w 0 4), .ref (p0a 6), .null, .ref (p0a 8), .ref (p0a 9), .int (p0w 0 9), .int (p0w 0 10), .int (p0w 0 11), .int (p0w 0 12)]))]] : List va_W)) sz) := by
  refine Met.ofW (cc := cX13_draw) (maxL := 3) (ret := (Option.some Jvm.ClassFile.FieldType.int)) (by decide) rfl ?_
  intro p e s m args below meth c s₁ B hml hv
  obtain ⟨rfl, hsz, hP, hK, hD0, hE⟩ := hv
  have hx := B.exec
  have hb := B.bytes
  have hr := B.returns
  have hts0 := atoms_spec (ws := wz yX13_draw cX13_draw 3 (Option.some Jvm.ClassFile.FieldType.int)) B.pre
  have hts : ∀ w ∈ gw, w.before _ s = true := fun w h => hts0 w (List.mem_cons_of_mem _ h)
  have hown : s.vm.findClass RX13 = some m.cls := findClass_of_methodNamed B.named
  have hlocks := B.notSynchronized
  subst hsz
  have hD := hD0.self (sz := s.heap.size)
  refine gQ9 ?_
  intro Q hQ
  generalize hAe : va_A (List.flatten ([[((p0a 0), .inr (14, [.ref xv, .int (p0w 0 1), .int (p0w 0 2), .int (p0w 0 3), .int (p0w 0 4), .ref (p0a 6), .null, .ref (p0a 8), .ref (p0a 9), .int (p0w 0 9), .int (p0w 0 10), .int (p0w 0 11), .int (p0w 0 12)]))]] : List va_W)) s.heap.size = A at hD hE hQ
  have hA : ∀ q : Nat, s.heap.size ≤ q → A q := fun q h => by rw [← hAe]; exact Or.inr h
  have hro := ENV.ex hE
  have hro_x := hro.2
  replace hro := hro.1
  have hS : va_S A s.heap s.heap [] := va_S.rf
  have hP : va_P (dC, dI) cls (List.flatten ([[((p0a 0), .inr (14, [.ref xv, .int (p0w 0 1), .int (p0w 0 2), .int (p0w 0 3), .int (p0w 0 4), .ref (p0a 6), .null, .ref (p0a 8), .ref (p0a 9), .int (p0w 0 9), .int (p0w 0 10), .int (p0w 0 11), .int (p0w 0 12)]))]] : List va_W)) s.heap := hP
  have hl := lv_entry ([.ref (p0a 0), .int p1]) (n := 3) (Nat.le_of_ble_eq_true rfl)
  rw [lg_entry_eq]
  generalize (lg_sl ([.ref (p0a 0), .int p1]) ++ List.replicate (3 - (lg_sl ([.ref (p0a 0), .int p1])).length) Slot.unset).toArray = ls at hl ⊢
  have hl : lv_has ls 3 [(0, .ref (p0a 0)), (1, .int p1)] := hl
  obtain ⟨H, hHe⟩ : ∃ H, H = s.heap := ⟨_, rfl⟩
  obtain ⟨locs, hle⟩ : ∃ locs : List Loc, locs = [] := ⟨_, rfl⟩
  rw [← hHe] at hP
  have hS : va_S A s.heap H locs := by rw [hHe, hle]; exact hS
  show W p l e ({ frames := 1, cells := 0, slots := 0, locals := 21 } : Room) s m ([.ref (p0a 0), .int p1] : List Value).toArray below meth c s.heap [] 0 0 Q (F0 m 0 ls [])
  rw [← hle]
  refine wH9 hHe ?_
  unfold fX13_draw at hrun
  refine lv_aload_n hx hb dX13_draw_0 rfl (lv_at hl 0 rfl) ?_
  refine va_get (D := (dC, dI)) (ci := 14) (v := .ref xv) (C := RX13) (T := TX13) (N := 13) hx hb hts i_X13 hown hK hP 0 rfl rfl 0 (by decide) (hts _ qw1556) (fun _ h9 => h9) rfl dX13_draw_1 ?_
  refine lv_aload_n hx hb dX13_draw_4 rfl (lv_at hl 0 rfl) ?_
  refine va_get (D := (dC, dI)) (ci := 14) (v := .int (p0w 0 1)) (C := RX13) (T := TX13) (N := 13) hx hb hts i_X13 hown hK hP 0 rfl rfl 1 (by decide) (hts _ qw1557) (fun _ h9 => h9) rfl dX13_draw_5 ?_
  refine lv_bipush (v := 24) hx hb dX13_draw_8 (by decide) ?_
  refine lv_irem hx hb dX13_draw_10 (by decide) ?_
  obtain ⟨o_1, hc_1, hrun⟩ := bnd9 hrun
  have hPx : va_P (dC, dI) cls ((List.flatten ([] : List va_W)) ++ (List.flatten ([[((p0a 0), .inr (14, [.ref xv, .int (p0w 0 1), .int (p0w 0 2), .int (p0w 0 3), .int (p0w 0 4), .ref (p0a 6), .null, .ref (p0a 8), .ref (p0a 9), .int (p0w 0 9), .int (p0w 0 10), .int (p0w 0 11), .int (p0w 0 12)]))]] : List va_W))) H := vP_fa (vP_perm hP (bP (List.Perm.refl _)))
  have hDx : va_D A ((List.flatten ([] : List va_W)) ++ (List.flatten ([[((p0a 0), .inr (14, [.ref xv, .int (p0w 0 1), .int (p0w 0 2), .int (p0w 0 3), .int (p0w 0 4), .ref (p0a 6), .null, .ref (p0a 8), .ref (p0a 9), .int (p0w 0 9), .int (p0w 0 10), .int (p0w 0 11), .int (p0w 0 12)]))]] : List va_W))) := vD_fa (vD_perm hD (bP (List.Perm.refl _)))
  have hKx : va_K (dC, dI) cls ((List.flatten ([] : List (List (ClassId × FieldType)))) ++ (List.flatten ([[]] : List (List (ClassId × FieldType))))) s := vK_fa (vK_perm hK (bP (List.Perm.refl _)))
  have hPc := vP_l hPx
  have hDc := vD_l hDx
  have hKc := vK_l hKx
  have hFc := vfree hDx hS hA
  refine va_calli (va_runSN (As := [.ref xv, .int ((p0w 0 1) - (p0w 0 1) / 24 * 24)]) (rest := []) ⟨hx, hb, hml, hown, hts⟩ (kL_cell l dC dI (p0v := xv) (p0m := xm) (p0f := xf) (p1 := ((p0w 0 1) - (p0w 0 1) / 24 * 24)) (sz := _) (o := o_1) (hrun := hc_1)) ⟨(va_cnB 2 hts (gi_z qw1558) rfl rfl rfl (hE.nw (List.mem_append_right _ (tbl_10 (i := 108) rfl)) rfl) (hts _ qw1523) (by decide +kernel) ⟨Nat.le_of_ble_eq_true rfl, Nat.le_of_ble_eq_true rfl⟩), (hts _ qw1559), trivial⟩ ⟨PRE.blind, PRE.of (ENV.add hE xq9_m hro_x) hS hFc hPc hKc hDc⟩ rfl rfl hl.1 rfl (lv_room (Nat.le_of_ble_eq_true rfl)) dX13_draw_11 ⟨(Nat.le_of_ble_eq_true rfl), (Nat.le_of_ble_eq_true rfl)⟩) hS (fun q _ h => hFc q h) hFc (fun r2 u t H locs ht hvm hw hB hz1 hk1 hS => ?_)
  obtain ⟨b1, b2, b3⟩ := hB
  rw [ht] at b1
  obtain ⟨hP, hD, hK⟩ := JOINC (wc := (List.flatten ([] : List va_W))) (wr := (List.flatten ([[((p0a 0), .inr (14, [.ref xv, .int (p0w 0 1), .int (p0w 0 2), .int (p0w 0 3), .int (p0w 0 4), .ref (p0a 6), .null, .ref (p0a 8), .ref (p0a 9), .int (p0w 0 9), .int (p0w 0 10), .int (p0w 0 11), .int (p0w 0 12)]))]] : List va_W))) (w1 := (List.flatten ([] : List va_W))) (t1 := (List.flatten ([] : List (List (ClassId × FieldType))))) hPx hDx hKx hk1 hFc b1 (va_K.moved hvm.symm b2) b3
  have hP : va_P (dC, dI) cls (List.flatten ([[((p0a 0), .inr (14, [.ref xv, .int (p0w 0 1), .int (p0w 0 2), .int (p0w 0 3), .int (p0w 0 4), .ref (p0a 6), .null, .ref (p0a 8), .ref (p0a 9), .int (p0w 0 9), .int (p0w 0 10), .int (p0w 0 11), .int (p0w 0 12)]))]] : List va_W)) H := vP_perm (vP_fb hP) (bP (List.Perm.refl _))
  have hD : va_D A (List.flatten ([[((p0a 0), .inr (14, [.ref xv, .int (p0w 0 1), .int (p0w 0 2), .int (p0w 0 3), .int (p0w 0 4), .ref (p0a 6), .null, .ref (p0a 8), .ref (p0a 9), .int (p0w 0 9), .int (p0w 0 10), .int (p0w 0 11), .int (p0w 0 12)]))]] : List va_W)) := vD_perm (vD_fb hD) (bP (List.Perm.refl _))
  have hK : va_K (dC, dI) cls (List.flatten ([[]] : List (List (ClassId × FieldType)))) s := vK_perm (vK_fb hK) (bP (List.Perm.refl _))
  obtain rfl : o_1 = r2 := hw.symm
  refine lv_aload_n hx hb dX13_draw_14 rfl (lv_at hl 0 rfl) ?_
  refine va_get (D := (dC, dI)) (ci := 14) (v := .int (p0w 0 1)) (C := RX13) (T := TX13) (N := 13) hx hb hts i_X13 hown hK hP 0 rfl rfl 1 (by decide) (hts _ qw1557) (fun _ h9 => h9) rfl dX13_draw_15 ?_
  refine lv_bipush (v := 24) hx hb dX13_draw_18 (by decide) ?_
  refine lv_idiv hx hb dX13_draw_20 (by decide) ?_
  refine lv_bipush (v := 8) hx hb dX13_draw_21 (by decide) ?_
  refine lv_irem hx hb dX13_draw_23 (by decide) ?_
  refine lv_ishr hx hb dX13_draw_24 ?_
  refine lv_bipush (v := 47) hx hb dX13_draw_25 (by decide) ?_
  refine lv_aload_n hx hb dX13_draw_27 rfl (lv_at hl 0 rfl) ?_
  refine va_get (D := (dC, dI)) (ci := 14) (v := .int (p0w 0 1)) (C := RX13) (T := TX13) (N := 13) hx hb hts i_X13 hown hK hP 0 rfl rfl 1 (by decide) (hts _ qw1557) (fun _ h9 => h9) rfl dX13_draw_28 ?_
  refine lv_imul hx hb dX13_draw_31 ?_
  refine lv_iadd hx hb dX13_draw_32 ?_
  refine lv_iload_n hx hb dX13_draw_33 rfl (lv_at hl 1 rfl) ?_
  obtain ⟨o_3, hc_3, hrun⟩ := bnd9 hrun
  have hPx : va_P (dC, dI) cls ((List.flatten ([] : List va_W)) ++ (List.flatten ([[((p0a 0), .inr (14, [.ref xv, .int (p0w 0 1), .int (p0w 0 2), .int (p0w 0 3), .int (p0w 0 4), .ref (p0a 6), .null, .ref (p0a 8), .ref (p0a 9), .int (p0w 0 9), .int (p0w 0 10), .int (p0w 0 11), .int (p0w 0 12)]))]] : List va_W))) H := vP_fa (vP_perm hP (bP (List.Perm.refl _)))
  have hDx : va_D A ((List.flatten ([] : List va_W)) ++ (List.flatten ([[((p0a 0), .inr (14, [.ref xv, .int (p0w 0 1), .int (p0w 0 2), .int (p0w 0 3), .int (p0w 0 4), .ref (p0a 6), .null, .ref (p0a 8), .ref (p0a 9), .int (p0w 0 9), .int (p0w 0 10), .int (p0w 0 11), .int (p0w 0 12)]))]] : List va_W))) := vD_fa (vD_perm hD (bP (List.Perm.refl _)))
  have hKx : va_K (dC, dI) cls ((List.flatten ([] : List (List (ClassId × FieldType)))) ++ (List.flatten ([[]] : List (List (ClassId × FieldType))))) s := vK_fa (vK_perm hK (bP (List.Perm.refl _)))
  have hPc := vP_l hPx
  have hDc := vD_l hDx
  have hKc := vK_l hKx
  have hFc := vfree hDx hS hA
  refine va_calli (va_runSN (As := [.int ((o_1 >>> ((((p0w 0 1) / 24) - ((p0w 0 1) / 24) / 8 * 8) &&& 31)) + (47 * (p0w 0 1))), .int p1]) (rest := []) ⟨hx, hb, hml, hown, hts⟩ (kL_below l dC dI (p0 := ((o_1 >>> ((((p0w 0 1) / 24) - ((p0w 0 1) / 24) / 8 * 8) &&& 31)) + (47 * (p0w 0 1)))) (p1 := p1) (sz := _) (o := o_3) (hrun := hc_3)) ⟨(va_cnB 2 hts (gi_z qw1560) rfl rfl rfl (hE.nw (List.mem_append_right _ (tbl_10 (i := 112) rfl)) rfl) (hts _ qw1523) (by decide +kernel) ⟨Nat.le_of_ble_eq_true rfl, Nat.le_of_ble_eq_true rfl⟩), (hts _ qw1561), trivial⟩ ⟨PRE.blind, PRE.of hE hS hFc hPc hKc hDc⟩ rfl rfl hl.1 rfl (lv_room (Nat.le_of_ble_eq_true rfl)) dX13_draw_34 ⟨(Nat.le_of_ble_eq_true rfl), (Nat.le_of_ble_eq_true rfl)⟩) hS (fun q _ h => hFc q h) hFc (fun r4 u t H locs ht hvm hw hB hz1 hk1 hS => ?_)
  obtain ⟨b1, b2, b3⟩ := hB
  rw [ht] at b1
  obtain ⟨hP, hD, hK⟩ := JOINC (wc := (List.flatten ([] : List va_W))) (wr := (List.flatten ([[((p0a 0), .inr (14, [.ref xv, .int (p0w 0 1), .int (p0w 0 2), .int (p0w 0 3), .int (p0w 0 4), .ref (p0a 6), .null, .ref (p0a 8), .ref (p0a 9), .int (p0w 0 9), .int (p0w 0 10), .int (p0w 0 11), .int (p0w 0 12)]))]] : List va_W))) (w1 := (List.flatten ([] : List va_W))) (t1 := (List.flatten ([] : List (List (ClassId × FieldType))))) hPx hDx hKx hk1 hFc b1 (va_K.moved hvm.symm b2) b3
  have hP : va_P (dC, dI) cls (List.flatten ([[((p0a 0), .inr (14, [.ref xv, .int (p0w 0 1), .int (p0w 0 2), .int (p0w 0 3), .int (p0w 0 4), .ref (p0a 6), .null, .ref (p0a 8), .ref (p0a 9), .int (p0w 0 9), .int (p0w 0 10), .int (p0w 0 11), .int (p0w 0 12)]))]] : List va_W)) H := vP_perm (vP_fb hP) (bP (List.Perm.refl _))
  have hD : va_D A (List.flatten ([[((p0a 0), .inr (14, [.ref xv, .int (p0w 0 1), .int (p0w 0 2), .int (p0w 0 3), .int (p0w 0 4), .ref (p0a 6), .null, .ref (p0a 8), .ref (p0a 9), .int (p0w 0 9), .int (p0w 0 10), .int (p0w 0 11), .int (p0w 0 12)]))]] : List va_W)) := vD_perm (vD_fb hD) (bP (List.Perm.refl _))
  have hK : va_K (dC, dI) cls (List.flatten ([[]] : List (List (ClassId × FieldType)))) s := vK_perm (vK_fb hK) (bP (List.Perm.refl _))
  obtain rfl : o_3 = r4 := hw.symm
  refine lv_istore_n (lv' := [(2, .int o_3), (0, .ref (p0a 0)), (1, .int p1)]) hx hb dX13_draw_37 rfl hl (by decide) rfl (fun ls hl => ?_)
  refine lv_aload_n hx hb dX13_draw_38 rfl (lv_at hl 1 rfl) ?_
  refine lv_dup hx hb dX13_draw_39 rfl ?_
  refine va_get (D := (dC, dI)) (ci := 14) (v := .int (p0w 0 1)) (C := RX13) (T := TX13) (N := 13) hx hb hts i_X13 hown hK hP 0 rfl rfl 1 (by decide) (hts _ qw1557) (fun _ h9 => h9) rfl dX13_draw_40 ?_
  refine lv_iconst (v := 1) hx hb dX13_draw_43 (by decide) ?_
  refine lv_iadd hx hb dX13_draw_44 ?_
  refine va_put (D := (dC, dI)) (ci := 14) (v := .int ((p0w 0 1) + 1)) (ty := .int) (C := RX13) (T := TX13) (N := 13) hx hb hts i_X13 tyX13 tyX13_ok nmX13 hown hK hP hD hS 0 rfl rfl 1 (by decide) (hts _ qw1557) (fun _ h9 => h9) rfl (by decide +kernel) rfl rfl (Nat.le_of_ble_eq_true rfl) dX13_draw_45 (fun H locs hP hD hS => ?_)
  have hP : va_P (dC, dI) cls (List.flatten ([[((p0a 0), .inr (14, [.ref xv, .int ((upw p0w 0 1 ((p0w 0 1) + 1)) 0 1), .int ((upw p0w 0 1 ((p0w 0 1) + 1)) 0 2), .int ((upw p0w 0 1 ((p0w 0 1) + 1)) 0 3), .int ((upw p0w 0 1 ((p0w 0 1) + 1)) 0 4), .ref (p0a 6), .null, .ref (p0a 8), .ref (p0a 9), .int ((upw p0w 0 1 ((p0w 0 1) + 1)) 0 9), .int ((upw p0w 0 1 ((p0w 0 1) + 1)) 0 10), .int ((upw p0w 0 1 ((p0w 0 1) + 1)) 0 11), .int ((upw p0w 0 1 ((p0w 0 1) + 1)) 0 12)]))]] : List va_W)) H := hP
  have hD : va_D A (List.flatten ([[((p0a 0), .inr (14, [.ref xv, .int ((upw p0w 0 1 ((p0w 0 1) + 1)) 0 1), .int ((upw p0w 0 1 ((p0w 0 1) + 1)) 0 2), .int ((upw p0w 0 1 ((p0w 0 1) + 1)) 0 3), .int ((upw p0w 0 1 ((p0w 0 1) + 1)) 0 4), .ref (p0a 6), .null, .ref (p0a 8), .ref (p0a 9), .int ((upw p0w 0 1 ((p0w 0 1) + 1)) 0 9), .int ((upw p0w 0 1 ((p0w 0 1) + 1)) 0 10), .int ((upw p0w 0 1 ((p0w 0 1) + 1)) 0 11), .int ((upw p0w 0 1 ((p0w 0 1) + 1)) 0 12)]))]] : List va_W)) := hD
  obtain ⟨w5, ew5, hrun⟩ := let9 hrun
  rw [← ew5] at hP hD
  refine lv_iload_n hx hb dX13_draw_48 rfl (lv_at hl 0 rfl) ?_
  have ho9 : (o_3, w5) = o := Option.some.inj hrun
  have hP9 : va_P (dC, dI) cls (List.flatten ([[((p0a 0), .inr (14, [.ref xv, .int ((o.2) 0 1), .int ((o.2) 0 2), .int ((o.2) 0 3), .int ((o.2) 0 4), .ref (p0a 6), .null, .ref (p0a 8), .ref (p0a 9), .int ((o.2) 0 9), .int ((o.2) 0 10), .int ((o.2) 0 11), .int ((o.2) 0 12)]))]] : List va_W)) H := by first | exact hP | (rw [← ho9]; exact hP)
  have hD9 : va_D A (List.flatten ([[((p0a 0), .inr (14, [.ref xv, .int ((o.2) 0 1), .int ((o.2) 0 2), .int ((o.2) 0 3), .int ((o.2) 0 4), .ref (p0a 6), .null, .ref (p0a 8), .ref (p0a 9), .int ((o.2) 0 9), .int ((o.2) 0 10), .int ((o.2) 0 11), .int ((o.2) 0 12)]))]] : List va_W)) := by first | exact hD | (rw [← ho9]; exact hD)
  subst hQ
  exact W.iret (v := o_3) hx hb hr (fun t ht hW => ⟨⟨o_3, (), rfl, (by rw [← ho9]), ⟨by rw [ht]; exact hP9, va_K.moved hW.alike hK, hD9⟩⟩, hS.F ht⟩) hS.2.2 dX13_draw_49
