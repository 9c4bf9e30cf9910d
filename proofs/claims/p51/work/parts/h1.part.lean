abbrev cX13_part : ByteArray := prog_15_method_3_code
def yX13_part : MethodName := ⟨RX13, "part", "(I)LGearboxLaw$Part;"⟩
abbrev cX14_init : ByteArray := prog_16_method_1_code
def yX14_init : MethodName := ⟨RX14, "<init>", "(IILGearboxLaw$Part;LGearboxLaw$Part;)V"⟩
theorem dX13_part_0 : decode cX13_part 0 = .ok (.aload_n 0, 1) := by decide +kernel
theorem dX13_part_1 : decode cX13_part 1 = .ok (.bipush 10, 2) := by decide +kernel
theorem dX13_part_3 : decode cX13_part 3 = .ok (.invokevirtual 33, 3) := by decide +kernel
theorem dX13_part_6 : decode cX13_part 6 = .ok (.istore_n 2, 1) := by decide +kernel
theorem dX13_part_7 : decode cX13_part 7 = .ok (.aload_n 0, 1) := by decide +kernel
theorem dX13_part_8 : decode cX13_part 8 = .ok (.dup, 1) := by decide +kernel
theorem dX13_part_9 : decode cX13_part 9 = .ok (.getfield 7, 3) := by decide +kernel
theorem dX13_part_12 : decode cX13_part 12 = .ok (.iconst 1, 1) := by decide +kernel
theorem dX13_part_13 : decode cX13_part 13 = .ok (.isub, 1) := by decide +kernel
theorem dX13_part_14 : decode cX13_part 14 = .ok (.putfield 7, 3) := by decide +kernel
theorem dX13_part_17 : decode cX13_part 17 = .ok (.iload_n 1, 1) := by decide +kernel
theorem dX13_part_18 : decode cX13_part 18 = .ok (.ifCond .eq 15, 3) := by decide +kernel
theorem dX13_part_21 : decode cX13_part 21 = .ok (.aload_n 0, 1) := by decide +kernel
theorem dX13_part_22 : decode cX13_part 22 = .ok (.getfield 7, 3) := by decide +kernel
theorem dX13_part_25 : decode cX13_part 25 = .ok (.ifCond .lt 8, 3) := by decide +kernel
theorem dX13_part_28 : decode cX13_part 28 = .ok (.iload_n 2, 1) := by decide +kernel
theorem dX13_part_29 : decode cX13_part 29 = .ok (.iconst 2, 1) := by decide +kernel
theorem dX13_part_30 : decode cX13_part 30 = .ok (.if_icmp .ge 62, 3) := by decide +kernel
theorem dX13_part_33 : decode cX13_part 33 = .ok (.iload_n 2, 1) := by decide +kernel
theorem dX13_part_34 : decode cX13_part 34 = .ok (.iconst 2, 1) := by decide +kernel
theorem dX13_part_35 : decode cX13_part 35 = .ok (.irem, 1) := by decide +kernel
theorem dX13_part_36 : decode cX13_part 36 = .ok (.ifCond .ne 40, 3) := by decide +kernel
theorem dX13_part_39 : decode cX13_part 39 = .ok (.new 67, 3) := by decide +kernel
theorem dX13_part_42 : decode cX13_part 42 = .ok (.dup, 1) := by decide +kernel
theorem dX13_part_43 : decode cX13_part 43 = .ok (.iconst 0, 1) := by decide +kernel
theorem dX13_part_44 : decode cX13_part 44 = .ok (.aload_n 0, 1) := by decide +kernel
theorem dX13_part_45 : decode cX13_part 45 = .ok (.iconst 4, 1) := by decide +kernel
theorem dX13_part_46 : decode cX13_part 46 = .ok (.invokevirtual 33, 3) := by decide +kernel
theorem dX13_part_49 : decode cX13_part 49 = .ok (.ifCond .ne 13, 3) := by decide +kernel
theorem dX13_part_52 : decode cX13_part 52 = .ok (.aload_n 0, 1) := by decide +kernel
theorem dX13_part_53 : decode cX13_part 53 = .ok (.sipush 5000, 3) := by decide +kernel
theorem dX13_part_56 : decode cX13_part 56 = .ok (.invokevirtual 33, 3) := by decide +kernel
theorem dX13_part_59 : decode cX13_part 59 = .ok (.goto 9, 3) := by decide +kernel
theorem dX13_part_62 : decode cX13_part 62 = .ok (.aload_n 0, 1) := by decide +kernel
theorem dX13_part_63 : decode cX13_part 63 = .ok (.bipush 9, 2) := by decide +kernel
theorem dX13_part_65 : decode cX13_part 65 = .ok (.invokevirtual 33, 3) := by decide +kernel
theorem dX13_part_68 : decode cX13_part 68 = .ok (.aconst_null, 1) := by decide +kernel
theorem dX13_part_69 : decode cX13_part 69 = .ok (.aconst_null, 1) := by decide +kernel
theorem dX13_part_70 : decode cX13_part 70 = .ok (.invokespecial 69, 3) := by decide +kernel
theorem dX13_part_73 : decode cX13_part 73 = .ok (.goto 18, 3) := by decide +kernel
theorem dX13_part_76 : decode cX13_part 76 = .ok (.new 67, 3) := by decide +kernel
theorem dX13_part_79 : decode cX13_part 79 = .ok (.dup, 1) := by decide +kernel
theorem dX13_part_80 : decode cX13_part 80 = .ok (.iconst 1, 1) := by decide +kernel
theorem dX13_part_81 : decode cX13_part 81 = .ok (.aload_n 0, 1) := by decide +kernel
theorem dX13_part_82 : decode cX13_part 82 = .ok (.iconst 4, 1) := by decide +kernel
theorem dX13_part_83 : decode cX13_part 83 = .ok (.invokevirtual 33, 3) := by decide +kernel
theorem dX13_part_86 : decode cX13_part 86 = .ok (.aconst_null, 1) := by decide +kernel
theorem dX13_part_87 : decode cX13_part 87 = .ok (.aconst_null, 1) := by decide +kernel
theorem dX13_part_88 : decode cX13_part 88 = .ok (.invokespecial 69, 3) := by decide +kernel
theorem dX13_part_91 : decode cX13_part 91 = .ok (.areturn, 1) := by decide +kernel
theorem dX13_part_92 : decode cX13_part 92 = .ok (.iload_n 2, 1) := by decide +kernel
theorem dX13_part_93 : decode cX13_part 93 = .ok (.iconst 2, 1) := by decide +kernel
theorem dX13_part_94 : decode cX13_part 94 = .ok (.if_icmp .ne 27, 3) := by decide +kernel
theorem dX13_part_97 : decode cX13_part 97 = .ok (.new 67, 3) := by decide +kernel
theorem dX13_part_100 : decode cX13_part 100 = .ok (.dup, 1) := by decide +kernel
theorem dX13_part_101 : decode cX13_part 101 = .ok (.iconst 3, 1) := by decide +kernel
theorem dX13_part_102 : decode cX13_part 102 = .ok (.aload_n 0, 1) := by decide +kernel
theorem dX13_part_103 : decode cX13_part 103 = .ok (.iconst 2, 1) := by decide +kernel
theorem dX13_part_104 : decode cX13_part 104 = .ok (.invokevirtual 33, 3) := by decide +kernel
theorem dX13_part_107 : decode cX13_part 107 = .ok (.iadd, 1) := by decide +kernel
theorem dX13_part_108 : decode cX13_part 108 = .ok (.iconst 0, 1) := by decide +kernel
theorem dX13_part_109 : decode cX13_part 109 = .ok (.aload_n 0, 1) := by decide +kernel
theorem dX13_part_110 : decode cX13_part 110 = .ok (.iload_n 1, 1) := by decide +kernel
theorem dX13_part_111 : decode cX13_part 111 = .ok (.iconst 1, 1) := by decide +kernel
theorem dX13_part_112 : decode cX13_part 112 = .ok (.isub, 1) := by decide +kernel
theorem dX13_part_113 : decode cX13_part 113 = .ok (.invokevirtual 72, 3) := by decide +kernel
theorem dX13_part_116 : decode cX13_part 116 = .ok (.aconst_null, 1) := by decide +kernel
theorem dX13_part_117 : decode cX13_part 117 = .ok (.invokespecial 69, 3) := by decide +kernel
theorem dX13_part_120 : decode cX13_part 120 = .ok (.areturn, 1) := by decide +kernel
theorem dX13_part_121 : decode cX13_part 121 = .ok (.iload_n 2, 1) := by decide +kernel
theorem dX13_part_122 : decode cX13_part 122 = .ok (.iconst 3, 1) := by decide +kernel
theorem dX13_part_123 : decode cX13_part 123 = .ok (.if_icmp .ne 22, 3) := by decide +kernel
theorem dX13_part_126 : decode cX13_part 126 = .ok (.new 67, 3) := by decide +kernel
theorem dX13_part_129 : decode cX13_part 129 = .ok (.dup, 1) := by decide +kernel
theorem dX13_part_130 : decode cX13_part 130 = .ok (.bipush 7, 2) := by decide +kernel
theorem dX13_part_132 : decode cX13_part 132 = .ok (.iconst 0, 1) := by decide +kernel
theorem dX13_part_133 : decode cX13_part 133 = .ok (.aload_n 0, 1) := by decide +kernel
theorem dX13_part_134 : decode cX13_part 134 = .ok (.iload_n 1, 1) := by decide +kernel
theorem dX13_part_135 : decode cX13_part 135 = .ok (.iconst 1, 1) := by decide +kernel
theorem dX13_part_136 : decode cX13_part 136 = .ok (.isub, 1) := by decide +kernel
theorem dX13_part_137 : decode cX13_part 137 = .ok (.invokevirtual 72, 3) := by decide +kernel
theorem dX13_part_140 : decode cX13_part 140 = .ok (.aconst_null, 1) := by decide +kernel
theorem dX13_part_141 : decode cX13_part 141 = .ok (.invokespecial 69, 3) := by decide +kernel
theorem dX13_part_144 : decode cX13_part 144 = .ok (.areturn, 1) := by decide +kernel
theorem dX13_part_145 : decode cX13_part 145 = .ok (.iload_n 2, 1) := by decide +kernel
theorem dX13_part_146 : decode cX13_part 146 = .ok (.iconst 4, 1) := by decide +kernel
theorem dX13_part_147 : decode cX13_part 147 = .ok (.if_icmp .ne 54, 3) := by decide +kernel
theorem dX13_part_150 : decode cX13_part 150 = .ok (.aload_n 0, 1) := by decide +kernel
theorem dX13_part_151 : decode cX13_part 151 = .ok (.getfield 76, 3) := by decide +kernel
theorem dX13_part_154 : decode cX13_part 154 = .ok (.bipush 8, 2) := by decide +kernel
theorem dX13_part_156 : decode cX13_part 156 = .ok (.if_icmp .ge 45, 3) := by decide +kernel
theorem dX13_part_159 : decode cX13_part 159 = .ok (.aload_n 0, 1) := by decide +kernel
theorem dX13_part_160 : decode cX13_part 160 = .ok (.dup, 1) := by decide +kernel
theorem dX13_part_161 : decode cX13_part 161 = .ok (.getfield 76, 3) := by decide +kernel
theorem dX13_part_164 : decode cX13_part 164 = .ok (.iconst 1, 1) := by decide +kernel
theorem dX13_part_165 : decode cX13_part 165 = .ok (.iadd, 1) := by decide +kernel
theorem dX13_part_166 : decode cX13_part 166 = .ok (.putfield 76, 3) := by decide +kernel
theorem dX13_part_169 : decode cX13_part 169 = .ok (.aload_n 0, 1) := by decide +kernel
theorem dX13_part_170 : decode cX13_part 170 = .ok (.iload_n 1, 1) := by decide +kernel
theorem dX13_part_171 : decode cX13_part 171 = .ok (.iconst 1, 1) := by decide +kernel
theorem dX13_part_172 : decode cX13_part 172 = .ok (.isub, 1) := by decide +kernel
theorem dX13_part_173 : decode cX13_part 173 = .ok (.invokevirtual 72, 3) := by decide +kernel
theorem dX13_part_176 : decode cX13_part 176 = .ok (.astore_n 3, 1) := by decide +kernel
theorem dX13_part_177 : decode cX13_part 177 = .ok (.new 67, 3) := by decide +kernel
theorem dX13_part_180 : decode cX13_part 180 = .ok (.dup, 1) := by decide +kernel
theorem dX13_part_181 : decode cX13_part 181 = .ok (.iconst 5, 1) := by decide +kernel
theorem dX13_part_182 : decode cX13_part 182 = .ok (.aload_n 0, 1) := by decide +kernel
theorem dX13_part_183 : decode cX13_part 183 = .ok (.iconst 2, 1) := by decide +kernel
theorem dX13_part_184 : decode cX13_part 184 = .ok (.invokevirtual 33, 3) := by decide +kernel
theorem dX13_part_187 : decode cX13_part 187 = .ok (.iadd, 1) := by decide +kernel
theorem dX13_part_188 : decode cX13_part 188 = .ok (.iconst 0, 1) := by decide +kernel
theorem dX13_part_189 : decode cX13_part 189 = .ok (.aload_n 3, 1) := by decide +kernel
theorem dX13_part_190 : decode cX13_part 190 = .ok (.aload_n 0, 1) := by decide +kernel
theorem dX13_part_191 : decode cX13_part 191 = .ok (.iload_n 1, 1) := by decide +kernel
theorem dX13_part_192 : decode cX13_part 192 = .ok (.iconst 1, 1) := by decide +kernel
theorem dX13_part_193 : decode cX13_part 193 = .ok (.isub, 1) := by decide +kernel
theorem dX13_part_194 : decode cX13_part 194 = .ok (.invokevirtual 72, 3) := by decide +kernel
theorem dX13_part_197 : decode cX13_part 197 = .ok (.invokespecial 69, 3) := by decide +kernel
theorem dX13_part_200 : decode cX13_part 200 = .ok (.areturn, 1) := by decide +kernel
theorem dX13_part_201 : decode cX13_part 201 = .ok (.iconst 1, 1) := by decide +kernel
theorem dX13_part_202 : decode cX13_part 202 = .ok (.aload_n 0, 1) := by decide +kernel
theorem dX13_part_203 : decode cX13_part 203 = .ok (.bipush 16, 2) := by decide +kernel
theorem dX13_part_205 : decode cX13_part 205 = .ok (.invokevirtual 33, 3) := by decide +kernel
theorem dX13_part_208 : decode cX13_part 208 = .ok (.iadd, 1) := by decide +kernel
theorem dX13_part_209 : decode cX13_part 209 = .ok (.istore_n 3, 1) := by decide +kernel
theorem dX13_part_210 : decode cX13_part 210 = .ok (.aload_n 0, 1) := by decide +kernel
theorem dX13_part_211 : decode cX13_part 211 = .ok (.iload_n 1, 1) := by decide +kernel
theorem dX13_part_212 : decode cX13_part 212 = .ok (.iconst 1, 1) := by decide +kernel
theorem dX13_part_213 : decode cX13_part 213 = .ok (.isub, 1) := by decide +kernel
theorem dX13_part_214 : decode cX13_part 214 = .ok (.invokevirtual 72, 3) := by decide +kernel
theorem dX13_part_217 : decode cX13_part 217 = .ok (.astore 4, 2) := by decide +kernel
theorem dX13_part_219 : decode cX13_part 219 = .ok (.iload_n 3, 1) := by decide +kernel
theorem dX13_part_220 : decode cX13_part 220 = .ok (.iconst 4, 1) := by decide +kernel
theorem dX13_part_221 : decode cX13_part 221 = .ok (.if_icmp .eq 8, 3) := by decide +kernel
theorem dX13_part_224 : decode cX13_part 224 = .ok (.iload_n 3, 1) := by decide +kernel
theorem dX13_part_225 : decode cX13_part 225 = .ok (.iconst 5, 1) := by decide +kernel
theorem dX13_part_226 : decode cX13_part 226 = .ok (.if_icmp .ne 11, 3) := by decide +kernel
theorem dX13_part_229 : decode cX13_part 229 = .ok (.aload_n 0, 1) := by decide +kernel
theorem dX13_part_230 : decode cX13_part 230 = .ok (.iconst 5, 1) := by decide +kernel
theorem dX13_part_231 : decode cX13_part 231 = .ok (.invokevirtual 33, 3) := by decide +kernel
theorem dX13_part_234 : decode cX13_part 234 = .ok (.ifCond .ne 22, 3) := by decide +kernel
theorem dX13_part_237 : decode cX13_part 237 = .ok (.new 67, 3) := by decide +kernel
theorem dX13_part_240 : decode cX13_part 240 = .ok (.dup, 1) := by decide +kernel
theorem dX13_part_241 : decode cX13_part 241 = .ok (.iconst 2, 1) := by decide +kernel
theorem dX13_part_242 : decode cX13_part 242 = .ok (.iload_n 3, 1) := by decide +kernel
theorem dX13_part_243 : decode cX13_part 243 = .ok (.aload 4, 2) := by decide +kernel
theorem dX13_part_245 : decode cX13_part 245 = .ok (.aload_n 0, 1) := by decide +kernel
theorem dX13_part_246 : decode cX13_part 246 = .ok (.iload_n 1, 1) := by decide +kernel
theorem dX13_part_247 : decode cX13_part 247 = .ok (.iconst 1, 1) := by decide +kernel
theorem dX13_part_248 : decode cX13_part 248 = .ok (.isub, 1) := by decide +kernel
theorem dX13_part_249 : decode cX13_part 249 = .ok (.invokevirtual 72, 3) := by decide +kernel
theorem dX13_part_252 : decode cX13_part 252 = .ok (.invokespecial 69, 3) := by decide +kernel
theorem dX13_part_255 : decode cX13_part 255 = .ok (.areturn, 1) := by decide +kernel
theorem dX13_part_256 : decode cX13_part 256 = .ok (.new 67, 3) := by decide +kernel
theorem dX13_part_259 : decode cX13_part 259 = .ok (.dup, 1) := by decide +kernel
theorem dX13_part_260 : decode cX13_part 260 = .ok (.iconst 2, 1) := by decide +kernel
theorem dX13_part_261 : decode cX13_part 261 = .ok (.iload_n 3, 1) := by decide +kernel
theorem dX13_part_262 : decode cX13_part 262 = .ok (.aload 4, 2) := by decide +kernel
theorem dX13_part_264 : decode cX13_part 264 = .ok (.new 67, 3) := by decide +kernel
theorem dX13_part_267 : decode cX13_part 267 = .ok (.dup, 1) := by decide +kernel
theorem dX13_part_268 : decode cX13_part 268 = .ok (.iconst 0, 1) := by decide +kernel
theorem dX13_part_269 : decode cX13_part 269 = .ok (.iconst 1, 1) := by decide +kernel
theorem dX13_part_270 : decode cX13_part 270 = .ok (.aload_n 0, 1) := by decide +kernel
theorem dX13_part_271 : decode cX13_part 271 = .ok (.bipush 9, 2) := by decide +kernel
theorem dX13_part_273 : decode cX13_part 273 = .ok (.invokevirtual 33, 3) := by decide +kernel
theorem dX13_part_276 : decode cX13_part 276 = .ok (.iadd, 1) := by decide +kernel
theorem dX13_part_277 : decode cX13_part 277 = .ok (.aconst_null, 1) := by decide +kernel
theorem dX13_part_278 : decode cX13_part 278 = .ok (.aconst_null, 1) := by decide +kernel
theorem dX13_part_279 : decode cX13_part 279 = .ok (.invokespecial 69, 3) := by decide +kernel
theorem dX13_part_282 : decode cX13_part 282 = .ok (.invokespecial 69, 3) := by decide +kernel
theorem dX13_part_285 : decode cX13_part 285 = .ok (.areturn, 1) := by decide +kernel
theorem dX14_init_0 : decode cX14_init 0 = .ok (.aload_n 0, 1) := by decide +kernel
theorem dX14_init_1 : decode cX14_init 1 = .ok (.invokespecial 1, 3) := by decide +kernel
theorem dX14_init_4 : decode cX14_init 4 = .ok (.aload_n 0, 1) := by decide +kernel
theorem dX14_init_5 : decode cX14_init 5 = .ok (.iload_n 1, 1) := by decide +kernel
theorem dX14_init_6 : decode cX14_init 6 = .ok (.putfield 7, 3) := by decide +kernel
theorem dX14_init_9 : decode cX14_init 9 = .ok (.aload_n 0, 1) := by decide +kernel
theorem dX14_init_10 : decode cX14_init 10 = .ok (.iload_n 2, 1) := by decide +kernel
theorem dX14_init_11 : decode cX14_init 11 = .ok (.putfield 13, 3) := by decide +kernel
theorem dX14_init_14 : decode cX14_init 14 = .ok (.aload_n 0, 1) := by decide +kernel
theorem dX14_init_15 : decode cX14_init 15 = .ok (.aload_n 3, 1) := by decide +kernel
theorem dX14_init_16 : decode cX14_init 16 = .ok (.putfield 16, 3) := by decide +kernel
theorem dX14_init_19 : decode cX14_init 19 = .ok (.aload_n 0, 1) := by decide +kernel
theorem dX14_init_20 : decode cX14_init 20 = .ok (.aload 4, 2) := by decide +kernel
theorem dX14_init_22 : decode cX14_init 22 = .ok (.putfield 20, 3) := by decide +kernel
theorem dX14_init_25 : decode cX14_init 25 = .ok (.return_, 1) := by decide +kernel
theorem qw1562 : Cond.code yX13_draw cX13_draw 3 (Option.some Jvm.ClassFile.FieldType.int) ∈ gw := mq_10 (i := 107) rfl rfl
theorem qw1563 : Cond.methodLink RX13 33 yX13_draw ∈ gw := mq_10 (i := 104) rfl rfl
theorem qw1564 : Cond.instanceMethod yX13_draw ∈ gw := mq_10 (i := 105) rfl rfl
theorem qw1565 : Cond.selects RX13 yX13_draw yX13_draw ∈ gw := mq_10 (i := 106) rfl rfl
theorem qw1566 : Cond.initialized RX13 ∈ gw := mq_1 (i := 1) rfl rfl
theorem qw1567 : Cond.fieldLink RX13 7 "GearboxLaw$Made" "room" "I" ∈ gw := mq_10 (i := 223) rfl rfl
theorem qw1568 : Cond.classLink RX13 67 RX14 ∈ gw := mq_10 (i := 157) rfl rfl
theorem qw1569 : Cond.instantiable RX14 4 ∈ gw := mq_10 (i := 158) rfl rfl
theorem qw1570 : Cond.initialized RX14 ∈ gw := mq_1 (i := 7) rfl rfl
theorem qw1571 : Cond.methodLink RX14 1 objectInit ∈ gw := mq_10 (i := 162) rfl rfl
theorem qw1572 : Cond.fieldLink RX14 7 "GearboxLaw$Part" "sort" "I" ∈ gw := mq_10 (i := 163) rfl rfl
theorem qw1573 : Cond.fieldLink RX14 13 "GearboxLaw$Part" "n" "I" ∈ gw := mq_10 (i := 165) rfl rfl
theorem qw1574 : Cond.fieldLink RX14 16 "GearboxLaw$Part" "left" "LGearboxLaw$Part;" ∈ gw := mq_10 (i := 167) rfl rfl
theorem qw1575 : Cond.fieldLink RX14 20 "GearboxLaw$Part" "right" "LGearboxLaw$Part;" ∈ gw := mq_10 (i := 169) rfl rfl
theorem qw1576 : Cond.code yX14_init cX14_init 5 (Option.none : Option Jvm.ClassFile.FieldType) ∈ gw := mq_10 (i := 161) rfl rfl
theorem qw1577 : Cond.methodLink RX13 69 yX14_init ∈ gw := mq_10 (i := 159) rfl rfl
theorem qw1578 : Cond.instanceMethod yX14_init ∈ gw := mq_10 (i := 160) rfl rfl
theorem qw1579 : Cond.code yX13_part cX13_part 5 (Option.some (Jvm.ClassFile.FieldType.object "GearboxLaw$Part")) ∈ gw := mq_10 (i := 156) rfl rfl
theorem qw1580 : Cond.methodLink RX13 72 yX13_part ∈ gw := mq_10 (i := 153) rfl rfl
theorem qw1581 : Cond.instanceMethod yX13_part ∈ gw := mq_10 (i := 154) rfl rfl
theorem qw1582 : Cond.selects RX13 yX13_part yX13_part ∈ gw := mq_10 (i := 155) rfl rfl
theorem qw1583 : Cond.fieldLink RX13 76 "GearboxLaw$Made" "forks" "I" ∈ gw := mq_10 (i := 225) rfl rfl
/-! trees of parts: what they print -/
section RV
variable {p : Program} {l : Launch} {e : Env} {R : Room} {s : State} {m : MethodId} {args : Array Value} {below : List Frame} {meth : Method} {c : Code} {H : Heap} {locs : List Loc} {cells slots : Nat}
/-- a call while up to twelve words wait -/
theorem sx_runV12 {y : MethodName} {bytes cc : ByteArray} {maxL nL mc ms n index : Nat} {ret : Option FieldType} {ws : List Cond} {rm : Room} {Pc : Array Value → State → Prop} {Qc : Array Value → State → Outcome → State → Prop} {free : Addr → Prop} {Ts : List Cond} {own C : String} {b : Addr} {As rest : List Value} {g : JFrame}
    (S : CallFix p m c cc nL s args Ts own) (hM : Met l y ws rm Pc Qc mc ms free) (cw : CallW R s args own C index y bytes maxL ret ws rm mc ms n) (hp : PreV s H C b Pc As)
    (hg : g.method = m) (hn : As.length = n) (hsize : g.locals.size = nL) (hstack : g.stack = As.reverse ++ .ref b :: rest) (hW : 2 * g.monitorRoom + (rest.map fun v => v.category).sum ≤ 12) (hlo : 12 + (maxL + 11) + rm.locals ≤ R.locals) (hdg : decode cc g.pc = .ok (.invokevirtual index, 3)) (hf : cells + mc ≤ R.cells ∧ slots + ms ≤ R.slots) :
    va_Run p l e R s m args below meth c H locs cells slots mc ms g rest (Qc (Value.ref b :: As).toArray) free := by
  have hK : Back l R p e below s args y 3 12 (PreOf R mc ms Pc) (PostOf Qc mc ms free) := by
    obtain ⟨hrc, hrs, hfr, -, hws, hcw, -, hini, -⟩ := cw.1
    exact back_of (bytes := bytes) (maxL := maxL) (ret := ret) hM hp.1 hrc hrs hfr hlo hws hcw (fun a' U hW => word_at hW (Or.inl (by first | rfl | simp [Cond.onTables, Cond.keeps, Cond.steady])) hini)
  obtain ⟨⟨-, -, -, -, -, -, hcode, -, hy, hlen, hl⟩, hin, hse⟩ := cw
  obtain ⟨hx, hb, hml, ho, -⟩ := S
  obtain ⟨-, ⟨cellB, hcB, hoB, hclB⟩, hPc⟩ := hp
  intro T hT X
  obtain ⟨v, vm₁, ⟨U', l2, c2, s2⟩, hW₁, X', ⟨g', mk, t, L, e1, e2, hq, h1, hL, h2, h3⟩, st⟩ := callV X hx (C := C) (bytes := bytes) (maxL := maxL) (ret := ret) ho hl hin hse hcode hy hK (by rw [hT]; exact hcB) hoB hclB hg (hsize.trans hml.symm) (argsL := As) (rest := rest) (fun sig h => hn.trans (hlen sig h)) hstack hW (by rw [hb]; exact hdg)
    (fun vm₁ hW₁ => ⟨hf.1, hf.2, hPc (T.setVm vm₁) hT hW₁⟩)
  dsimp only [Pt.U, Pt.locs, Pt.cells, Pt.slots] at X' e1 e2 h1 h2 h3 st
  subst h1; subst h2; subst h3
  exact ⟨v, (T.setVm vm₁).calling g' mk (Value.ref b :: As).toArray, t, U', L, hT, X', hL, e1, e2, hq, st⟩
theorem lv_room12 {pc : Nat} {ls : Array Slot} {rest st : List Value} (h : (st.map fun v => v.category).sum ≤ 12) : 2 * (F0 m pc ls rest).monitorRoom + (st.map fun v => v.category).sum ≤ 12 := by
  show 2 * 0 + _ ≤ 12
  omega
end RV
theorem vP_new {D : va_G} {cl : List vw_C} {L : List va_W} {H : Heap} {q : Nat × va_E} (h : va_P D cl (List.flatten L ++ [q]) H) : va_P D cl (List.flatten ([q] :: L)) H := vP_perm h (List.perm_append_comm)
theorem vD_new {A : Nat → Prop} {L : List va_W} {q : Nat × va_E} (h : va_D A (List.flatten L ++ [q])) : va_D A (List.flatten ([q] :: L)) := vD_perm h (List.perm_append_comm)
theorem fl_mem {α : Type} {L : List (List α)} {a : List α} (i : Nat) (h : L[i]? = some a) {x : α} (hx : x ∈ a) : x ∈ List.flatten L := List.mem_flatten.mpr ⟨a, List.mem_of_getElem? h, hx⟩
theorem fl_two {α : Type} {m : List α} {L : List (List α)} : List.flatten [m, List.flatten L] = List.flatten (m :: L) := by simp
def nmB (n : Int32) : List Int32 := mx_nm (nn n)
def opB (n : Int32) : List Int32 := mx_op (nn n)
def dgB (n : Int32) : List Int32 := mp_d (nn n)
def pk0 (s n : Int32) : Bool := decide (s = 0 ∧ 0 ≤ n ∧ n < 5000 ∨ s = 1 ∧ 0 ≤ n ∧ n < 4)
def pk1 (s _n : Int32) : Bool := decide (s = 3 ∨ s = 4 ∨ s = 7)
def pk2 (s n : Int32) : Bool := decide (s = 2 ∧ 1 ≤ n ∧ n ≤ 16 ∨ s = 5 ∨ s = 6)
def pb0 (s n : Int32) : List Int32 := if s = 0 then dgB n else nmB n
def pb1 (s _n : Int32) (b : List Int32) : List Int32 := if s = 7 then [91] ++ b ++ [93] else (if s = 3 then [40, 45] else [40, 33]) ++ b ++ [41]
def pb2 (s n : Int32) (b c : List Int32) : List Int32 := [40] ++ b ++ (if s = 2 then opB n else if s = 5 then [38, 38] else [124, 124]) ++ c ++ [41]
def pnE (s n : Int32) (l r : Value) : va_E := .inr (16, [.int s, .int n, l, r])
/-- a part at r prints bs -/
def ph9 (W : va_W) : Nat → Nat → List Int32 → Prop
  | 0, _, _ => False
  | d + 1, r, bs => (∃ s n, (r, pnE s n .null .null) ∈ W ∧ pk0 s n = true ∧ bs = pb0 s n) ∨ (∃ s n a b, (r, pnE s n (.ref a) .null) ∈ W ∧ pk1 s n = true ∧ ph9 W d a b ∧ bs = pb1 s n b) ∨ (∃ s n a c b e, (r, pnE s n (.ref a) (.ref c)) ∈ W ∧ pk2 s n = true ∧ ph9 W d a b ∧ ph9 W d c e ∧ bs = pb2 s n b e)
theorem ph9_m {W W' : va_W} (hW : ∀ x ∈ W, x ∈ W') : ∀ {d r : Nat} {bs : List Int32}, ph9 W d r bs → ph9 W' d r bs := by
  intro d
  induction d with
  | zero => intro r bs h; exact h
  | succ d ih =>
    intro r bs h
    rcases h with ⟨s, n, h1, h2, h3⟩ | ⟨s, n, a, b, h1, h2, h3, h4⟩ | ⟨s, n, a, c, b, e, h1, h2, h3, h4, h5⟩
    · exact Or.inl ⟨s, n, hW _ h1, h2, h3⟩
    · exact Or.inr (Or.inl ⟨s, n, a, b, hW _ h1, h2, ih h3, h4⟩)
    · exact Or.inr (Or.inr ⟨s, n, a, c, b, e, hW _ h1, h2, ih h3, ih h4, h5⟩)
theorem ph_0 {W : va_W} {d r : Nat} {s n : Int32} (h1 : (r, pnE s n .null .null) ∈ W) (h2 : pk0 s n = true) : ph9 W (d + 1) r (pb0 s n) := Or.inl ⟨s, n, h1, h2, rfl⟩
theorem ph_1 {W : va_W} {d r a : Nat} {s n : Int32} {b : List Int32} (h1 : (r, pnE s n (.ref a) .null) ∈ W) (h2 : pk1 s n = true) (h3 : ph9 W d a b) : ph9 W (d + 1) r (pb1 s n b) := Or.inr (Or.inl ⟨s, n, a, b, h1, h2, h3, rfl⟩)
theorem ph_2 {W : va_W} {d r a c : Nat} {s n : Int32} {b e : List Int32} (h1 : (r, pnE s n (.ref a) (.ref c)) ∈ W) (h2 : pk2 s n = true) (h3 : ph9 W d a b) (h4 : ph9 W d c e) : ph9 W (d + 1) r (pb2 s n b e) := Or.inr (Or.inr ⟨s, n, a, c, b, e, h1, h2, h3, h4, rfl⟩)
/-- the right part is made at the same time -/
theorem ph_2L {W : va_W} {d r a c : Nat} {s n s2 n2 : Int32} {b : List Int32} (h1 : (r, pnE s n (.ref a) (.ref c)) ∈ W) (h2 : pk2 s n = true) (h3 : ph9 W d a b) (h4 : (c, pnE s2 n2 .null .null) ∈ W) (h5 : pk0 s2 n2 = true) : ph9 W (d + 1) r (pb2 s n b (pb0 s2 n2)) := by
  cases d with
  | zero => exact h3.elim
  | succ d => exact ph_2 h1 h2 h3 (ph_0 h4 h5)
set_option maxHeartbeats 16000000 in
set_option maxRecDepth 100000 in
theorem kX14_init_nn {zs : ZS} (l : Launch) (dC : Nat → ClassId) (dI : Nat → Nat → Nat) (p0h : Nat) (p1 : Int32) (p2 : Int32) (sz : Nat) : Met l yX14_init (wz yX14_init cX14_init 5 (Option.none : Option Jvm.ClassFile.FieldType)) ({ frames := 1, cells := 0, slots := 0, locals := 12 } : Room) (va_Pc [.ref p0h, .int p1, .int p2, .null, .null] (PRE zs dC dI (List.flatten ([[(p0h, .inr (16, [.int 0, .int 0, .null, .null]))]] : List va_W)) (List.flatten ([[]] : List (List (ClassId × FieldType)))) sz)) (va_Qv (fun (_ : Unit) => True) (fun _ t => POST dC dI (List.flatten ([[(p0h, .inr (16, [.int p1, .int p2, .null, .null]))]] : List va_W)) (List.flatten ([[]] : List (List (ClassId × FieldType)))) (va_A (List.flatten ([[(p0h, .inr (16, [.int 0, .int 0, .null, .null]))]] : List va_W)) sz) t) (va_A (List.flatten ([[(p0h, .inr (16, [.int 0, .int 0, .null, .null]))]] : List va_W)) sz)) 0 0 (va_A (List.flatten ([[(p0h, .inr (16, [.int 0, .int 0, .null, .null]))]] : List va_W)) sz) := by
  refine Met.ofW (cc := cX14_init) (maxL := 5) (ret := (Option.none : Option Jvm.ClassFile.FieldType)) (by decide) rfl ?_
  intro p e s m args below meth c s₁ B hml hv
  obtain ⟨rfl, hsz, hP, hK, hD0, hE⟩ := hv
  have hx := B.exec
  have hb := B.bytes
  have hr := B.returns
  have hin : meth.name = "<init>" := (name_of_methodNamed B.named B.method).1
  have hts0 := atoms_spec (ws := wz yX14_init cX14_init 5 (Option.none : Option Jvm.ClassFile.FieldType)) B.pre
  have hts : ∀ w ∈ gw, w.before _ s = true := fun w h => hts0 w (List.mem_cons_of_mem _ h)
  have hown : s.vm.findClass RX14 = some m.cls := findClass_of_methodNamed B.named
  subst hsz
  have hD := hD0.self (sz := s.heap.size)
  refine gQ9 ?_
  intro Q hQ
  generalize hAe : va_A (List.flatten ([[(p0h, .inr (16, [.int 0, .int 0, .null, .null]))]] : List va_W)) s.heap.size = A at hD hE hQ
  have hA : ∀ q : Nat, s.heap.size ≤ q → A q := fun q h => by rw [← hAe]; exact Or.inr h
  have hS : va_S A s.heap s.heap [] := va_S.rf
  have hP : va_P (dC, dI) cls (List.flatten ([[(p0h, .inr (16, [.int 0, .int 0, .null, .null]))]] : List va_W)) s.heap := hP
  have hl := lv_entry ([.ref p0h, .int p1, .int p2, .null, .null]) (n := 5) (Nat.le_of_ble_eq_true rfl)
  rw [lg_entry_eq]
  generalize (lg_sl ([.ref p0h, .int p1, .int p2, .null, .null]) ++ List.replicate (5 - (lg_sl ([.ref p0h, .int p1, .int p2, .null, .null])).length) Slot.unset).toArray = ls at hl ⊢
  have hl : lv_has ls 5 [(0, .ref p0h), (1, .int p1), (2, .int p2), (3, .null), (4, .null)] := hl
  obtain ⟨H, hHe⟩ : ∃ H, H = s.heap := ⟨_, rfl⟩
  obtain ⟨locs, hle⟩ : ∃ locs : List Loc, locs = [] := ⟨_, rfl⟩
  rw [← hHe] at hP
  have hS : va_S A s.heap H locs := by rw [hHe, hle]; exact hS
  show W p l e ({ frames := 1, cells := 0, slots := 0, locals := 12 } : Room) s m ([.ref p0h, .int p1, .int p2, .null, .null] : List Value).toArray below meth c s.heap [] 0 0 Q (F0 m 0 ls [])
  rw [← hle]
  refine wH9 hHe ?_
  refine lv_aload_n hx hb dX14_init_0 rfl (lv_at hl 0 rfl) ?_
  refine W.objInit hx hb hown (hts _ qw1571) (hts _ qw1286) (hts _ qw_oi) rfl (by rw [hml]; exact hl.1) rfl dX14_init_1 (Nat.le_of_ble_eq_true rfl) (Nat.le_of_ble_eq_true rfl) ?_
  refine W.eq (g2 := F0 m 4 ls []) rfl ?_
  refine lv_aload_n hx hb dX14_init_4 rfl (lv_at hl 0 rfl) ?_
  refine lv_iload_n hx hb dX14_init_5 rfl (lv_at hl 1 rfl) ?_
  refine va_putF (D := (dC, dI)) (ci := 16) (v := .int p1) (ty := .int) (C := RX14) (T := TX14) (N := 4) hx hb hts i_X14 tyX14 tyX14_ok nmX14 hown hK hP hD hS 0 rfl rfl 0 (by decide) (hts _ qw1572) (fun _ h9 => h9) rfl hin rfl (by decide +kernel) rfl rfl (Nat.le_of_ble_eq_true rfl) dX14_init_6 (fun H locs hP hD hS => ?_)
  have hP : va_P (dC, dI) cls (List.flatten ([[(p0h, .inr (16, [.int p1, .int 0, .null, .null]))]] : List va_W)) H := hP
  have hD : va_D A (List.flatten ([[(p0h, .inr (16, [.int p1, .int 0, .null, .null]))]] : List va_W)) := hD
  refine lv_aload_n hx hb dX14_init_9 rfl (lv_at hl 0 rfl) ?_
  refine lv_iload_n hx hb dX14_init_10 rfl (lv_at hl 2 rfl) ?_
  refine va_putF (D := (dC, dI)) (ci := 16) (v := .int p2) (ty := .int) (C := RX14) (T := TX14) (N := 4) hx hb hts i_X14 tyX14 tyX14_ok nmX14 hown hK hP hD hS 0 rfl rfl 1 (by decide) (hts _ qw1573) (fun _ h9 => h9) rfl hin rfl (by decide +kernel) rfl rfl (Nat.le_of_ble_eq_true rfl) dX14_init_11 (fun H locs hP hD hS => ?_)
  have hP : va_P (dC, dI) cls (List.flatten ([[(p0h, .inr (16, [.int p1, .int p2, .null, .null]))]] : List va_W)) H := hP
  have hD : va_D A (List.flatten ([[(p0h, .inr (16, [.int p1, .int p2, .null, .null]))]] : List va_W)) := hD
  refine lv_aload_n hx hb dX14_init_14 rfl (lv_at hl 0 rfl) ?_
  refine lv_aload_nN hx hb dX14_init_15 rfl (lv_at hl 3 rfl) ?_
  refine va_putF (D := (dC, dI)) (ci := 16) (v := .null) (ty := .object "GearboxLaw$Part") (C := RX14) (T := TX14) (N := 4) hx hb hts i_X14 tyX14 tyX14_ok nmX14 hown hK hP hD hS 0 rfl rfl 2 (by decide) (hts _ qw1574) (fun _ h9 => h9) rfl hin rfl (by decide +kernel) rfl rfl (Nat.le_of_ble_eq_true rfl) dX14_init_16 (fun H locs hP hD hS => ?_)
  have hP : va_P (dC, dI) cls (List.flatten ([[(p0h, .inr (16, [.int p1, .int p2, .null, .null]))]] : List va_W)) H := hP
  have hD : va_D A (List.flatten ([[(p0h, .inr (16, [.int p1, .int p2, .null, .null]))]] : List va_W)) := hD
  refine lv_aload_n hx hb dX14_init_19 rfl (lv_at hl 0 rfl) ?_
  refine lv_aloadN hx hb dX14_init_20 (lv_at hl 4 rfl) ?_
  refine va_putF (D := (dC, dI)) (ci := 16) (v := .null) (ty := .object "GearboxLaw$Part") (C := RX14) (T := TX14) (N := 4) hx hb hts i_X14 tyX14 tyX14_ok nmX14 hown hK hP hD hS 0 rfl rfl 3 (by decide) (hts _ qw1575) (fun _ h9 => h9) rfl hin rfl (by decide +kernel) rfl rfl (Nat.le_of_ble_eq_true rfl) dX14_init_22 (fun H locs hP hD hS => ?_)
  have hP : va_P (dC, dI) cls (List.flatten ([[(p0h, .inr (16, [.int p1, .int p2, .null, .null]))]] : List va_W)) H := hP
  have hD : va_D A (List.flatten ([[(p0h, .inr (16, [.int p1, .int p2, .null, .null]))]] : List va_W)) := hD
  subst hQ
  exact W.vret hx hb hr (fun t ht hW => ⟨⟨(), rfl, trivial, by rw [ht]; exact hP, va_K.moved hW.alike hK, hD⟩, hS.F ht⟩) hS.2.2 dX14_init_25
set_option maxHeartbeats 16000000 in
set_option maxRecDepth 100000 in
theorem kX14_init_rn {zs : ZS} (l : Launch) (dC : Nat → ClassId) (dI : Nat → Nat → Nat) (p0h : Nat) (p1 : Int32) (p2 : Int32) (p3h : Nat) (sz : Nat) : Met l yX14_init (wz yX14_init cX14_init 5 (Option.none : Option Jvm.ClassFile.FieldType)) ({ frames := 1, cells := 0, slots := 0, locals := 12 } : Room) (va_Pc [.ref p0h, .int p1, .int p2, .ref p3h, .null] (PRE zs dC dI (List.flatten ([[(p0h, .inr (16, [.int 0, .int 0, .null, .null]))]] : List va_W)) (List.flatten ([[]] : List (List (ClassId × FieldType)))) sz)) (va_Qv (fun (_ : Unit) => True) (fun _ t => POST dC dI (List.flatten ([[(p0h, .inr (16, [.int p1, .int p2, .ref p3h, .null]))]] : List va_W)) (List.flatten ([[]] : List (List (ClassId × FieldType)))) (va_A (List.flatten ([[(p0h, .inr (16, [.int 0, .int 0, .null, .null]))]] : List va_W)) sz) t) (va_A (List.flatten ([[(p0h, .inr (16, [.int 0, .int 0, .null, .null]))]] : List va_W)) sz)) 0 0 (va_A (List.flatten ([[(p0h, .inr (16, [.int 0, .int 0, .null, .null]))]] : List va_W)) sz) := by
  refine Met.ofW (cc := cX14_init) (maxL := 5) (ret := (Option.none : Option Jvm.ClassFile.FieldType)) (by decide) rfl ?_
  intro p e s m args below meth c s₁ B hml hv
  obtain ⟨rfl, hsz, hP, hK, hD0, hE⟩ := hv
  have hx := B.exec
  have hb := B.bytes
  have hr := B.returns
  have hin : meth.name = "<init>" := (name_of_methodNamed B.named B.method).1
  have hts0 := atoms_spec (ws := wz yX14_init cX14_init 5 (Option.none : Option Jvm.ClassFile.FieldType)) B.pre
  have hts : ∀ w ∈ gw, w.before _ s = true := fun w h => hts0 w (List.mem_cons_of_mem _ h)
  have hown : s.vm.findClass RX14 = some m.cls := findClass_of_methodNamed B.named
  subst hsz
  have hD := hD0.self (sz := s.heap.size)
  refine gQ9 ?_
  intro Q hQ
  generalize hAe : va_A (List.flatten ([[(p0h, .inr (16, [.int 0, .int 0, .null, .null]))]] : List va_W)) s.heap.size = A at hD hE hQ
  have hA : ∀ q : Nat, s.heap.size ≤ q → A q := fun q h => by rw [← hAe]; exact Or.inr h
  have hS : va_S A s.heap s.heap [] := va_S.rf
  have hP : va_P (dC, dI) cls (List.flatten ([[(p0h, .inr (16, [.int 0, .int 0, .null, .null]))]] : List va_W)) s.heap := hP
  have hl := lv_entry ([.ref p0h, .int p1, .int p2, .ref p3h, .null]) (n := 5) (Nat.le_of_ble_eq_true rfl)
  rw [lg_entry_eq]
  generalize (lg_sl ([.ref p0h, .int p1, .int p2, .ref p3h, .null]) ++ List.replicate (5 - (lg_sl ([.ref p0h, .int p1, .int p2, .ref p3h, .null])).length) Slot.unset).toArray = ls at hl ⊢
  have hl : lv_has ls 5 [(0, .ref p0h), (1, .int p1), (2, .int p2), (3, .ref p3h), (4, .null)] := hl
  obtain ⟨H, hHe⟩ : ∃ H, H = s.heap := ⟨_, rfl⟩
  obtain ⟨locs, hle⟩ : ∃ locs : List Loc, locs = [] := ⟨_, rfl⟩
  rw [← hHe] at hP
  have hS : va_S A s.heap H locs := by rw [hHe, hle]; exact hS
  show W p l e ({ frames := 1, cells := 0, slots := 0, locals := 12 } : Room) s m ([.ref p0h, .int p1, .int p2, .ref p3h, .null] : List Value).toArray below meth c s.heap [] 0 0 Q (F0 m 0 ls [])
  rw [← hle]
  refine wH9 hHe ?_
  refine lv_aload_n hx hb dX14_init_0 rfl (lv_at hl 0 rfl) ?_
  refine W.objInit hx hb hown (hts _ qw1571) (hts _ qw1286) (hts _ qw_oi) rfl (by rw [hml]; exact hl.1) rfl dX14_init_1 (Nat.le_of_ble_eq_true rfl) (Nat.le_of_ble_eq_true rfl) ?_
  refine W.eq (g2 := F0 m 4 ls []) rfl ?_
  refine lv_aload_n hx hb dX14_init_4 rfl (lv_at hl 0 rfl) ?_
  refine lv_iload_n hx hb dX14_init_5 rfl (lv_at hl 1 rfl) ?_
  refine va_putF (D := (dC, dI)) (ci := 16) (v := .int p1) (ty := .int) (C := RX14) (T := TX14) (N := 4) hx hb hts i_X14 tyX14 tyX14_ok nmX14 hown hK hP hD hS 0 rfl rfl 0 (by decide) (hts _ qw1572) (fun _ h9 => h9) rfl hin rfl (by decide +kernel) rfl rfl (Nat.le_of_ble_eq_true rfl) dX14_init_6 (fun H locs hP hD hS => ?_)
  have hP : va_P (dC, dI) cls (List.flatten ([[(p0h, .inr (16, [.int p1, .int 0, .null, .null]))]] : List va_W)) H := hP
  have hD : va_D A (List.flatten ([[(p0h, .inr (16, [.int p1, .int 0, .null, .null]))]] : List va_W)) := hD
  refine lv_aload_n hx hb dX14_init_9 rfl (lv_at hl 0 rfl) ?_
  refine lv_iload_n hx hb dX14_init_10 rfl (lv_at hl 2 rfl) ?_
  refine va_putF (D := (dC, dI)) (ci := 16) (v := .int p2) (ty := .int) (C := RX14) (T := TX14) (N := 4) hx hb hts i_X14 tyX14 tyX14_ok nmX14 hown hK hP hD hS 0 rfl rfl 1 (by decide) (hts _ qw1573) (fun _ h9 => h9) rfl hin rfl (by decide +kernel) rfl rfl (Nat.le_of_ble_eq_true rfl) dX14_init_11 (fun H locs hP hD hS => ?_)
  have hP : va_P (dC, dI) cls (List.flatten ([[(p0h, .inr (16, [.int p1, .int p2, .null, .null]))]] : List va_W)) H := hP
  have hD : va_D A (List.flatten ([[(p0h, .inr (16, [.int p1, .int p2, .null, .null]))]] : List va_W)) := hD
  refine lv_aload_n hx hb dX14_init_14 rfl (lv_at hl 0 rfl) ?_
  refine lv_aload_n hx hb dX14_init_15 rfl (lv_at hl 3 rfl) ?_
  refine va_putF (D := (dC, dI)) (ci := 16) (v := .ref p3h) (ty := .object "GearboxLaw$Part") (C := RX14) (T := TX14) (N := 4) hx hb hts i_X14 tyX14 tyX14_ok nmX14 hown hK hP hD hS 0 rfl rfl 2 (by decide) (hts _ qw1574) (fun _ h9 => h9) rfl hin rfl (by decide +kernel) rfl rfl (Nat.le_of_ble_eq_true rfl) dX14_init_16 (fun H locs hP hD hS => ?_)
  have hP : va_P (dC, dI) cls (List.flatten ([[(p0h, .inr (16, [.int p1, .int p2, .ref p3h, .null]))]] : List va_W)) H := hP
  have hD : va_D A (List.flatten ([[(p0h, .inr (16, [.int p1, .int p2, .ref p3h, .null]))]] : List va_W)) := hD
  refine lv_aload_n hx hb dX14_init_19 rfl (lv_at hl 0 rfl) ?_
  refine lv_aloadN hx hb dX14_init_20 (lv_at hl 4 rfl) ?_
  refine va_putF (D := (dC, dI)) (ci := 16) (v := .null) (ty := .object "GearboxLaw$Part") (C := RX14) (T := TX14) (N := 4) hx hb hts i_X14 tyX14 tyX14_ok nmX14 hown hK hP hD hS 0 rfl rfl 3 (by decide) (hts _ qw1575) (fun _ h9 => h9) rfl hin rfl (by decide +kernel) rfl rfl (Nat.le_of_ble_eq_true rfl) dX14_init_22 (fun H locs hP hD hS => ?_)
  have hP : va_P (dC, dI) cls (List.flatten ([[(p0h, .inr (16, [.int p1, .int p2, .ref p3h, .null]))]] : List va_W)) H := hP
  have hD : va_D A (List.flatten ([[(p0h, .inr (16, [.int p1, .int p2, .ref p3h, .null]))]] : List va_W)) := hD
  subst hQ
  exact W.vret hx hb hr (fun t ht hW => ⟨⟨(), rfl, trivial, by rw [ht]; exact hP, va_K.moved hW.alike hK, hD⟩, hS.F ht⟩) hS.2.2 dX14_init_25
set_option maxHeartbeats 16000000 in
set_option maxRecDepth 100000 in
theorem kX14_init_rr {zs : ZS} (l : Launch) (dC : Nat → ClassId) (dI : Nat → Nat → Nat) (p0h : Nat) (p1 : Int32) (p2 : Int32) (p3h : Nat) (p4h : Nat) (sz : Nat) : Met l yX14_init (wz yX14_init cX14_init 5 (Option.none : Option Jvm.ClassFile.FieldType)) ({ frames := 1, cells := 0, slots := 0, locals := 12 } : Room) (va_Pc [.ref p0h, .int p1, .int p2, .ref p3h, .ref p4h] (PRE zs dC dI (List.flatten ([[(p0h, .inr (16, [.int 0, .int 0, .null, .null]))]] : List va_W)) (List.flatten ([[]] : List (List (ClassId × FieldType)))) sz)) (va_Qv (fun (_ : Unit) => True) (fun _ t => POST dC dI (List.flatten ([[(p0h, .inr (16, [.int p1, .int p2, .ref p3h, .ref p4h]))]] : List va_W)) (List.flatten ([[]] : List (List (ClassId × FieldType)))) (va_A (List.flatten ([[(p0h, .inr (16, [.int 0, .int 0, .null, .null]))]] : List va_W)) sz) t) (va_A (List.flatten ([[(p0h, .inr (16, [.int 0, .int 0, .null, .null]))]] : List va_W)) sz)) 0 0 (va_A (List.flatten ([[(p0h, .inr (16, [.int 0, .int 0, .null, .null]))]] : List va_W)) sz) := by
  refine Met.ofW (cc := cX14_init) (maxL := 5) (ret := (Option.none : Option Jvm.ClassFile.FieldType)) (by decide) rfl ?_
  intro p e s m args below meth c s₁ B hml hv
  obtain ⟨rfl, hsz, hP, hK, hD0, hE⟩ := hv
  have hx := B.exec
  have hb := B.bytes
  have hr := B.returns
  have hin : meth.name = "<init>" := (name_of_methodNamed B.named B.method).1
  have hts0 := atoms_spec (ws := wz yX14_init cX14_init 5 (Option.none : Option Jvm.ClassFile.FieldType)) B.pre
  have hts : ∀ w ∈ gw, w.before _ s = true := fun w h => hts0 w (List.mem_cons_of_mem _ h)
  have hown : s.vm.findClass RX14 = some m.cls := findClass_of_methodNamed B.named
  subst hsz
  have hD := hD0.self (sz := s.heap.size)
  refine gQ9 ?_
  intro Q hQ
  generalize hAe : va_A (List.flatten ([[(p0h, .inr (16, [.int 0, .int 0, .null, .null]))]] : List va_W)) s.heap.size = A at hD hE hQ
  have hA : ∀ q : Nat, s.heap.size ≤ q → A q := fun q h => by rw [← hAe]; exact Or.inr h
  have hS : va_S A s.heap s.heap [] := va_S.rf
  have hP : va_P (dC, dI) cls (List.flatten ([[(p0h, .inr (16, [.int 0, .int 0, .null, .null]))]] : List va_W)) s.heap := hP
  have hl := lv_entry ([.ref p0h, .int p1, .int p2, .ref p3h, .ref p4h]) (n := 5) (Nat.le_of_ble_eq_true rfl)
  rw [lg_entry_eq]
  generalize (lg_sl ([.ref p0h, .int p1, .int p2, .ref p3h, .ref p4h]) ++ List.replicate (5 - (lg_sl ([.ref p0h, .int p1, .int p2, .ref p3h, .ref p4h])).length) Slot.unset).toArray = ls at hl ⊢
  have hl : lv_has ls 5 [(0, .ref p0h), (1, .int p1), (2, .int p2), (3, .ref p3h), (4, .ref p4h)] := hl
  obtain ⟨H, hHe⟩ : ∃ H, H = s.heap := ⟨_, rfl⟩
  obtain ⟨locs, hle⟩ : ∃ locs : List Loc, locs = [] := ⟨_, rfl⟩
  rw [← hHe] at hP
  have hS : va_S A s.heap H locs := by rw [hHe, hle]; exact hS
  show W p l e ({ frames := 1, cells := 0, slots := 0, locals := 12 } : Room) s m ([.ref p0h, .int p1, .int p2, .ref p3h, .ref p4h] : List Value).toArray below meth c s.heap [] 0 0 Q (F0 m 0 ls [])
  rw [← hle]
  refine wH9 hHe ?_
  refine lv_aload_n hx hb dX14_init_0 rfl (lv_at hl 0 rfl) ?_
  refine W.objInit hx hb hown (hts _ qw1571) (hts _ qw1286) (hts _ qw_oi) rfl (by rw [hml]; exact hl.1) rfl dX14_init_1 (Nat.le_of_ble_eq_true rfl) (Nat.le_of_ble_eq_true rfl) ?_
  refine W.eq (g2 := F0 m 4 ls []) rfl ?_
  refine lv_aload_n hx hb dX14_init_4 rfl (lv_at hl 0 rfl) ?_
  refine lv_iload_n hx hb dX14_init_5 rfl (lv_at hl 1 rfl) ?_
  refine va_putF (D := (dC, dI)) (ci := 16) (v := .int p1) (ty := .int) (C := RX14) (T := TX14) (N := 4) hx hb hts i_X14 tyX14 tyX14_ok nmX14 hown hK hP hD hS 0 rfl rfl 0 (by decide) (hts _ qw1572) (fun _ h9 => h9) rfl hin rfl (by decide +kernel) rfl rfl (Nat.le_of_ble_eq_true rfl) dX14_init_6 (fun H locs hP hD hS => ?_)
  have hP : va_P (dC, dI) cls (List.flatten ([[(p0h, .inr (16, [.int p1, .int 0, .null, .null]))]] : List va_W)) H := hP
  have hD : va_D A (List.flatten ([[(p0h, .inr (16, [.int p1, .int 0, .null, .null]))]] : List va_W)) := hD
  refine lv_aload_n hx hb dX14_init_9 rfl (lv_at hl 0 rfl) ?_
  refine lv_iload_n hx hb dX14_init_10 rfl (lv_at hl 2 rfl) ?_
  refine va_putF (D := (dC, dI)) (ci := 16) (v := .int p2) (ty := .int) (C := RX14) (T := TX14) (N := 4) hx hb hts i_X14 tyX14 tyX14_ok nmX14 hown hK hP hD hS 0 rfl rfl 1 (by decide) (hts _ qw1573) (fun _ h9 => h9) rfl hin rfl (by decide +kernel) rfl rfl (Nat.le_of_ble_eq_true rfl) dX14_init_11 (fun H locs hP hD hS => ?_)
  have hP : va_P (dC, dI) cls (List.flatten ([[(p0h, .inr (16, [.int p1, .int p2, .null, .null]))]] : List va_W)) H := hP
  have hD : va_D A (List.flatten ([[(p0h, .inr (16, [.int p1, .int p2, .null, .null]))]] : List va_W)) := hD
  refine lv_aload_n hx hb dX14_init_14 rfl (lv_at hl 0 rfl) ?_
  refine lv_aload_n hx hb dX14_init_15 rfl (lv_at hl 3 rfl) ?_
  refine va_putF (D := (dC, dI)) (ci := 16) (v := .ref p3h) (ty := .object "GearboxLaw$Part") (C := RX14) (T := TX14) (N := 4) hx hb hts i_X14 tyX14 tyX14_ok nmX14 hown hK hP hD hS 0 rfl rfl 2 (by decide) (hts _ qw1574) (fun _ h9 => h9) rfl hin rfl (by decide +kernel) rfl rfl (Nat.le_of_ble_eq_true rfl) dX14_init_16 (fun H locs hP hD hS => ?_)
  have hP : va_P (dC, dI) cls (List.flatten ([[(p0h, .inr (16, [.int p1, .int p2, .ref p3h, .null]))]] : List va_W)) H := hP
  have hD : va_D A (List.flatten ([[(p0h, .inr (16, [.int p1, .int p2, .ref p3h, .null]))]] : List va_W)) := hD
  refine lv_aload_n hx hb dX14_init_19 rfl (lv_at hl 0 rfl) ?_
  refine lv_aload hx hb dX14_init_20 (lv_at hl 4 rfl) ?_
  refine va_putF (D := (dC, dI)) (ci := 16) (v := .ref p4h) (ty := .object "GearboxLaw$Part") (C := RX14) (T := TX14) (N := 4) hx hb hts i_X14 tyX14 tyX14_ok nmX14 hown hK hP hD hS 0 rfl rfl 3 (by decide) (hts _ qw1575) (fun _ h9 => h9) rfl hin rfl (by decide +kernel) rfl rfl (Nat.le_of_ble_eq_true rfl) dX14_init_22 (fun H locs hP hD hS => ?_)
  have hP : va_P (dC, dI) cls (List.flatten ([[(p0h, .inr (16, [.int p1, .int p2, .ref p3h, .ref p4h]))]] : List va_W)) H := hP
  have hD : va_D A (List.flatten ([[(p0h, .inr (16, [.int p1, .int p2, .ref p3h, .ref p4h]))]] : List va_W)) := hD
  subst hQ
  exact W.vret hx hb hr (fun t ht hW => ⟨⟨(), rfl, trivial, by rw [ht]; exact hP, va_K.moved hW.alike hK, hD⟩, hS.F ht⟩) hS.2.2 dX14_init_25
def fX13_part (kk_part : ST → Int32 → Option (List Int32 × ST)) (xm : Nat) (xf : RI) (p0w : ST) (p1 : Int32) : Option (List Int32 × ST) := ((fX13_draw p0w 10 xm xf).bind fun (o_1 : Int32 × ST) => (lt9 (upw (o_1.2) 0 2 (((o_1.2) 0 2) - 1)) fun (w3 : ST) => (if p1 = 0 then (if ((o_1.1) - (o_1.1) / 2 * 2) = 0 then ((fX13_draw w3 4 xm xf).bind fun (o_7 : Int32 × ST) => (if (o_7.1) = 0 then ((fX13_draw (o_7.2) 5000 xm xf).bind fun (o_10 : Int32 × ST) => (if pk0 0 (o_10.1) = true then some ((pb0 0 (o_10.1)), (o_10.2)) else none)) else ((fX13_draw (o_7.2) 9 xm xf).bind fun (o_13 : Int32 × ST) => (if pk0 0 (o_13.1) = true then some ((pb0 0 (o_13.1)), (o_13.2)) else none)))) else ((fX13_draw w3 4 xm xf).bind fun (o_17 : Int32 × ST) => (if pk0 1 (o_17.1) = true then some ((pb0 1 (o_17.1)), (o_17.2)) else none))) else (if (w3 0 2) < 0 then (if ((o_1.1) - (o_1.1) / 2 * 2) = 0 then ((fX13_draw w3 4 xm xf).bind fun (o_23 : Int32 × ST) => (if (o_23.1) = 0 then ((fX13_draw (o_23.2) 5000 xm xf).bind fun (o_26 : Int32 × ST) => (if pk0 0 (o_26.1) = true then some ((pb0 0 (o_26.1)), (o_26.2)) else none)) else ((fX13_draw (o_23.2) 9 xm xf).bind fun (o_29 : Int32 × ST) => (if pk0 0 (o_29.1) = true then some ((pb0 0 (o_29.1)), (o_29.2)) else none)))) else ((fX13_draw w3 4 xm xf).bind fun (o_33 : Int32 × ST) => (if pk0 1 (o_33.1) = true then some ((pb0 1 (o_33.1)), (o_33.2)) else none))) else (if 2 ≤ (o_1.1) then (if (o_1.1) = 2 then ((fX13_draw w3 2 xm xf).bind fun (o_39 : Int32 × ST) => ((kk_part (o_39.2) (p1 - 1)).bind fun (o_41 : List Int32 × ST) => (if pk1 (3 + (o_39.1)) 0 = true then some ((pb1 (3 + (o_39.1)) 0 (o_41.1)), (o_41.2)) else none))) else (if (o_1.1) = 3 then ((kk_part w3 (p1 - 1)).bind fun (o_45 : List Int32 × ST) => (if pk1 7 0 = true then some ((pb1 7 0 (o_45.1)), (o_45.2)) else none)) else (if (o_1.1) = 4 then (if 8 ≤ (w3 0 4) then ((fX13_draw w3 16 xm xf).bind fun (o_49 : Int32 × ST) => ((kk_part (o_49.2) (p1 - 1)).bind fun (o_51 : List Int32 × ST) => (if (1 + (o_49.1)) = 4 then ((fX13_draw (o_51.2) 5 xm xf).bind fun (o_53 : Int32 × ST) => (if (o_53.1) = 0 then ((kk_part (o_53.2) (p1 - 1)).bind fun (o_57 : List Int32 × ST) => (if pk2 2 (1 + (o_49.1)) = true then some ((pb2 2 (1 + (o_49.1)) (o_51.1) (o_57.1)), (o_57.2)) else none)) else ((fX13_draw (o_53.2) 9 xm xf).bind fun (o_61 : Int32 × ST) => (if pk0 0 (1 + (o_61.1)) = true then (if pk2 2 (1 + (o_49.1)) = true then some ((pb2 2 (1 + (o_49.1)) (o_51.1) (pb0 0 (1 + (o_61.1)))), (o_61.2)) else none) else none)))) else (if (1 + (o_49.1)) = 5 then ((fX13_draw (o_51.2) 5 xm xf).bind fun (o_66 : Int32 × ST) => (if (o_66.1) = 0 then ((kk_part (o_66.2) (p1 - 1)).bind fun (o_70 : List Int32 × ST) => (if pk2 2 (1 + (o_49.1)) = true then some ((pb2 2 (1 + (o_49.1)) (o_51.1) (o_70.1)), (o_70.2)) else none)) else ((fX13_draw (o_66.2) 9 xm xf).bind fun (o_74 : Int32 × ST) => (if pk0 0 (1 + (o_74.1)) = true then (if pk2 2 (1 + (o_49.1)) = true then some ((pb2 2 (1 + (o_49.1)) (o_51.1) (pb0 0 (1 + (o_74.1)))), (o_74.2)) else none) else none)))) else ((kk_part (o_51.2) (p1 - 1)).bind fun (o_79 : List Int32 × ST) => (if pk2 2 (1 + (o_49.1)) = true then some ((pb2 2 (1 + (o_49.1)) (o_51.1) (o_79.1)), (o_79.2)) else none)))))) else (lt9 (upw w3 0 4 ((w3 0 4) + 1)) fun (w81 : ST) => ((kk_part w81 (p1 - 1)).bind fun (o_82 : List Int32 × ST) => ((fX13_draw (o_82.2) 2 xm xf).bind fun (o_84 : Int32 × ST) => ((kk_part (o_84.2) (p1 - 1)).bind fun (o_86 : List Int32 × ST) => (if pk2 (5 + (o_84.1)) 0 = true then some ((pb2 (5 + (o_84.1)) 0 (o_82.1) (o_86.1)), (o_86.2)) else none)))))) else ((fX13_draw w3 16 xm xf).bind fun (o_88 : Int32 × ST) => ((kk_part (o_88.2) (p1 - 1)).bind fun (o_90 : List Int32 × ST) => (if (1 + (o_88.1)) = 4 then ((fX13_draw (o_90.2) 5 xm xf).bind fun (o_92 : Int32 × ST) => (if (o_92.1) = 0 then ((kk_part (o_92.2) (p1 - 1)).bind fun (o_96 : List Int32 × ST) => (if pk2 2 (1 + (o_88.1)) = true then some ((pb2 2 (1 + (o_88.1)) (o_90.1) (o_96.1)), (o_96.2)) else none)) else ((fX13_draw (o_92.2) 9 xm xf).bind fun (o_100 : Int32 × ST) => (if pk0 0 (1 + (o_100.1)) = true then (if pk2 2 (1 + (o_88.1)) = true then some ((pb2 2 (1 + (o_88.1)) (o_90.1) (pb0 0 (1 + (o_100.1)))), (o_100.2)) else none) else none)))) else (if (1 + (o_88.1)) = 5 then ((fX13_draw (o_90.2) 5 xm xf).bind fun (o_105 : Int32 × ST) => (if (o_105.1) = 0 then ((kk_part (o_105.2) (p1 - 1)).bind fun (o_109 : List Int32 × ST) => (if pk2 2 (1 + (o_88.1)) = true then some ((pb2 2 (1 + (o_88.1)) (o_90.1) (o_109.1)), (o_109.2)) else none)) else ((fX13_draw (o_105.2) 9 xm xf).bind fun (o_113 : Int32 × ST) => (if pk0 0 (1 + (o_113.1)) = true then (if pk2 2 (1 + (o_88.1)) = true then some ((pb2 2 (1 + (o_88.1)) (o_90.1) (pb0 0 (1 + (o_113.1)))), (o_113.2)) else none) else none)))) else ((kk_part (o_90.2) (p1 - 1)).bind fun (o_118 : List Int32 × ST) => (if pk2 2 (1 + (o_88.1)) = true then some ((pb2 2 (1 + (o_88.1)) (o_90.1) (o_118.1)), (o_118.2)) else none))))))))) else (if ((o_1.1) - (o_1.1) / 2 * 2) = 0 then ((fX13_draw w3 4 xm xf).bind fun (o_122 : Int32 × ST) => (if (o_122.1) = 0 then ((fX13_draw (o_122.2) 5000 xm xf).bind fun (o_125 : Int32 × ST) => (if pk0 0 (o_125.1) = true then some ((pb0 0 (o_125.1)), (o_125.2)) else none)) else ((fX13_draw (o_122.2) 9 xm xf).bind fun (o_128 : Int32 × ST) => (if pk0 0 (o_128.1) = true then some ((pb0 0 (o_128.1)), (o_128.2)) else none)))) else ((fX13_draw w3 4 xm xf).bind fun (o_132 : Int32 × ST) => (if pk0 1 (o_132.1) = true then some ((pb0 1 (o_132.1)), (o_132.2)) else none))))))))
set_option maxHeartbeats 16000000 in
set_option maxRecDepth 100000 in
theorem kX13_part {zs : ZS} (l : Launch) (kk_part : ST → Int32 → Option (List Int32 × ST)) (F9 L9 C9 D9 : Nat) (xv xm : Nat) (xf : RI) (hkk_part : ∀ {zs : ZS} (dC : Nat → ClassId) (dI : Nat → Nat → Nat) (p0a : Nat → Nat) (p0w : ST) (p1 : Int32) (sz : Nat) (o : List Int32 × ST) (hrun : kk_part p0w p1 = some o), Met l yX13_part (wz yX13_part cX13_part 5 (Option.some (Jvm.ClassFile.FieldType.object "GearboxLaw$Part"))) ({ frames := F9, cells := C9, slots := 4 * C9, locals := L9 } : Room) (va_Pc [.ref (p0a 0), .int p1] (PRE (zA zs (xq9 xv xm xf)) dC dI (List.flatten ([[((p0a 0), .inr (14, [.ref xv, .int (p0w 0 1), .int (p0w 0 2), .int (p0w 0 3), .int (p0w 0 4), .ref (p0a 6), .null, .ref (p0a 8), .ref (p0a 9), .int (p0w 0 9), .int (p0w 0 10), .int (p0w 0 11), .int (p0w 0 12)]))]] : List va_W)) (List.flatten ([[]] : List (List (ClassId × FieldType)))) sz)) (va_Qr (fun (_ : Unit) => True) (fun _ ra t => ∃ wt : va_W, ph9 wt D9 ra o.1 ∧ POST dC dI (List.flatten ([[((p0a 0), .inr (14, [.ref xv, .int (o.2 0 1), .int (o.2 0 2), .int (o.2 0 3), .int (o.2 0 4), .ref (p0a 6), .null, .ref (p0a 8), .ref (p0a 9), .int (o.2 0 9), .int (o.2 0 10), .int (o.2 0 11), .int (o.2 0 12)]))], wt] : List va_W)) (List.flatten ([[]] : List (List (ClassId × FieldType)))) (va_A (List.flatten ([[((p0a 0), .inr (14, [.ref xv, .int (p0w 0 1), .int (p0w 0 2), .int (p0w 0 3), .int (p0w 0 4), .ref (p0a 6), .null, .ref (p0a 8), .ref (p0a 9), .int (p0w 0 9), .int (p0w 0 10), .int (p0w 0 11), .int (p0w 0 12)]))]] : List va_W)) sz) t) (va_A (List.flatten ([[((p0a 0), .inr (14, [.ref xv, .int (p0w 0 1), .int (p0w 0 2), .int (p0w 0 3), .int (p0w 0 4), .ref (p0a 6), .null, .ref (p0a 8), .ref (p0a 9), .int (p0w 0 9), .int (p0w 0 10), .int (p0w 0 11), .int (p0w 0 12)]))]] : List va_W)) sz)) C9 (4 * C9) (va_A (List.flatten ([[((p0a 0), .inr (14, [.ref xv, .int (p0w 0 1), .int (p0w 0 2), .int (p0w 0 3), .int (p0w 0 4), .ref (p0a 6), .null, .ref (p0a 8), .ref (p0a 9), .int (p0w 0 9), .int (p0w 0 10), .int (p0w 0 11), .int (p0w 0 12)]))]] : List va_W)) sz)) (dC : Nat → ClassId) (dI : Nat → Nat → Nat) (p0a : Nat → Nat) (p0w : ST) (p1 : Int32) (sz : Nat) (o : List Int32 × ST) (hrun : (fX13_part kk_part xm xf) p0w p1 = some o) : Met l yX13_part (wz yX13_part cX13_part 5 (Option.some (Jvm.ClassFile.FieldType.object "GearboxLaw$Part"))) ({ frames := F9 + 8, cells := (2 * C9 + 2), slots := 4 * (2 * C9 + 2), locals := L9 + 400 } : Room) (va_Pc [.ref (p0a 0), .int p1] (PRE (zA zs (xq9 xv xm xf)) dC dI (List.flatten ([[((p0a 0), .inr (14, [.ref xv, .int (p0w 0 1), .int (p0w 0 2), .int (p0w 0 3), .int (p0w 0 4), .ref (p0a 6), .null, .ref (p0a 8), .ref (p0a 9), .int (p0w 0 9), .int (p0w 0 10), .int (p0w 0 11), .int (p0w 0 12)]))]] : List va_W)) (List.flatten ([[]] : List (List (ClassId × FieldType)))) sz)) (va_Qr (fun (_ : Unit) => True) (fun _ ra t => ∃ wt : va_W, ph9 wt (D9 + 1) ra o.1 ∧ POST dC dI (List.flatten ([[((p0a 0), .inr (14, [.ref xv, .int (o.2 0 1), .int (o.2 0 2), .int (o.2 0 3), .int (o.2 0 4), .ref (p0a 6), .null, .ref (p0a 8), .ref (p0a 9), .int (o.2 0 9), .int (o.2 0 10), .int (o.2 0 11), .int (o.2 0 12)]))], wt] : List va_W)) (List.flatten ([[]] : List (List (ClassId × FieldType)))) (va_A (List.flatten ([[((p0a 0), .inr (14, [.ref xv, .int (p0w 0 1), .int (p0w 0 2), .int (p0w 0 3), .int (p0w 0 4), .ref (p0a 6), .null, .ref (p0a 8), .ref (p0a 9), .int (p0w 0 9), .int (p0w 0 10), .int (p0w 0 11), .int (p0w 0 12)]))]] : List va_W)) sz) t) (va_A (List.flatten ([[((p0a 0), .inr (14, [.ref xv, .int (p0w 0 1), .int (p0w 0 2), .int (p0w 0 3), .int (p0w 0 4), .ref (p0a 6), .null, .ref (p0a 8), .ref (p0a 9), .int (p0w 0 9), .int (p0w 0 10), .int (p0w 0 11), .int (p0w 0 12)]))]] : List va_W)) sz)) (2 * C9 + 2) (4 * (2 * C9 + 2)) (va_A (List.flatten ([[((p0a 0), .inr (14, [.ref xv, .int (p0w 0 1), .int (p0w 0 2), .int (p0w 0 3), .int (p0w 0 4), .ref (p0a 6), .null, .ref (p0a 8), .ref (p0a 9), .int (p0w 0 9), .int (p0w 0 10), .int (p0w 0 11), .int (p0w 0 12)]))]] : List va_W)) sz) := by
  refine Met.ofW (cc := cX13_part) (maxL := 5) (ret := (Option.some (Jvm.ClassFile.FieldType.object "GearboxLaw$Part"))) (by decide) rfl ?_
  intro p e s m args below meth c s₁ B hml hv
  obtain ⟨rfl, hsz, hP, hK, hD0, hE⟩ := hv
  have hx := B.exec
  have hb := B.bytes
  have hr := B.returns
  have hts0 := atoms_spec (ws := wz yX13_part cX13_part 5 (Option.some (Jvm.ClassFile.FieldType.object "GearboxLaw$Part"))) B.pre
  have hts : ∀ w ∈ gw, w.before _ s = true := fun w h => hts0 w (List.mem_cons_of_mem _ h)
  have hown : s.vm.findClass RX13 = some m.cls := findClass_of_methodNamed B.named
  subst hsz
  have hD := hD0.self (sz := s.heap.size)
  refine gQ9 ?_
  intro Q hQ
  generalize hAe : va_A (List.flatten ([[((p0a 0), .inr (14, [.ref xv, .int (p0w 0 1), .int (p0w 0 2), .int (p0w 0 3), .int (p0w 0 4), .ref (p0a 6), .null, .ref (p0a 8), .ref (p0a 9), .int (p0w 0 9), .int (p0w 0 10), .int (p0w 0 11), .int (p0w 0 12)]))]] : List va_W)) s.heap.size = A at hD hE hQ
  have hA : ∀ q : Nat, s.heap.size ≤ q → A q := fun q h => by rw [← hAe]; exact Or.inr h
  have hro := ENV.ex hE
  have hro_x := hro.2
  replace hro := hro.1
  have hS : va_S A s.heap s.heap [] := va_S.rf
  have hP : va_P (dC, dI) cls (List.flatten ([[((p0a 0), .inr (14, [.ref xv, .int (p0w 0 1), .int (p0w 0 2), .int (p0w 0 3), .int (p0w 0 4), .ref (p0a 6), .null, .ref (p0a 8), .ref (p0a 9), .int (p0w 0 9), .int (p0w 0 10), .int (p0w 0 11), .int (p0w 0 12)]))]] : List va_W)) s.heap := hP
  have hl := lv_entry ([.ref (p0a 0), .int p1]) (n := 5) (Nat.le_of_ble_eq_true rfl)
  rw [lg_entry_eq]
  generalize (lg_sl ([.ref (p0a 0), .int p1]) ++ List.replicate (5 - (lg_sl ([.ref (p0a 0), .int p1])).length) Slot.unset).toArray = ls at hl ⊢
  have hl : lv_has ls 5 [(0, .ref (p0a 0)), (1, .int p1)] := hl
  obtain ⟨H, hHe⟩ : ∃ H, H = s.heap := ⟨_, rfl⟩
  obtain ⟨locs, hle⟩ : ∃ locs : List Loc, locs = [] := ⟨_, rfl⟩
  rw [← hHe] at hP
  have hS : va_S A s.heap H locs := by rw [hHe, hle]; exact hS
  show W p l e ({ frames := F9 + 8, cells := (2 * C9 + 2), slots := 4 * (2 * C9 + 2), locals := L9 + 400 } : Room) s m ([.ref (p0a 0), .int p1] : List Value).toArray below meth c s.heap [] 0 0 Q (F0 m 0 ls [])
  rw [← hle]
  refine wH9 hHe ?_
  unfold fX13_part at hrun
  refine lv_aload_n hx hb dX13_part_0 rfl (lv_at hl 0 rfl) ?_
  refine lv_bipush (v := 10) hx hb dX13_part_1 (by decide) ?_
  obtain ⟨o_1, hc_1, hrun⟩ := bnd9 hrun
  have hPx : va_P (dC, dI) cls ((List.flatten ([[((p0a 0), .inr (14, [.ref xv, .int (p0w 0 1), .int (p0w 0 2), .int (p0w 0 3), .int (p0w 0 4), .ref (p0a 6), .null, .ref (p0a 8), .ref (p0a 9), .int (p0w 0 9), .int (p0w 0 10), .int (p0w 0 11), .int (p0w 0 12)]))]] : List va_W)) ++ (List.flatten ([] : List va_W))) H := vP_fa (vP_perm hP (bP (List.Perm.refl _)))
  have hDx : va_D A ((List.flatten ([[((p0a 0), .inr (14, [.ref xv, .int (p0w 0 1), .int (p0w 0 2), .int (p0w 0 3), .int (p0w 0 4), .ref (p0a 6), .null, .ref (p0a 8), .ref (p0a 9), .int (p0w 0 9), .int (p0w 0 10), .int (p0w 0 11), .int (p0w 0 12)]))]] : List va_W)) ++ (List.flatten ([] : List va_W))) := vD_fa (vD_perm hD (bP (List.Perm.refl _)))
  have hKx : va_K (dC, dI) cls ((List.flatten ([[]] : List (List (ClassId × FieldType)))) ++ (List.flatten ([] : List (List (ClassId × FieldType))))) s := vK_fa (vK_perm hK (bP (List.Perm.refl _)))
  have hPc := vP_l hPx
  have hDc := vD_l hDx
  have hKc := vK_l hKx
  have hFc := vfree hDx hS hA
  refine va_calli (va_runV (As := [.int 10]) (rest := []) ⟨hx, hb, hml, hown, hts⟩ (kX13_draw l dC dI (p0a := (st0 (p0a 0) (st1 p0a 1 xv))) (p0w := p0w) (p1 := 10) (xv := xv) (xm := xm) (xf := xf) (sz := _) (o := o_1) (hrun := hc_1)) (cwV 1 hts (gi_V qw1563 qw1564 qw1565 qw1566 (gi_z qw1562)) rfl rfl rfl (by decide +kernel) ⟨rmF (Nat.le_of_ble_eq_true rfl), rmL (Nat.le_of_ble_eq_true rfl)⟩) ⟨PRE.blind, va_recv hKc hPc (ci := 14) (q0 := 0) rfl rfl, PRE.of (ENV.add hE xq9_m hro_x) hS hFc hPc hKc hDc⟩ rfl rfl hl.1 rfl (lv_room (Nat.le_of_ble_eq_true rfl)) dX13_part_3 ⟨(show 0 + 0 ≤ (2 * C9 + 2) from by omega), (show 0 + 0 ≤ 4 * (2 * C9 + 2) from by omega)⟩) hS (fun q _ h => hFc q h) hFc (fun r2 u t H locs ht hvm hw hB hz1 hk1 hS => ?_)
  obtain ⟨b1, b2, b3⟩ := hB
  rw [ht] at b1
  obtain ⟨hP, hD, hK⟩ := JOINC (wc := (List.flatten ([[((p0a 0), .inr (14, [.ref xv, .int (p0w 0 1), .int (p0w 0 2), .int (p0w 0 3), .int (p0w 0 4), .ref (p0a 6), .null, .ref (p0a 8), .ref (p0a 9), .int (p0w 0 9), .int (p0w 0 10), .int (p0w 0 11), .int (p0w 0 12)]))]] : List va_W))) (wr := (List.flatten ([] : List va_W))) (w1 := (List.flatten ([[((p0a 0), .inr (14, [.ref xv, .int ((o_1.2) 0 1), .int ((o_1.2) 0 2), .int ((o_1.2) 0 3), .int ((o_1.2) 0 4), .ref (p0a 6), .null, .ref (p0a 8), .ref (p0a 9), .int ((o_1.2) 0 9), .int ((o_1.2) 0 10), .int ((o_1.2) 0 11), .int ((o_1.2) 0 12)]))]] : List va_W))) (t1 := (List.flatten ([[]] : List (List (ClassId × FieldType))))) hPx hDx hKx hk1 hFc b1 (va_K.moved hvm.symm b2) b3
  have hP : va_P (dC, dI) cls (List.flatten ([[((p0a 0), .inr (14, [.ref xv, .int ((o_1.2) 0 1), .int ((o_1.2) 0 2), .int ((o_1.2) 0 3), .int ((o_1.2) 0 4), .ref (p0a 6), .null, .ref (p0a 8), .ref (p0a 9), .int ((o_1.2) 0 9), .int ((o_1.2) 0 10), .int ((o_1.2) 0 11), .int ((o_1.2) 0 12)]))]] : List va_W)) H := vP_perm (vP_fb hP) (bP (List.Perm.refl _))
  have hD : va_D A (List.flatten ([[((p0a 0), .inr (14, [.ref xv, .int ((o_1.2) 0 1), .int ((o_1.2) 0 2), .int ((o_1.2) 0 3), .int ((o_1.2) 0 4), .ref (p0a 6), .null, .ref (p0a 8), .ref (p0a 9), .int ((o_1.2) 0 9), .int ((o_1.2) 0 10), .int ((o_1.2) 0 11), .int ((o_1.2) 0 12)]))]] : List va_W)) := vD_perm (vD_fb hD) (bP (List.Perm.refl _))
  have hK : va_K (dC, dI) cls (List.flatten ([[]] : List (List (ClassId × FieldType)))) s := vK_perm (vK_fb hK) (bP (List.Perm.refl _))
  obtain rfl : r2 = (o_1.1) := hw
  refine lv_istore_n (lv' := [(2, .int (o_1.1)), (0, .ref (p0a 0)), (1, .int p1)]) hx hb dX13_part_6 rfl hl (by decide) rfl (fun ls hl => ?_)
  refine lv_aload_n hx hb dX13_part_7 rfl (lv_at hl 1 rfl) ?_
  refine lv_dup hx hb dX13_part_8 rfl ?_
  refine va_get (D := (dC, dI)) (ci := 14) (v := .int ((o_1.2) 0 2)) (C := RX13) (T := TX13) (N := 13) hx hb hts i_X13 hown hK hP 0 rfl rfl 2 (by decide) (hts _ qw1567) (fun _ h9 => h9) rfl dX13_part_9 ?_
  refine lv_iconst (v := 1) hx hb dX13_part_12 (by decide) ?_
  refine lv_isub hx hb dX13_part_13 ?_
  refine va_put (D := (dC, dI)) (ci := 14) (v := .int (((o_1.2) 0 2) - 1)) (ty := .int) (C := RX13) (T := TX13) (N := 13) hx hb hts i_X13 tyX13 tyX13_ok nmX13 hown hK hP hD hS 0 rfl rfl 2 (by decide) (hts _ qw1567) (fun _ h9 => h9) rfl (by decide +kernel) rfl rfl (Nat.le_of_ble_eq_true rfl) dX13_part_14 (fun H locs hP hD hS => ?_)
  have hP : va_P (dC, dI) cls (List.flatten ([[((p0a 0), .inr (14, [.ref xv, .int ((upw (o_1.2) 0 2 (((o_1.2) 0 2) - 1)) 0 1), .int ((upw (o_1.2) 0 2 (((o_1.2) 0 2) - 1)) 0 2), .int ((upw (o_1.2) 0 2 (((o_1.2) 0 2) - 1)) 0 3), .int ((upw (o_1.2) 0 2 (((o_1.2) 0 2) - 1)) 0 4), .ref (p0a 6), .null, .ref (p0a 8), .ref (p0a 9), .int ((upw (o_1.2) 0 2 (((o_1.2) 0 2) - 1)) 0 9), .int ((upw (o_1.2) 0 2 (((o_1.2) 0 2) - 1)) 0 10), .int ((upw (o_1.2) 0 2 (((o_1.2) 0 2) - 1)) 0 11), .int ((upw (o_1.2) 0 2 (((o_1.2) 0 2) - 1)) 0 12)]))]] : List va_W)) H := hP
  have hD : va_D A (List.flatten ([[((p0a 0), .inr (14, [.ref xv, .int ((upw (o_1.2) 0 2 (((o_1.2) 0 2) - 1)) 0 1), .int ((upw (o_1.2) 0 2 (((o_1.2) 0 2) - 1)) 0 2), .int ((upw (o_1.2) 0 2 (((o_1.2) 0 2) - 1)) 0 3), .int ((upw (o_1.2) 0 2 (((o_1.2) 0 2) - 1)) 0 4), .ref (p0a 6), .null, .ref (p0a 8), .ref (p0a 9), .int ((upw (o_1.2) 0 2 (((o_1.2) 0 2) - 1)) 0 9), .int ((upw (o_1.2) 0 2 (((o_1.2) 0 2) - 1)) 0 10), .int ((upw (o_1.2) 0 2 (((o_1.2) 0 2) - 1)) 0 11), .int ((upw (o_1.2) 0 2 (((o_1.2) 0 2) - 1)) 0 12)]))]] : List va_W)) := hD
  obtain ⟨w3, ew3, hrun⟩ := let9 hrun
  rw [← ew3] at hP hD
  refine lv_iload_n hx hb dX13_part_17 rfl (lv_at hl 2 rfl) ?_
  rcases br9 hrun with ⟨hc4, hrun⟩ | ⟨hc4, hrun⟩
  · refine lv_if_eq (tgt := 33) hx hb dX13_part_18 (by decide) (fun _ => ?_) (fun c => absurd hc4 c)
    refine lv_iload_n hx hb dX13_part_33 rfl (lv_at hl 0 rfl) ?_
    refine lv_iconst (v := 2) hx hb dX13_part_34 (by decide) ?_
    refine lv_irem hx hb dX13_part_35 (by decide) ?_
    rcases br9 hrun with ⟨hc5, hrun⟩ | ⟨hc5, hrun⟩
    · refine lv_if_ne (tgt := 76) hx hb dX13_part_36 (by decide) (fun c => absurd hc5 c) (fun _ => ?_)
      refine va_new (ci := 16) (fs := [.int 0, .int 0, .null, .null]) (C := RX14) (T := TX14) (N := 4) hx hb hts i_X14 tyX14 tyX14_ok hown (hts _ qw1568) (hts _ qw1569) (hts _ qw1570) hK hP hD hS hA rfl df_X14 (show 0 + 1 ≤ (2 * C9 + 2) from by omega) (show 0 + 4 ≤ 4 * (2 * C9 + 2) from by omega) dX13_part_39 (fun q6 H hP hD hS => ?_)
      replace hP := vP_new hP
      replace hD := vD_new hD
      have hP : va_P (dC, dI) cls (List.flatten ([[(q6, .inr (16, [.int 0, .int 0, .null, .null]))], [((p0a 0), .inr (14, [.ref xv, .int (w3 0 1), .int (w3 0 2), .int (w3 0 3), .int (w3 0 4), .ref (p0a 6), .null, .ref (p0a 8), .ref (p0a 9), .int (w3 0 9), .int (w3 0 10), .int (w3 0 11), .int (w3 0 12)]))]] : List va_W)) H := hP
      have hD : va_D A (List.flatten ([[(q6, .inr (16, [.int 0, .int 0, .null, .null]))], [((p0a 0), .inr (14, [.ref xv, .int (w3 0 1), .int (w3 0 2), .int (w3 0 3), .int (w3 0 4), .ref (p0a 6), .null, .ref (p0a 8), .ref (p0a 9), .int (w3 0 9), .int (w3 0 10), .int (w3 0 11), .int (w3 0 12)]))]] : List va_W)) := hD
      have hK : va_K (dC, dI) cls (List.flatten ([[], []] : List (List (ClassId × FieldType)))) s := hK
      refine W.widen (k := (1)) (n := (4 * (1))) (by omega) (by omega) ?_
      refine lv_dup hx hb dX13_part_42 rfl ?_
      refine lv_iconst (v := 0) hx hb dX13_part_43 (by decide) ?_
      refine lv_aload_n hx hb dX13_part_44 rfl (lv_at hl 1 rfl) ?_
      refine lv_iconst (v := 4) hx hb dX13_part_45 (by decide) ?_
      obtain ⟨o_7, hc_7, hrun⟩ := bnd9 hrun
      have hPx : va_P (dC, dI) cls ((List.flatten ([[((p0a 0), .inr (14, [.ref xv, .int (w3 0 1), .int (w3 0 2), .int (w3 0 3), .int (w3 0 4), .ref (p0a 6), .null, .ref (p0a 8), .ref (p0a 9), .int (w3 0 9), .int (w3 0 10), .int (w3 0 11), .int (w3 0 12)]))]] : List va_W)) ++ (List.flatten ([[(q6, .inr (16, [.int 0, .int 0, .null, .null]))]] : List va_W))) H := vP_fa (vP_perm hP (bP ((((List.Perm.refl _)).cons _).trans (List.Perm.swap _ _ _))))
      have hDx : va_D A ((List.flatten ([[((p0a 0), .inr (14, [.ref xv, .int (w3 0 1), .int (w3 0 2), .int (w3 0 3), .int (w3 0 4), .ref (p0a 6), .null, .ref (p0a 8), .ref (p0a 9), .int (w3 0 9), .int (w3 0 10), .int (w3 0 11), .int (w3 0 12)]))]] : List va_W)) ++ (List.flatten ([[(q6, .inr (16, [.int 0, .int 0, .null, .null]))]] : List va_W))) := vD_fa (vD_perm hD (bP ((((List.Perm.refl _)).cons _).trans (List.Perm.swap _ _ _))))
      have hKx : va_K (dC, dI) cls ((List.flatten ([[]] : List (List (ClassId × FieldType)))) ++ (List.flatten ([[]] : List (List (ClassId × FieldType))))) s := vK_fa (vK_perm hK (bP ((((List.Perm.refl _)).cons _).trans (List.Perm.swap _ _ _))))
      have hPc := vP_l hPx
      have hDc := vD_l hDx
      have hKc := vK_l hKx
      have hFc := vfree hDx hS hA
      refine va_calli (va_runV (As := [.int 4]) (rest := [.int 0, .ref q6, .ref q6]) ⟨hx, hb, hml, hown, hts⟩ (kX13_draw l dC dI (p0a := (st0 (p0a 0) (st1 p0a 1 xv))) (p0w := w3) (p1 := 4) (xv := xv) (xm := xm) (xf := xf) (sz := _) (o := o_7) (hrun := hc_7)) (cwV 1 hts (gi_V qw1563 qw1564 qw1565 qw1566 (gi_z qw1562)) rfl rfl rfl (by decide +kernel) ⟨rmF (Nat.le_of_ble_eq_true rfl), rmL (Nat.le_of_ble_eq_true rfl)⟩) ⟨PRE.blind, va_recv hKc hPc (ci := 14) (q0 := 0) rfl rfl, PRE.of (ENV.add hE xq9_m hro_x) hS hFc hPc hKc hDc⟩ rfl rfl hl.1 rfl (lv_room (Nat.le_of_ble_eq_true rfl)) dX13_part_46 ⟨(show (1) + 0 ≤ (2 * C9 + 2) from by omega), (show (4 * (1)) + 0 ≤ 4 * (2 * C9 + 2) from by omega)⟩) hS (fun q _ h => hFc q h) hFc (fun r8 u t H locs ht hvm hw hB hz1 hk1 hS => ?_)
      obtain ⟨b1, b2, b3⟩ := hB
      rw [ht] at b1
      obtain ⟨hP, hD, hK⟩ := JOINC (wc := (List.flatten ([[((p0a 0), .inr (14, [.ref xv, .int (w3 0 1), .int (w3 0 2), .int (w3 0 3), .int (w3 0 4), .ref (p0a 6), .null, .ref (p0a 8), .ref (p0a 9), .int (w3 0 9), .int (w3 0 10), .int (w3 0 11), .int (w3 0 12)]))]] : List va_W))) (wr := (List.flatten ([[(q6, .inr (16, [.int 0, .int 0, .null, .null]))]] : List va_W))) (w1 := (List.flatten ([[((p0a 0), .inr (14, [.ref xv, .int ((o_7.2) 0 1), .int ((o_7.2) 0 2), .int ((o_7.2) 0 3), .int ((o_7.2) 0 4), .ref (p0a 6), .null, .ref (p0a 8), .ref (p0a 9), .int ((o_7.2) 0 9), .int ((o_7.2) 0 10), .int ((o_7.2) 0 11), .int ((o_7.2) 0 12)]))]] : List va_W))) (t1 := (List.flatten ([[]] : List (List (ClassId × FieldType))))) hPx hDx hKx hk1 hFc b1 (va_K.moved hvm.symm b2) b3
      have hP : va_P (dC, dI) cls (List.flatten ([[(q6, .inr (16, [.int 0, .int 0, .null, .null]))], [((p0a 0), .inr (14, [.ref xv, .int ((o_7.2) 0 1), .int ((o_7.2) 0 2), .int ((o_7.2) 0 3), .int ((o_7.2) 0 4), .ref (p0a 6), .null, .ref (p0a 8), .ref (p0a 9), .int ((o_7.2) 0 9), .int ((o_7.2) 0 10), .int ((o_7.2) 0 11), .int ((o_7.2) 0 12)]))]] : List va_W)) H := vP_perm (vP_fb hP) (bP ((((List.Perm.refl _)).cons _).trans (List.Perm.swap _ _ _)))
      have hD : va_D A (List.flatten ([[(q6, .inr (16, [.int 0, .int 0, .null, .null]))], [((p0a 0), .inr (14, [.ref xv, .int ((o_7.2) 0 1), .int ((o_7.2) 0 2), .int ((o_7.2) 0 3), .int ((o_7.2) 0 4), .ref (p0a 6), .null, .ref (p0a 8), .ref (p0a 9), .int ((o_7.2) 0 9), .int ((o_7.2) 0 10), .int ((o_7.2) 0 11), .int ((o_7.2) 0 12)]))]] : List va_W)) := vD_perm (vD_fb hD) (bP ((((List.Perm.refl _)).cons _).trans (List.Perm.swap _ _ _)))
      have hK : va_K (dC, dI) cls (List.flatten ([[], []] : List (List (ClassId × FieldType)))) s := vK_perm (vK_fb hK) (bP ((((List.Perm.refl _)).cons _).trans (List.Perm.swap _ _ _)))
      obtain rfl : r8 = (o_7.1) := hw
      rcases br9 hrun with ⟨hc9, hrun⟩ | ⟨hc9, hrun⟩
      · refine lv_if_ne (tgt := 62) hx hb dX13_part_49 (by decide) (fun c => absurd hc9 c) (fun _ => ?_)
        refine lv_aload_n hx hb dX13_part_52 rfl (lv_at hl 1 rfl) ?_
        refine lv_sipush (v := 5000) hx hb dX13_part_53 (by decide) ?_
        obtain ⟨o_10, hc_10, hrun⟩ := bnd9 hrun
        have hPx : va_P (dC, dI) cls ((List.flatten ([[((p0a 0), .inr (14, [.ref xv, .int ((o_7.2) 0 1), .int ((o_7.2) 0 2), .int ((o_7.2) 0 3), .int ((o_7.2) 0 4), .ref (p0a 6), .null, .ref (p0a 8), .ref (p0a 9), .int ((o_7.2) 0 9), .int ((o_7.2) 0 10), .int ((o_7.2) 0 11), .int ((o_7.2) 0 12)]))]] : List va_W)) ++ (List.flatten ([[(q6, .inr (16, [.int 0, .int 0, .null, .null]))]] : List va_W))) H := vP_fa (vP_perm hP (bP ((((List.Perm.refl _)).cons _).trans (List.Perm.swap _ _ _))))
        have hDx : va_D A ((List.flatten ([[((p0a 0), .inr (14, [.ref xv, .int ((o_7.2) 0 1), .int ((o_7.2) 0 2), .int ((o_7.2) 0 3), .int ((o_7.2) 0 4), .ref (p0a 6), .null, .ref (p0a 8), .ref (p0a 9), .int ((o_7.2) 0 9), .int ((o_7.2) 0 10), .int ((o_7.2) 0 11), .int ((o_7.2) 0 12)]))]] : List va_W)) ++ (List.flatten ([[(q6, .inr (16, [.int 0, .int 0, .null, .null]))]] : List va_W))) := vD_fa (vD_perm hD (bP ((((List.Perm.refl _)).cons _).trans (List.Perm.swap _ _ _))))
        have hKx : va_K (dC, dI) cls ((List.flatten ([[]] : List (List (ClassId × FieldType)))) ++ (List.flatten ([[]] : List (List (ClassId × FieldType))))) s := vK_fa (vK_perm hK (bP ((((List.Perm.refl _)).cons _).trans (List.Perm.swap _ _ _))))
        have hPc := vP_l hPx
        have hDc := vD_l hDx
        have hKc := vK_l hKx
        have hFc := vfree hDx hS hA
        refine va_calli (va_runV (As := [.int 5000]) (rest := [.int 0, .ref q6, .ref q6]) ⟨hx, hb, hml, hown, hts⟩ (kX13_draw l dC dI (p0a := (st0 (p0a 0) (st1 p0a 1 xv))) (p0w := (o_7.2)) (p1 := 5000) (xv := xv) (xm := xm) (xf := xf) (sz := _) (o := o_10) (hrun := hc_10)) (cwV 1 hts (gi_V qw1563 qw1564 qw1565 qw1566 (gi_z qw1562)) rfl rfl rfl (by decide +kernel) ⟨rmF (Nat.le_of_ble_eq_true rfl), rmL (Nat.le_of_ble_eq_true rfl)⟩) ⟨PRE.blind, va_recv hKc hPc (ci := 14) (q0 := 0) rfl rfl, PRE.of (ENV.add hE xq9_m hro_x) hS hFc hPc hKc hDc⟩ rfl rfl hl.1 rfl (lv_room (Nat.le_of_ble_eq_true rfl)) dX13_part_56 ⟨(show (1) + 0 ≤ (2 * C9 + 2) from by omega), (show (4 * (1)) + 0 ≤ 4 * (2 * C9 + 2) from by omega)⟩) hS (fun q _ h => hFc q h) hFc (fun r11 u t H locs ht hvm hw hB hz1 hk1 hS => ?_)
        obtain ⟨b1, b2, b3⟩ := hB
        rw [ht] at b1
        obtain ⟨hP, hD, hK⟩ := JOINC (wc := (List.flatten ([[((p0a 0), .inr (14, [.ref xv, .int ((o_7.2) 0 1), .int ((o_7.2) 0 2), .int ((o_7.2) 0 3), .int ((o_7.2) 0 4), .ref (p0a 6), .null, .ref (p0a 8), .ref (p0a 9), .int ((o_7.2) 0 9), .int ((o_7.2) 0 10), .int ((o_7.2) 0 11), .int ((o_7.2) 0 12)]))]] : List va_W))) (wr := (List.flatten ([[(q6, .inr (16, [.int 0, .int 0, .null, .null]))]] : List va_W))) (w1 := (List.flatten ([[((p0a 0), .inr (14, [.ref xv, .int ((o_10.2) 0 1), .int ((o_10.2) 0 2), .int ((o_10.2) 0 3), .int ((o_10.2) 0 4), .ref (p0a 6), .null, .ref (p0a 8), .ref (p0a 9), .int ((o_10.2) 0 9), .int ((o_10.2) 0 10), .int ((o_10.2) 0 11), .int ((o_10.2) 0 12)]))]] : List va_W))) (t1 := (List.flatten ([[]] : List (List (ClassId × FieldType))))) hPx hDx hKx hk1 hFc b1 (va_K.moved hvm.symm b2) b3
        have hP : va_P (dC, dI) cls (List.flatten ([[(q6, .inr (16, [.int 0, .int 0, .null, .null]))], [((p0a 0), .inr (14, [.ref xv, .int ((o_10.2) 0 1), .int ((o_10.2) 0 2), .int ((o_10.2) 0 3), .int ((o_10.2) 0 4), .ref (p0a 6), .null, .ref (p0a 8), .ref (p0a 9), .int ((o_10.2) 0 9), .int ((o_10.2) 0 10), .int ((o_10.2) 0 11), .int ((o_10.2) 0 12)]))]] : List va_W)) H := vP_perm (vP_fb hP) (bP ((((List.Perm.refl _)).cons _).trans (List.Perm.swap _ _ _)))
        have hD : va_D A (List.flatten ([[(q6, .inr (16, [.int 0, .int 0, .null, .null]))], [((p0a 0), .inr (14, [.ref xv, .int ((o_10.2) 0 1), .int ((o_10.2) 0 2), .int ((o_10.2) 0 3), .int ((o_10.2) 0 4), .ref (p0a 6), .null, .ref (p0a 8), .ref (p0a 9), .int ((o_10.2) 0 9), .int ((o_10.2) 0 10), .int ((o_10.2) 0 11), .int ((o_10.2) 0 12)]))]] : List va_W)) := vD_perm (vD_fb hD) (bP ((((List.Perm.refl _)).cons _).trans (List.Perm.swap _ _ _)))
        have hK : va_K (dC, dI) cls (List.flatten ([[], []] : List (List (ClassId × FieldType)))) s := vK_perm (vK_fb hK) (bP ((((List.Perm.refl _)).cons _).trans (List.Perm.swap _ _ _)))
        obtain rfl : r11 = (o_10.1) := hw
        refine lv_goto (tgt := 68) hx hb dX13_part_59 (by decide) ?_
        refine lv_null hx hb dX13_part_68 ?_
        refine lv_null hx hb dX13_part_69 ?_
        obtain ⟨hz12, hrun⟩ := chk9 hrun
        have hPx : va_P (dC, dI) cls ((List.flatten ([[(q6, .inr (16, [.int 0, .int 0, .null, .null]))]] : List va_W)) ++ (List.flatten ([[((p0a 0), .inr (14, [.ref xv, .int ((o_10.2) 0 1), .int ((o_10.2) 0 2), .int ((o_10.2) 0 3), .int ((o_10.2) 0 4), .ref (p0a 6), .null, .ref (p0a 8), .ref (p0a 9), .int ((o_10.2) 0 9), .int ((o_10.2) 0 10), .int ((o_10.2) 0 11), .int ((o_10.2) 0 12)]))]] : List va_W))) H := vP_fa (vP_perm hP (bP (List.Perm.refl _)))
        have hDx : va_D A ((List.flatten ([[(q6, .inr (16, [.int 0, .int 0, .null, .null]))]] : List va_W)) ++ (List.flatten ([[((p0a 0), .inr (14, [.ref xv, .int ((o_10.2) 0 1), .int ((o_10.2) 0 2), .int ((o_10.2) 0 3), .int ((o_10.2) 0 4), .ref (p0a 6), .null, .ref (p0a 8), .ref (p0a 9), .int ((o_10.2) 0 9), .int ((o_10.2) 0 10), .int ((o_10.2) 0 11), .int ((o_10.2) 0 12)]))]] : List va_W))) := vD_fa (vD_perm hD (bP (List.Perm.refl _)))
        have hKx : va_K (dC, dI) cls ((List.flatten ([[]] : List (List (ClassId × FieldType)))) ++ (List.flatten ([[]] : List (List (ClassId × FieldType))))) s := vK_fa (vK_perm hK (bP (List.Perm.refl _)))
        have hPc := vP_l hPx
        have hDc := vD_l hDx
        have hKc := vK_l hKx
        have hFc := vfree hDx hS hA
        refine va_callv (va_runI (As := [.int 0, .int (o_10.1), .null, .null]) (rest := [.ref q6]) ⟨hx, hb, hml, hown, hts⟩ (kX14_init_nn l dC dI (p0h := q6) (p1 := 0) (p2 := (o_10.1)) (sz := _)) (cwI 4 hts (gi_z qw1576) rfl rfl rfl (hts _ qw1570) (hts _ qw1577) (hts _ qw1578) rfl (by decide +kernel) ⟨rmF (Nat.le_of_ble_eq_true rfl), rmL (Nat.le_of_ble_eq_true rfl)⟩) ⟨PRE.blind, PRE.of hE hS hFc hPc hKc hDc⟩ rfl rfl hl.1 rfl (lv_room (Nat.le_of_ble_eq_true rfl)) dX13_part_70 ⟨(show (1) + 0 ≤ (2 * C9 + 2) from by omega), (show (4 * (1)) + 0 ≤ 4 * (2 * C9 + 2) from by omega)⟩) hS (fun q _ h => hFc q h) hFc (fun u t H locs ht hvm hw hB hz1 hk1 hS => ?_)
        obtain ⟨b1, b2, b3⟩ := hB
        rw [ht] at b1
        obtain ⟨hP, hD, hK⟩ := JOINC (wc := (List.flatten ([[(q6, .inr (16, [.int 0, .int 0, .null, .null]))]] : List va_W))) (wr := (List.flatten ([[((p0a 0), .inr (14, [.ref xv, .int ((o_10.2) 0 1), .int ((o_10.2) 0 2), .int ((o_10.2) 0 3), .int ((o_10.2) 0 4), .ref (p0a 6), .null, .ref (p0a 8), .ref (p0a 9), .int ((o_10.2) 0 9), .int ((o_10.2) 0 10), .int ((o_10.2) 0 11), .int ((o_10.2) 0 12)]))]] : List va_W))) (w1 := (List.flatten ([[(q6, .inr (16, [.int 0, .int (o_10.1), .null, .null]))]] : List va_W))) (t1 := (List.flatten ([[]] : List (List (ClassId × FieldType))))) hPx hDx hKx hk1 hFc b1 (va_K.moved hvm.symm b2) b3
        have hP : va_P (dC, dI) cls (List.flatten ([[(q6, .inr (16, [.int 0, .int (o_10.1), .null, .null]))], [((p0a 0), .inr (14, [.ref xv, .int ((o_10.2) 0 1), .int ((o_10.2) 0 2), .int ((o_10.2) 0 3), .int ((o_10.2) 0 4), .ref (p0a 6), .null, .ref (p0a 8), .ref (p0a 9), .int ((o_10.2) 0 9), .int ((o_10.2) 0 10), .int ((o_10.2) 0 11), .int ((o_10.2) 0 12)]))]] : List va_W)) H := vP_perm (vP_fb hP) (bP (List.Perm.refl _))
        have hD : va_D A (List.flatten ([[(q6, .inr (16, [.int 0, .int (o_10.1), .null, .null]))], [((p0a 0), .inr (14, [.ref xv, .int ((o_10.2) 0 1), .int ((o_10.2) 0 2), .int ((o_10.2) 0 3), .int ((o_10.2) 0 4), .ref (p0a 6), .null, .ref (p0a 8), .ref (p0a 9), .int ((o_10.2) 0 9), .int ((o_10.2) 0 10), .int ((o_10.2) 0 11), .int ((o_10.2) 0 12)]))]] : List va_W)) := vD_perm (vD_fb hD) (bP (List.Perm.refl _))
        have hK : va_K (dC, dI) cls (List.flatten ([[], []] : List (List (ClassId × FieldType)))) s := vK_perm (vK_fb hK) (bP (List.Perm.refl _))
        refine lv_goto (tgt := 91) hx hb dX13_part_73 (by decide) ?_
        have ho9 : ((pb0 0 (o_10.1)), (o_10.2)) = o := Option.some.inj hrun
        have hP : va_P (dC, dI) cls (List.flatten ([[((p0a 0), .inr (14, [.ref xv, .int ((o_10.2) 0 1), .int ((o_10.2) 0 2), .int ((o_10.2) 0 3), .int ((o_10.2) 0 4), .ref (p0a 6), .null, .ref (p0a 8), .ref (p0a 9), .int ((o_10.2) 0 9), .int ((o_10.2) 0 10), .int ((o_10.2) 0 11), .int ((o_10.2) 0 12)]))], [(q6, .inr (16, [.int 0, .int (o_10.1), .null, .null]))]] : List va_W)) H := vP_perm hP (bP ((((List.Perm.refl _)).cons _).trans (List.Perm.swap _ _ _)))
        have hD : va_D A (List.flatten ([[((p0a 0), .inr (14, [.ref xv, .int ((o_10.2) 0 1), .int ((o_10.2) 0 2), .int ((o_10.2) 0 3), .int ((o_10.2) 0 4), .ref (p0a 6), .null, .ref (p0a 8), .ref (p0a 9), .int ((o_10.2) 0 9), .int ((o_10.2) 0 10), .int ((o_10.2) 0 11), .int ((o_10.2) 0 12)]))], [(q6, .inr (16, [.int 0, .int (o_10.1), .null, .null]))]] : List va_W)) := vD_perm hD (bP ((((List.Perm.refl _)).cons _).trans (List.Perm.swap _ _ _)))
        subst ho9
        subst hQ
        have hph : ph9 (List.flatten ([[(q6, .inr (16, [.int 0, .int (o_10.1), .null, .null]))]] : List va_W)) (D9 + 1) q6 (pb0 0 (o_10.1)) := (ph_0 (fl_mem 0 rfl (List.mem_singleton.mpr rfl)) hz12)
        refine W.widen (k := (2 * C9 + 2)) (n := 4 * (2 * C9 + 2)) (by omega) (by omega) ?_
        exact W.aret (v := .ref q6) (rt := .object RX14) hx hb hr (Or.inl ⟨_, rfl⟩) (Or.inr ⟨_, rfl⟩) (fun t ht hW => ⟨⟨(), q6, rfl, trivial, (List.flatten ([[(q6, .inr (16, [.int 0, .int (o_10.1), .null, .null]))]] : List va_W)), hph, by rw [ht, fl_two]; exact hP, va_K.moved hW.alike hK, by rw [fl_two]; exact hD⟩, hS.F ht⟩) hS.2.2 dX13_part_91
      · refine lv_if_ne (tgt := 62) hx hb dX13_part_49 (by decide) (fun _ => ?_) (fun c => absurd c hc9)
        refine lv_aload_n hx hb dX13_part_62 rfl (lv_at hl 1 rfl) ?_
        refine lv_bipush (v := 9) hx hb dX13_part_63 (by decide) ?_
        obtain ⟨o_13, hc_13, hrun⟩ := bnd9 hrun
        have hPx : va_P (dC, dI) cls ((List.flatten ([[((p0a 0), .inr (14, [.ref xv, .int ((o_7.2) 0 1), .int ((o_7.2) 0 2), .int ((o_7.2) 0 3), .int ((o_7.2) 0 4), .ref (p0a 6), .null, .ref (p0a 8), .ref (p0a 9), .int ((o_7.2) 0 9), .int ((o_7.2) 0 10), .int ((o_7.2) 0 11), .int ((o_7.2) 0 12)]))]] : List va_W)) ++ (List.flatten ([[(q6, .inr (16, [.int 0, .int 0, .null, .null]))]] : List va_W))) H := vP_fa (vP_perm hP (bP ((((List.Perm.refl _)).cons _).trans (List.Perm.swap _ _ _))))
        have hDx : va_D A ((List.flatten ([[((p0a 0), .inr (14, [.ref xv, .int ((o_7.2) 0 1), .int ((o_7.2) 0 2), .int ((o_7.2) 0 3), .int ((o_7.2) 0 4), .ref (p0a 6), .null, .ref (p0a 8), .ref (p0a 9), .int ((o_7.2) 0 9), .int ((o_7.2) 0 10), .int ((o_7.2) 0 11), .int ((o_7.2) 0 12)]))]] : List va_W)) ++ (List.flatten ([[(q6, .inr (16, [.int 0, .int 0, .null, .null]))]] : List va_W))) := vD_fa (vD_perm hD (bP ((((List.Perm.refl _)).cons _).trans (List.Perm.swap _ _ _))))
        have hKx : va_K (dC, dI) cls ((List.flatten ([[]] : List (List (ClassId × FieldType)))) ++ (List.flatten ([[]] : List (List (ClassId × FieldType))))) s := vK_fa (vK_perm hK (bP ((((List.Perm.refl _)).cons _).trans (List.Perm.swap _ _ _))))
        have hPc := vP_l hPx
        have hDc := vD_l hDx
        have hKc := vK_l hKx
        have hFc := vfree hDx hS hA
        refine va_calli (va_runV (As := [.int 9]) (rest := [.int 0, .ref q6, .ref q6]) ⟨hx, hb, hml, hown, hts⟩ (kX13_draw l dC dI (p0a := (st0 (p0a 0) (st1 p0a 1 xv))) (p0w := (o_7.2)) (p1 := 9) (xv := xv) (xm := xm) (xf := xf) (sz := _) (o := o_13) (hrun := hc_13)) (cwV 1 hts (gi_V qw1563 qw1564 qw1565 qw1566 (gi_z qw1562)) rfl rfl rfl (by decide +kernel) ⟨rmF (Nat.le_of_ble_eq_true rfl), rmL (Nat.le_of_ble_eq_true rfl)⟩) ⟨PRE.blind, va_recv hKc hPc (ci := 14) (q0 := 0) rfl rfl, PRE.of (ENV.add hE xq9_m hro_x) hS hFc hPc hKc hDc⟩ rfl rfl hl.1 rfl (lv_room (Nat.le_of_ble_eq_true rfl)) dX13_part_65 ⟨(show (1) + 0 ≤ (2 * C9 + 2) from by omega), (show (4 * (1)) + 0 ≤ 4 * (2 * C9 + 2) from by omega)⟩) hS (fun q _ h => hFc q h) hFc (fun r14 u t H locs ht hvm hw hB hz1 hk1 hS => ?_)
        obtain ⟨b1, b2, b3⟩ := hB
        rw [ht] at b1
        obtain ⟨hP, hD, hK⟩ := JOINC (wc := (List.flatten ([[((p0a 0), .inr (14, [.ref xv, .int ((o_7.2) 0 1), .int ((o_7.2) 0 2), .int ((o_7.2) 0 3), .int ((o_7.2) 0 4), .ref (p0a 6), .null, .ref (p0a 8), .ref (p0a 9), .int ((o_7.2) 0 9), .int ((o_7.2) 0 10), .int ((o_7.2) 0 11), .int ((o_7.2) 0 12)]))]] : List va_W))) (wr := (List.flatten ([[(q6, .inr (16, [.int 0, .int 0, .null, .null]))]] : List va_W))) (w1 := (List.flatten ([[((p0a 0), .inr (14, [.ref xv, .int ((o_13.2) 0 1), .int ((o_13.2) 0 2), .int ((o_13.2) 0 3), .int ((o_13.2) 0 4), .ref (p0a 6), .null, .ref (p0a 8), .ref (p0a 9), .int ((o_13.2) 0 9), .int ((o_13.2) 0 10), .int ((o_13.2) 0 11), .int ((o_13.2) 0 12)]))]] : List va_W))) (t1 := (List.flatten ([[]] : List (List (ClassId × FieldType))))) hPx hDx hKx hk1 hFc b1 (va_K.moved hvm.symm b2) b3
        have hP : va_P (dC, dI) cls (List.flatten ([[(q6, .inr (16, [.int 0, .int 0, .null, .null]))], [((p0a 0), .inr (14, [.ref xv, .int ((o_13.2) 0 1), .int ((o_13.2) 0 2), .int ((o_13.2) 0 3), .int ((o_13.2) 0 4), .ref (p0a 6), .null, .ref (p0a 8), .ref (p0a 9), .int ((o_13.2) 0 9), .int ((o_13.2) 0 10), .int ((o_13.2) 0 11), .int ((o_13.2) 0 12)]))]] : List va_W)) H := vP_perm (vP_fb hP) (bP ((((List.Perm.refl _)).cons _).trans (List.Perm.swap _ _ _)))
        have hD : va_D A (List.flatten ([[(q6, .inr (16, [.int 0, .int 0, .null, .null]))], [((p0a 0), .inr (14, [.ref xv, .int ((o_13.2) 0 1), .int ((o_13.2) 0 2), .int ((o_13.2) 0 3), .int ((o_13.2) 0 4), .ref (p0a 6), .null, .ref (p0a 8), .ref (p0a 9), .int ((o_13.2) 0 9), .int ((o_13.2) 0 10), .int ((o_13.2) 0 11), .int ((o_13.2) 0 12)]))]] : List va_W)) := vD_perm (vD_fb hD) (bP ((((List.Perm.refl _)).cons _).trans (List.Perm.swap _ _ _)))
        have hK : va_K (dC, dI) cls (List.flatten ([[], []] : List (List (ClassId × FieldType)))) s := vK_perm (vK_fb hK) (bP ((((List.Perm.refl _)).cons _).trans (List.Perm.swap _ _ _)))
        obtain rfl : r14 = (o_13.1) := hw
        refine lv_null hx hb dX13_part_68 ?_
        refine lv_null hx hb dX13_part_69 ?_
        obtain ⟨hz15, hrun⟩ := chk9 hrun
        have hPx : va_P (dC, dI) cls ((List.flatten ([[(q6, .inr (16, [.int 0, .int 0, .null, .null]))]] : List va_W)) ++ (List.flatten ([[((p0a 0), .inr (14, [.ref xv, .int ((o_13.2) 0 1), .int ((o_13.2) 0 2), .int ((o_13.2) 0 3), .int ((o_13.2) 0 4), .ref (p0a 6), .null, .ref (p0a 8), .ref (p0a 9), .int ((o_13.2) 0 9), .int ((o_13.2) 0 10), .int ((o_13.2) 0 11), .int ((o_13.2) 0 12)]))]] : List va_W))) H := vP_fa (vP_perm hP (bP (List.Perm.refl _)))
        have hDx : va_D A ((List.flatten ([[(q6, .inr (16, [.int 0, .int 0, .null, .null]))]] : List va_W)) ++ (List.flatten ([[((p0a 0), .inr (14, [.ref xv, .int ((o_13.2) 0 1), .int ((o_13.2) 0 2), .int ((o_13.2) 0 3), .int ((o_13.2) 0 4), .ref (p0a 6), .null, .ref (p0a 8), .ref (p0a 9), .int ((o_13.2) 0 9), .int ((o_13.2) 0 10), .int ((o_13.2) 0 11), .int ((o_13.2) 0 12)]))]] : List va_W))) := vD_fa (vD_perm hD (bP (List.Perm.refl _)))
        have hKx : va_K (dC, dI) cls ((List.flatten ([[]] : List (List (ClassId × FieldType)))) ++ (List.flatten ([[]] : List (List (ClassId × FieldType))))) s := vK_fa (vK_perm hK (bP (List.Perm.refl _)))
        have hPc := vP_l hPx
        have hDc := vD_l hDx
        have hKc := vK_l hKx
        have hFc := vfree hDx hS hA
        refine va_callv (va_runI (As := [.int 0, .int (o_13.1), .null, .null]) (rest := [.ref q6]) ⟨hx, hb, hml, hown, hts⟩ (kX14_init_nn l dC dI (p0h := q6) (p1 := 0) (p2 := (o_13.1)) (sz := _)) (cwI 4 hts (gi_z qw1576) rfl rfl rfl (hts _ qw1570) (hts _ qw1577) (hts _ qw1578) rfl (by decide +kernel) ⟨rmF (Nat.le_of_ble_eq_true rfl), rmL (Nat.le_of_ble_eq_true rfl)⟩) ⟨PRE.blind, PRE.of hE hS hFc hPc hKc hDc⟩ rfl rfl hl.1 rfl (lv_room (Nat.le_of_ble_eq_true rfl)) dX13_part_70 ⟨(show (1) + 0 ≤ (2 * C9 + 2) from by omega), (show (4 * (1)) + 0 ≤ 4 * (2 * C9 + 2) from by omega)⟩) hS (fun q _ h => hFc q h) hFc (fun u t H locs ht hvm hw hB hz1 hk1 hS => ?_)
        obtain ⟨b1, b2, b3⟩ := hB
        rw [ht] at b1
        obtain ⟨hP, hD, hK⟩ := JOINC (wc := (List.flatten ([[(q6, .inr (16, [.int 0, .int 0, .null, .null]))]] : List va_W))) (wr := (List.flatten ([[((p0a 0), .inr (14, [.ref xv, .int ((o_13.2) 0 1), .int ((o_13.2) 0 2), .int ((o_13.2) 0 3), .int ((o_13.2) 0 4), .ref (p0a 6), .null, .ref (p0a 8), .ref (p0a 9), .int ((o_13.2) 0 9), .int ((o_13.2) 0 10), .int ((o_13.2) 0 11), .int ((o_13.2) 0 12)]))]] : List va_W))) (w1 := (List.flatten ([[(q6, .inr (16, [.int 0, .int (o_13.1), .null, .null]))]] : List va_W))) (t1 := (List.flatten ([[]] : List (List (ClassId × FieldType))))) hPx hDx hKx hk1 hFc b1 (va_K.moved hvm.symm b2) b3
        have hP : va_P (dC, dI) cls (List.flatten ([[(q6, .inr (16, [.int 0, .int (o_13.1), .null, .null]))], [((p0a 0), .inr (14, [.ref xv, .int ((o_13.2) 0 1), .int ((o_13.2) 0 2), .int ((o_13.2) 0 3), .int ((o_13.2) 0 4), .ref (p0a 6), .null, .ref (p0a 8), .ref (p0a 9), .int ((o_13.2) 0 9), .int ((o_13.2) 0 10), .int ((o_13.2) 0 11), .int ((o_13.2) 0 12)]))]] : List va_W)) H := vP_perm (vP_fb hP) (bP (List.Perm.refl _))
        have hD : va_D A (List.flatten ([[(q6, .inr (16, [.int 0, .int (o_13.1), .null, .null]))], [((p0a 0), .inr (14, [.ref xv, .int ((o_13.2) 0 1), .int ((o_13.2) 0 2), .int ((o_13.2) 0 3), .int ((o_13.2) 0 4), .ref (p0a 6), .null, .ref (p0a 8), .ref (p0a 9), .int ((o_13.2) 0 9), .int ((o_13.2) 0 10), .int ((o_13.2) 0 11), .int ((o_13.2) 0 12)]))]] : List va_W)) := vD_perm (vD_fb hD) (bP (List.Perm.refl _))
        have hK : va_K (dC, dI) cls (List.flatten ([[], []] : List (List (ClassId × FieldType)))) s := vK_perm (vK_fb hK) (bP (List.Perm.refl _))
        refine lv_goto (tgt := 91) hx hb dX13_part_73 (by decide) ?_
        have ho9 : ((pb0 0 (o_13.1)), (o_13.2)) = o := Option.some.inj hrun
        have hP : va_P (dC, dI) cls (List.flatten ([[((p0a 0), .inr (14, [.ref xv, .int ((o_13.2) 0 1), .int ((o_13.2) 0 2), .int ((o_13.2) 0 3), .int ((o_13.2) 0 4), .ref (p0a 6), .null, .ref (p0a 8), .ref (p0a 9), .int ((o_13.2) 0 9), .int ((o_13.2) 0 10), .int ((o_13.2) 0 11), .int ((o_13.2) 0 12)]))], [(q6, .inr (16, [.int 0, .int (o_13.1), .null, .null]))]] : List va_W)) H := vP_perm hP (bP ((((List.Perm.refl _)).cons _).trans (List.Perm.swap _ _ _)))
        have hD : va_D A (List.flatten ([[((p0a 0), .inr (14, [.ref xv, .int ((o_13.2) 0 1), .int ((o_13.2) 0 2), .int ((o_13.2) 0 3), .int ((o_13.2) 0 4), .ref (p0a 6), .null, .ref (p0a 8), .ref (p0a 9), .int ((o_13.2) 0 9), .int ((o_13.2) 0 10), .int ((o_13.2) 0 11), .int ((o_13.2) 0 12)]))], [(q6, .inr (16, [.int 0, .int (o_13.1), .null, .null]))]] : List va_W)) := vD_perm hD (bP ((((List.Perm.refl _)).cons _).trans (List.Perm.swap _ _ _)))
        subst ho9
        subst hQ
        have hph : ph9 (List.flatten ([[(q6, .inr (16, [.int 0, .int (o_13.1), .null, .null]))]] : List va_W)) (D9 + 1) q6 (pb0 0 (o_13.1)) := (ph_0 (fl_mem 0 rfl (List.mem_singleton.mpr rfl)) hz15)
        refine W.widen (k := (2 * C9 + 2)) (n := 4 * (2 * C9 + 2)) (by omega) (by omega) ?_
        exact W.aret (v := .ref q6) (rt := .object RX14) hx hb hr (Or.inl ⟨_, rfl⟩) (Or.inr ⟨_, rfl⟩) (fun t ht hW => ⟨⟨(), q6, rfl, trivial, (List.flatten ([[(q6, .inr (16, [.int 0, .int (o_13.1), .null, .null]))]] : List va_W)), hph, by rw [ht, fl_two]; exact hP, va_K.moved hW.alike hK, by rw [fl_two]; exact hD⟩, hS.F ht⟩) hS.2.2 dX13_part_91
    · refine lv_if_ne (tgt := 76) hx hb dX13_part_36 (by decide) (fun _ => ?_) (fun c => absurd c hc5)
      refine va_new (ci := 16) (fs := [.int 0, .int 0, .null, .null]) (C := RX14) (T := TX14) (N := 4) hx hb hts i_X14 tyX14 tyX14_ok hown (hts _ qw1568) (hts _ qw1569) (hts _ qw1570) hK hP hD hS hA rfl df_X14 (show 0 + 1 ≤ (2 * C9 + 2) from by omega) (show 0 + 4 ≤ 4 * (2 * C9 + 2) from by omega) dX13_part_76 (fun q16 H hP hD hS => ?_)
      replace hP := vP_new hP
      replace hD := vD_new hD
      have hP : va_P (dC, dI) cls (List.flatten ([[(q16, .inr (16, [.int 0, .int 0, .null, .null]))], [((p0a 0), .inr (14, [.ref xv, .int (w3 0 1), .int (w3 0 2), .int (w3 0 3), .int (w3 0 4), .ref (p0a 6), .null, .ref (p0a 8), .ref (p0a 9), .int (w3 0 9), .int (w3 0 10), .int (w3 0 11), .int (w3 0 12)]))]] : List va_W)) H := hP
      have hD : va_D A (List.flatten ([[(q16, .inr (16, [.int 0, .int 0, .null, .null]))], [((p0a 0), .inr (14, [.ref xv, .int (w3 0 1), .int (w3 0 2), .int (w3 0 3), .int (w3 0 4), .ref (p0a 6), .null, .ref (p0a 8), .ref (p0a 9), .int (w3 0 9), .int (w3 0 10), .int (w3 0 11), .int (w3 0 12)]))]] : List va_W)) := hD
      have hK : va_K (dC, dI) cls (List.flatten ([[], []] : List (List (ClassId × FieldType)))) s := hK
      refine W.widen (k := (1)) (n := (4 * (1))) (by omega) (by omega) ?_
      refine lv_dup hx hb dX13_part_79 rfl ?_
      refine lv_iconst (v := 1) hx hb dX13_part_80 (by decide) ?_
      refine lv_aload_n hx hb dX13_part_81 rfl (lv_at hl 1 rfl) ?_
      refine lv_iconst (v := 4) hx hb dX13_part_82 (by decide) ?_
      obtain ⟨o_17, hc_17, hrun⟩ := bnd9 hrun
      have hPx : va_P (dC, dI) cls ((List.flatten ([[((p0a 0), .inr (14, [.ref xv, .int (w3 0 1), .int (w3 0 2), .int (w3 0 3), .int (w3 0 4), .ref (p0a 6), .null, .ref (p0a 8), .ref (p0a 9), .int (w3 0 9), .int (w3 0 10), .int (w3 0 11), .int (w3 0 12)]))]] : List va_W)) ++ (List.flatten ([[(q16, .inr (16, [.int 0, .int 0, .null, .null]))]] : List va_W))) H := vP_fa (vP_perm hP (bP ((((List.Perm.refl _)).cons _).trans (List.Perm.swap _ _ _))))
      have hDx : va_D A ((List.flatten ([[((p0a 0), .inr (14, [.ref xv, .int (w3 0 1), .int (w3 0 2), .int (w3 0 3), .int (w3 0 4), .ref (p0a 6), .null, .ref (p0a 8), .ref (p0a 9), .int (w3 0 9), .int (w3 0 10), .int (w3 0 11), .int (w3 0 12)]))]] : List va_W)) ++ (List.flatten ([[(q16, .inr (16, [.int 0, .int 0, .null, .null]))]] : List va_W))) := vD_fa (vD_perm hD (bP ((((List.Perm.refl _)).cons _).trans (List.Perm.swap _ _ _))))
      have hKx : va_K (dC, dI) cls ((List.flatten ([[]] : List (List (ClassId × FieldType)))) ++ (List.flatten ([[]] : List (List (ClassId × FieldType))))) s := vK_fa (vK_perm hK (bP ((((List.Perm.refl _)).cons _).trans (List.Perm.swap _ _ _))))
      have hPc := vP_l hPx
      have hDc := vD_l hDx
      have hKc := vK_l hKx
      have hFc := vfree hDx hS hA
      refine va_calli (va_runV (As := [.int 4]) (rest := [.int 1, .ref q16, .ref q16]) ⟨hx, hb, hml, hown, hts⟩ (kX13_draw l dC dI (p0a := (st0 (p0a 0) (st1 p0a 1 xv))) (p0w := w3) (p1 := 4) (xv := xv) (xm := xm) (xf := xf) (sz := _) (o := o_17) (hrun := hc_17)) (cwV 1 hts (gi_V qw1563 qw1564 qw1565 qw1566 (gi_z qw1562)) rfl rfl rfl (by decide +kernel) ⟨rmF (Nat.le_of_ble_eq_true rfl), rmL (Nat.le_of_ble_eq_true rfl)⟩) ⟨PRE.blind, va_recv hKc hPc (ci := 14) (q0 := 0) rfl rfl, PRE.of (ENV.add hE xq9_m hro_x) hS hFc hPc hKc hDc⟩ rfl rfl hl.1 rfl (lv_room (Nat.le_of_ble_eq_true rfl)) dX13_part_83 ⟨(show (1) + 0 ≤ (2 * C9 + 2) from by omega), (show (4 * (1)) + 0 ≤ 4 * (2 * C9 + 2) from by omega)⟩) hS (fun q _ h => hFc q h) hFc (fun r18 u t H locs ht hvm hw hB hz1 hk1 hS => ?_)
      obtain ⟨b1, b2, b3⟩ := hB
      rw [ht] at b1
      obtain ⟨hP, hD, hK⟩ := JOINC (wc := (List.flatten ([[((p0a 0), .inr (14, [.ref xv, .int (w3 0 1), .int (w3 0 2), .int (w3 0 3), .int (w3 0 4), .ref (p0a 6), .null, .ref (p0a 8), .ref (p0a 9), .int (w3 0 9), .int (w3 0 10), .int (w3 0 11), .int (w3 0 12)]))]] : List va_W))) (wr := (List.flatten ([[(q16, .inr (16, [.int 0, .int 0, .null, .null]))]] : List va_W))) (w1 := (List.flatten ([[((p0a 0), .inr (14, [.ref xv, .int ((o_17.2) 0 1), .int ((o_17.2) 0 2), .int ((o_17.2) 0 3), .int ((o_17.2) 0 4), .ref (p0a 6), .null, .ref (p0a 8), .ref (p0a 9), .int ((o_17.2) 0 9), .int ((o_17.2) 0 10), .int ((o_17.2) 0 11), .int ((o_17.2) 0 12)]))]] : List va_W))) (t1 := (List.flatten ([[]] : List (List (ClassId × FieldType))))) hPx hDx hKx hk1 hFc b1 (va_K.moved hvm.symm b2) b3
      have hP : va_P (dC, dI) cls (List.flatten ([[(q16, .inr (16, [.int 0, .int 0, .null, .null]))], [((p0a 0), .inr (14, [.ref xv, .int ((o_17.2) 0 1), .int ((o_17.2) 0 2), .int ((o_17.2) 0 3), .int ((o_17.2) 0 4), .ref (p0a 6), .null, .ref (p0a 8), .ref (p0a 9), .int ((o_17.2) 0 9), .int ((o_17.2) 0 10), .int ((o_17.2) 0 11), .int ((o_17.2) 0 12)]))]] : List va_W)) H := vP_perm (vP_fb hP) (bP ((((List.Perm.refl _)).cons _).trans (List.Perm.swap _ _ _)))
      have hD : va_D A (List.flatten ([[(q16, .inr (16, [.int 0, .int 0, .null, .null]))], [((p0a 0), .inr (14, [.ref xv, .int ((o_17.2) 0 1), .int ((o_17.2) 0 2), .int ((o_17.2) 0 3), .int ((o_17.2) 0 4), .ref (p0a 6), .null, .ref (p0a 8), .ref (p0a 9), .int ((o_17.2) 0 9), .int ((o_17.2) 0 10), .int ((o_17.2) 0 11), .int ((o_17.2) 0 12)]))]] : List va_W)) := vD_perm (vD_fb hD) (bP ((((List.Perm.refl _)).cons _).trans (List.Perm.swap _ _ _)))
      have hK : va_K (dC, dI) cls (List.flatten ([[], []] : List (List (ClassId × FieldType)))) s := vK_perm (vK_fb hK) (bP ((((List.Perm.refl _)).cons _).trans (List.Perm.swap _ _ _)))
      obtain rfl : r18 = (o_17.1) := hw
      refine lv_null hx hb dX13_part_86 ?_
      refine lv_null hx hb dX13_part_87 ?_
      obtain ⟨hz19, hrun⟩ := chk9 hrun
      have hPx : va_P (dC, dI) cls ((List.flatten ([[(q16, .inr (16, [.int 0, .int 0, .null, .null]))]] : List va_W)) ++ (List.flatten ([[((p0a 0), .inr (14, [.ref xv, .int ((o_17.2) 0 1), .int ((o_17.2) 0 2), .int ((o_17.2) 0 3), .int ((o_17.2) 0 4), .ref (p0a 6), .null, .ref (p0a 8), .ref (p0a 9), .int ((o_17.2) 0 9), .int ((o_17.2) 0 10), .int ((o_17.2) 0 11), .int ((o_17.2) 0 12)]))]] : List va_W))) H := vP_fa (vP_perm hP (bP (List.Perm.refl _)))
      have hDx : va_D A ((List.flatten ([[(q16, .inr (16, [.int 0, .int 0, .null, .null]))]] : List va_W)) ++ (List.flatten ([[((p0a 0), .inr (14, [.ref xv, .int ((o_17.2) 0 1), .int ((o_17.2) 0 2), .int ((o_17.2) 0 3), .int ((o_17.2) 0 4), .ref (p0a 6), .null, .ref (p0a 8), .ref (p0a 9), .int ((o_17.2) 0 9), .int ((o_17.2) 0 10), .int ((o_17.2) 0 11), .int ((o_17.2) 0 12)]))]] : List va_W))) := vD_fa (vD_perm hD (bP (List.Perm.refl _)))
      have hKx : va_K (dC, dI) cls ((List.flatten ([[]] : List (List (ClassId × FieldType)))) ++ (List.flatten ([[]] : List (List (ClassId × FieldType))))) s := vK_fa (vK_perm hK (bP (List.Perm.refl _)))
      have hPc := vP_l hPx
      have hDc := vD_l hDx
      have hKc := vK_l hKx
      have hFc := vfree hDx hS hA
      refine va_callv (va_runI (As := [.int 1, .int (o_17.1), .null, .null]) (rest := [.ref q16]) ⟨hx, hb, hml, hown, hts⟩ (kX14_init_nn l dC dI (p0h := q16) (p1 := 1) (p2 := (o_17.1)) (sz := _)) (cwI 4 hts (gi_z qw1576) rfl rfl rfl (hts _ qw1570) (hts _ qw1577) (hts _ qw1578) rfl (by decide +kernel) ⟨rmF (Nat.le_of_ble_eq_true rfl), rmL (Nat.le_of_ble_eq_true rfl)⟩) ⟨PRE.blind, PRE.of hE hS hFc hPc hKc hDc⟩ rfl rfl hl.1 rfl (lv_room (Nat.le_of_ble_eq_true rfl)) dX13_part_88 ⟨(show (1) + 0 ≤ (2 * C9 + 2) from by omega), (show (4 * (1)) + 0 ≤ 4 * (2 * C9 + 2) from by omega)⟩) hS (fun q _ h => hFc q h) hFc (fun u t H locs ht hvm hw hB hz1 hk1 hS => ?_)
      obtain ⟨b1, b2, b3⟩ := hB
      rw [ht] at b1
      obtain ⟨hP, hD, hK⟩ := JOINC (wc := (List.flatten ([[(q16, .inr (16, [.int 0, .int 0, .null, .null]))]] : List va_W))) (wr := (List.flatten ([[((p0a 0), .inr (14, [.ref xv, .int ((o_17.2) 0 1), .int ((o_17.2) 0 2), .int ((o_17.2) 0 3), .int ((o_17.2) 0 4), .ref (p0a 6), .null, .ref (p0a 8), .ref (p0a 9), .int ((o_17.2) 0 9), .int ((o_17.2) 0 10), .int ((o_17.2) 0 11), .int ((o_17.2) 0 12)]))]] : List va_W))) (w1 := (List.flatten ([[(q16, .inr (16, [.int 1, .int (o_17.1), .null, .null]))]] : List va_W))) (t1 := (List.flatten ([[]] : List (List (ClassId × FieldType))))) hPx hDx hKx hk1 hFc b1 (va_K.moved hvm.symm b2) b3
      have hP : va_P (dC, dI) cls (List.flatten ([[(q16, .inr (16, [.int 1, .int (o_17.1), .null, .null]))], [((p0a 0), .inr (14, [.ref xv, .int ((o_17.2) 0 1), .int ((o_17.2) 0 2), .int ((o_17.2) 0 3), .int ((o_17.2) 0 4), .ref (p0a 6), .null, .ref (p0a 8), .ref (p0a 9), .int ((o_17.2) 0 9), .int ((o_17.2) 0 10), .int ((o_17.2) 0 11), .int ((o_17.2) 0 12)]))]] : List va_W)) H := vP_perm (vP_fb hP) (bP (List.Perm.refl _))
      have hD : va_D A (List.flatten ([[(q16, .inr (16, [.int 1, .int (o_17.1), .null, .null]))], [((p0a 0), .inr (14, [.ref xv, .int ((o_17.2) 0 1), .int ((o_17.2) 0 2), .int ((o_17.2) 0 3), .int ((o_17.2) 0 4), .ref (p0a 6), .null, .ref (p0a 8), .ref (p0a 9), .int ((o_17.2) 0 9), .int ((o_17.2) 0 10), .int ((o_17.2) 0 11), .int ((o_17.2) 0 12)]))]] : List va_W)) := vD_perm (vD_fb hD) (bP (List.Perm.refl _))
      have hK : va_K (dC, dI) cls (List.flatten ([[], []] : List (List (ClassId × FieldType)))) s := vK_perm (vK_fb hK) (bP (List.Perm.refl _))
      have ho9 : ((pb0 1 (o_17.1)), (o_17.2)) = o := Option.some.inj hrun
      have hP : va_P (dC, dI) cls (List.flatten ([[((p0a 0), .inr (14, [.ref xv, .int ((o_17.2) 0 1), .int ((o_17.2) 0 2), .int ((o_17.2) 0 3), .int ((o_17.2) 0 4), .ref (p0a 6), .null, .ref (p0a 8), .ref (p0a 9), .int ((o_17.2) 0 9), .int ((o_17.2) 0 10), .int ((o_17.2) 0 11), .int ((o_17.2) 0 12)]))], [(q16, .inr (16, [.int 1, .int (o_17.1), .null, .null]))]] : List va_W)) H := vP_perm hP (bP ((((List.Perm.refl _)).cons _).trans (List.Perm.swap _ _ _)))
      have hD : va_D A (List.flatten ([[((p0a 0), .inr (14, [.ref xv, .int ((o_17.2) 0 1), .int ((o_17.2) 0 2), .int ((o_17.2) 0 3), .int ((o_17.2) 0 4), .ref (p0a 6), .null, .ref (p0a 8), .ref (p0a 9), .int ((o_17.2) 0 9), .int ((o_17.2) 0 10), .int ((o_17.2) 0 11), .int ((o_17.2) 0 12)]))], [(q16, .inr (16, [.int 1, .int (o_17.1), .null, .null]))]] : List va_W)) := vD_perm hD (bP ((((List.Perm.refl _)).cons _).trans (List.Perm.swap _ _ _)))
      subst ho9
      subst hQ
      have hph : ph9 (List.flatten ([[(q16, .inr (16, [.int 1, .int (o_17.1), .null, .null]))]] : List va_W)) (D9 + 1) q16 (pb0 1 (o_17.1)) := (ph_0 (fl_mem 0 rfl (List.mem_singleton.mpr rfl)) hz19)
      refine W.widen (k := (2 * C9 + 2)) (n := 4 * (2 * C9 + 2)) (by omega) (by omega) ?_
      exact W.aret (v := .ref q16) (rt := .object RX14) hx hb hr (Or.inl ⟨_, rfl⟩) (Or.inr ⟨_, rfl⟩) (fun t ht hW => ⟨⟨(), q16, rfl, trivial, (List.flatten ([[(q16, .inr (16, [.int 1, .int (o_17.1), .null, .null]))]] : List va_W)), hph, by rw [ht, fl_two]; exact hP, va_K.moved hW.alike hK, by rw [fl_two]; exact hD⟩, hS.F ht⟩) hS.2.2 dX13_part_91
  · refine lv_if_eq (tgt := 33) hx hb dX13_part_18 (by decide) (fun c => absurd c hc4) (fun _ => ?_)
    refine lv_aload_n hx hb dX13_part_21 rfl (lv_at hl 1 rfl) ?_
    refine va_get (D := (dC, dI)) (ci := 14) (v := .int (w3 0 2)) (C := RX13) (T := TX13) (N := 13) hx hb hts i_X13 hown hK hP 0 rfl rfl 2 (by decide) (hts _ qw1567) (fun _ h9 => h9) rfl dX13_part_22 ?_
    rcases br9 hrun with ⟨hc20, hrun⟩ | ⟨hc20, hrun⟩
    · refine lv_if_lt (tgt := 33) hx hb dX13_part_25 (by decide) (fun _ => ?_) (fun c => absurd hc20 c)
      refine lv_iload_n hx hb dX13_part_33 rfl (lv_at hl 0 rfl) ?_
      refine lv_iconst (v := 2) hx hb dX13_part_34 (by decide) ?_
      refine lv_irem hx hb dX13_part_35 (by decide) ?_
      rcases br9 hrun with ⟨hc21, hrun⟩ | ⟨hc21, hrun⟩
      · refine lv_if_ne (tgt := 76) hx hb dX13_part_36 (by decide) (fun c => absurd hc21 c) (fun _ => ?_)
        refine va_new (ci := 16) (fs := [.int 0, .int 0, .null, .null]) (C := RX14) (T := TX14) (N := 4) hx hb hts i_X14 tyX14 tyX14_ok hown (hts _ qw1568) (hts _ qw1569) (hts _ qw1570) hK hP hD hS hA rfl df_X14 (show 0 + 1 ≤ (2 * C9 + 2) from by omega) (show 0 + 4 ≤ 4 * (2 * C9 + 2) from by omega) dX13_part_39 (fun q22 H hP hD hS => ?_)
        replace hP := vP_new hP
        replace hD := vD_new hD
        have hP : va_P (dC, dI) cls (List.flatten ([[(q22, .inr (16, [.int 0, .int 0, .null, .null]))], [((p0a 0), .inr (14, [.ref xv, .int (w3 0 1), .int (w3 0 2), .int (w3 0 3), .int (w3 0 4), .ref (p0a 6), .null, .ref (p0a 8), .ref (p0a 9), .int (w3 0 9), .int (w3 0 10), .int (w3 0 11), .int (w3 0 12)]))]] : List va_W)) H := hP
        have hD : va_D A (List.flatten ([[(q22, .inr (16, [.int 0, .int 0, .null, .null]))], [((p0a 0), .inr (14, [.ref xv, .int (w3 0 1), .int (w3 0 2), .int (w3 0 3), .int (w3 0 4), .ref (p0a 6), .null, .ref (p0a 8), .ref (p0a 9), .int (w3 0 9), .int (w3 0 10), .int (w3 0 11), .int (w3 0 12)]))]] : List va_W)) := hD
        have hK : va_K (dC, dI) cls (List.flatten ([[], []] : List (List (ClassId × FieldType)))) s := hK
        refine W.widen (k := (1)) (n := (4 * (1))) (by omega) (by omega) ?_
        refine lv_dup hx hb dX13_part_42 rfl ?_
        refine lv_iconst (v := 0) hx hb dX13_part_43 (by decide) ?_
        refine lv_aload_n hx hb dX13_part_44 rfl (lv_at hl 1 rfl) ?_
        refine lv_iconst (v := 4) hx hb dX13_part_45 (by decide) ?_
        obtain ⟨o_23, hc_23, hrun⟩ := bnd9 hrun
        have hPx : va_P (dC, dI) cls ((List.flatten ([[((p0a 0), .inr (14, [.ref xv, .int (w3 0 1), .int (w3 0 2), .int (w3 0 3), .int (w3 0 4), .ref (p0a 6), .null, .ref (p0a 8), .ref (p0a 9), .int (w3 0 9), .int (w3 0 10), .int (w3 0 11), .int (w3 0 12)]))]] : List va_W)) ++ (List.flatten ([[(q22, .inr (16, [.int 0, .int 0, .null, .null]))]] : List va_W))) H := vP_fa (vP_perm hP (bP ((((List.Perm.refl _)).cons _).trans (List.Perm.swap _ _ _))))
        have hDx : va_D A ((List.flatten ([[((p0a 0), .inr (14, [.ref xv, .int (w3 0 1), .int (w3 0 2), .int (w3 0 3), .int (w3 0 4), .ref (p0a 6), .null, .ref (p0a 8), .ref (p0a 9), .int (w3 0 9), .int (w3 0 10), .int (w3 0 11), .int (w3 0 12)]))]] : List va_W)) ++ (List.flatten ([[(q22, .inr (16, [.int 0, .int 0, .null, .null]))]] : List va_W))) := vD_fa (vD_perm hD (bP ((((List.Perm.refl _)).cons _).trans (List.Perm.swap _ _ _))))
        have hKx : va_K (dC, dI) cls ((List.flatten ([[]] : List (List (ClassId × FieldType)))) ++ (List.flatten ([[]] : List (List (ClassId × FieldType))))) s := vK_fa (vK_perm hK (bP ((((List.Perm.refl _)).cons _).trans (List.Perm.swap _ _ _))))
        have hPc := vP_l hPx
        have hDc := vD_l hDx
        have hKc := vK_l hKx
        have hFc := vfree hDx hS hA
        refine va_calli (va_runV (As := [.int 4]) (rest := [.int 0, .ref q22, .ref q22]) ⟨hx, hb, hml, hown, hts⟩ (kX13_draw l dC dI (p0a := (st0 (p0a 0) (st1 p0a 1 xv))) (p0w := w3) (p1 := 4) (xv := xv) (xm := xm) (xf := xf) (sz := _) (o := o_23) (hrun := hc_23)) (cwV 1 hts (gi_V qw1563 qw1564 qw1565 qw1566 (gi_z qw1562)) rfl rfl rfl (by decide +kernel) ⟨rmF (Nat.le_of_ble_eq_true rfl), rmL (Nat.le_of_ble_eq_true rfl)⟩) ⟨PRE.blind, va_recv hKc hPc (ci := 14) (q0 := 0) rfl rfl, PRE.of (ENV.add hE xq9_m hro_x) hS hFc hPc hKc hDc⟩ rfl rfl hl.1 rfl (lv_room (Nat.le_of_ble_eq_true rfl)) dX13_part_46 ⟨(show (1) + 0 ≤ (2 * C9 + 2) from by omega), (show (4 * (1)) + 0 ≤ 4 * (2 * C9 + 2) from by omega)⟩) hS (fun q _ h => hFc q h) hFc (fun r24 u t H locs ht hvm hw hB hz1 hk1 hS => ?_)
        obtain ⟨b1, b2, b3⟩ := hB
        rw [ht] at b1
        obtain ⟨hP, hD, hK⟩ := JOINC (wc := (List.flatten ([[((p0a 0), .inr (14, [.ref xv, .int (w3 0 1), .int (w3 0 2), .int (w3 0 3), .int (w3 0 4), .ref (p0a 6), .null, .ref (p0a 8), .ref (p0a 9), .int (w3 0 9), .int (w3 0 10), .int (w3 0 11), .int (w3 0 12)]))]] : List va_W))) (wr := (List.flatten ([[(q22, .inr (16, [.int 0, .int 0, .null, .null]))]] : List va_W))) (w1 := (List.flatten ([[((p0a 0), .inr (14, [.ref xv, .int ((o_23.2) 0 1), .int ((o_23.2) 0 2), .int ((o_23.2) 0 3), .int ((o_23.2) 0 4), .ref (p0a 6), .null, .ref (p0a 8), .ref (p0a 9), .int ((o_23.2) 0 9), .int ((o_23.2) 0 10), .int ((o_23.2) 0 11), .int ((o_23.2) 0 12)]))]] : List va_W))) (t1 := (List.flatten ([[]] : List (List (ClassId × FieldType))))) hPx hDx hKx hk1 hFc b1 (va_K.moved hvm.symm b2) b3
        have hP : va_P (dC, dI) cls (List.flatten ([[(q22, .inr (16, [.int 0, .int 0, .null, .null]))], [((p0a 0), .inr (14, [.ref xv, .int ((o_23.2) 0 1), .int ((o_23.2) 0 2), .int ((o_23.2) 0 3), .int ((o_23.2) 0 4), .ref (p0a 6), .null, .ref (p0a 8), .ref (p0a 9), .int ((o_23.2) 0 9), .int ((o_23.2) 0 10), .int ((o_23.2) 0 11), .int ((o_23.2) 0 12)]))]] : List va_W)) H := vP_perm (vP_fb hP) (bP ((((List.Perm.refl _)).cons _).trans (List.Perm.swap _ _ _)))
        have hD : va_D A (List.flatten ([[(q22, .inr (16, [.int 0, .int 0, .null, .null]))], [((p0a 0), .inr (14, [.ref xv, .int ((o_23.2) 0 1), .int ((o_23.2) 0 2), .int ((o_23.2) 0 3), .int ((o_23.2) 0 4), .ref (p0a 6), .null, .ref (p0a 8), .ref (p0a 9), .int ((o_23.2) 0 9), .int ((o_23.2) 0 10), .int ((o_23.2) 0 11), .int ((o_23.2) 0 12)]))]] : List va_W)) := vD_perm (vD_fb hD) (bP ((((List.Perm.refl _)).cons _).trans (List.Perm.swap _ _ _)))
        have hK : va_K (dC, dI) cls (List.flatten ([[], []] : List (List (ClassId × FieldType)))) s := vK_perm (vK_fb hK) (bP ((((List.Perm.refl _)).cons _).trans (List.Perm.swap _ _ _)))
        obtain rfl : r24 = (o_23.1) := hw
        rcases br9 hrun with ⟨hc25, hrun⟩ | ⟨hc25, hrun⟩
        · refine lv_if_ne (tgt := 62) hx hb dX13_part_49 (by decide) (fun c => absurd hc25 c) (fun _ => ?_)
          refine lv_aload_n hx hb dX13_part_52 rfl (lv_at hl 1 rfl) ?_
          refine lv_sipush (v := 5000) hx hb dX13_part_53 (by decide) ?_
          obtain ⟨o_26, hc_26, hrun⟩ := bnd9 hrun
          have hPx : va_P (dC, dI) cls ((List.flatten ([[((p0a 0), .inr (14, [.ref xv, .int ((o_23.2) 0 1), .int ((o_23.2) 0 2), .int ((o_23.2) 0 3), .int ((o_23.2) 0 4), .ref (p0a 6), .null, .ref (p0a 8), .ref (p0a 9), .int ((o_23.2) 0 9), .int ((o_23.2) 0 10), .int ((o_23.2) 0 11), .int ((o_23.2) 0 12)]))]] : List va_W)) ++ (List.flatten ([[(q22, .inr (16, [.int 0, .int 0, .null, .null]))]] : List va_W))) H := vP_fa (vP_perm hP (bP ((((List.Perm.refl _)).cons _).trans (List.Perm.swap _ _ _))))
          have hDx : va_D A ((List.flatten ([[((p0a 0), .inr (14, [.ref xv, .int ((o_23.2) 0 1), .int ((o_23.2) 0 2), .int ((o_23.2) 0 3), .int ((o_23.2) 0 4), .ref (p0a 6), .null, .ref (p0a 8), .ref (p0a 9), .int ((o_23.2) 0 9), .int ((o_23.2) 0 10), .int ((o_23.2) 0 11), .int ((o_23.2) 0 12)]))]] : List va_W)) ++ (List.flatten ([[(q22, .inr (16, [.int 0, .int 0, .null, .null]))]] : List va_W))) := vD_fa (vD_perm hD (bP ((((List.Perm.refl _)).cons _).trans (List.Perm.swap _ _ _))))
          have hKx : va_K (dC, dI) cls ((List.flatten ([[]] : List (List (ClassId × FieldType)))) ++ (List.flatten ([[]] : List (List (ClassId × FieldType))))) s := vK_fa (vK_perm hK (bP ((((List.Perm.refl _)).cons _).trans (List.Perm.swap _ _ _))))
          have hPc := vP_l hPx
          have hDc := vD_l hDx
          have hKc := vK_l hKx
          have hFc := vfree hDx hS hA
          refine va_calli (va_runV (As := [.int 5000]) (rest := [.int 0, .ref q22, .ref q22]) ⟨hx, hb, hml, hown, hts⟩ (kX13_draw l dC dI (p0a := (st0 (p0a 0) (st1 p0a 1 xv))) (p0w := (o_23.2)) (p1 := 5000) (xv := xv) (xm := xm) (xf := xf) (sz := _) (o := o_26) (hrun := hc_26)) (cwV 1 hts (gi_V qw1563 qw1564 qw1565 qw1566 (gi_z qw1562)) rfl rfl rfl (by decide +kernel) ⟨rmF (Nat.le_of_ble_eq_true rfl), rmL (Nat.le_of_ble_eq_true rfl)⟩) ⟨PRE.blind, va_recv hKc hPc (ci := 14) (q0 := 0) rfl rfl, PRE.of (ENV.add hE xq9_m hro_x) hS hFc hPc hKc hDc⟩ rfl rfl hl.1 rfl (lv_room (Nat.le_of_ble_eq_true rfl)) dX13_part_56 ⟨(show (1) + 0 ≤ (2 * C9 + 2) from by omega), (show (4 * (1)) + 0 ≤ 4 * (2 * C9 + 2) from by omega)⟩) hS (fun q _ h => hFc q h) hFc (fun r27 u t H locs ht hvm hw hB hz1 hk1 hS => ?_)
          obtain ⟨b1, b2, b3⟩ := hB
          rw [ht] at b1
          obtain ⟨hP, hD, hK⟩ := JOINC (wc := (List.flatten ([[((p0a 0), .inr (14, [.ref xv, .int ((o_23.2) 0 1), .int ((o_23.2) 0 2), .int ((o_23.2) 0 3), .int ((o_23.2) 0 4), .ref (p0a 6), .null, .ref (p0a 8), .ref (p0a 9), .int ((o_23.2) 0 9), .int ((o_23.2) 0 10), .int ((o_23.2) 0 11), .int ((o_23.2) 0 12)]))]] : List va_W))) (wr := (List.flatten ([[(q22, .inr (16, [.int 0, .int 0, .null, .null]))]] : List va_W))) (w1 := (List.flatten ([[((p0a 0), .inr (14, [.ref xv, .int ((o_26.2) 0 1), .int ((o_26.2) 0 2), .int ((o_26.2) 0 3), .int ((o_26.2) 0 4), .ref (p0a 6), .null, .ref (p0a 8), .ref (p0a 9), .int ((o_26.2) 0 9), .int ((o_26.2) 0 10), .int ((o_26.2) 0 11), .int ((o_26.2) 0 12)]))]] : List va_W))) (t1 := (List.flatten ([[]] : List (List (ClassId × FieldType))))) hPx hDx hKx hk1 hFc b1 (va_K.moved hvm.symm b2) b3
          have hP : va_P (dC, dI) cls (List.flatten ([[(q22, .inr (16, [.int 0, .int 0, .null, .null]))], [((p0a 0), .inr (14, [.ref xv, .int ((o_26.2) 0 1), .int ((o_26.2) 0 2), .int ((o_26.2) 0 3), .int ((o_26.2) 0 4), .ref (p0a 6), .null, .ref (p0a 8), .ref (p0a 9), .int ((o_26.2) 0 9), .int ((o_26.2) 0 10), .int ((o_26.2) 0 11), .int ((o_26.2) 0 12)]))]] : List va_W)) H := vP_perm (vP_fb hP) (bP ((((List.Perm.refl _)).cons _).trans (List.Perm.swap _ _ _)))
          have hD : va_D A (List.flatten ([[(q22, .inr (16, [.int 0, .int 0, .null, .null]))], [((p0a 0), .inr (14, [.ref xv, .int ((o_26.2) 0 1), .int ((o_26.2) 0 2), .int ((o_26.2) 0 3), .int ((o_26.2) 0 4), .ref (p0a 6), .null, .ref (p0a 8), .ref (p0a 9), .int ((o_26.2) 0 9), .int ((o_26.2) 0 10), .int ((o_26.2) 0 11), .int ((o_26.2) 0 12)]))]] : List va_W)) := vD_perm (vD_fb hD) (bP ((((List.Perm.refl _)).cons _).trans (List.Perm.swap _ _ _)))
          have hK : va_K (dC, dI) cls (List.flatten ([[], []] : List (List (ClassId × FieldType)))) s := vK_perm (vK_fb hK) (bP ((((List.Perm.refl _)).cons _).trans (List.Perm.swap _ _ _)))
          obtain rfl : r27 = (o_26.1) := hw
          refine lv_goto (tgt := 68) hx hb dX13_part_59 (by decide) ?_
          refine lv_null hx hb dX13_part_68 ?_
          refine lv_null hx hb dX13_part_69 ?_
          obtain ⟨hz28, hrun⟩ := chk9 hrun
          have hPx : va_P (dC, dI) cls ((List.flatten ([[(q22, .inr (16, [.int 0, .int 0, .null, .null]))]] : List va_W)) ++ (List.flatten ([[((p0a 0), .inr (14, [.ref xv, .int ((o_26.2) 0 1), .int ((o_26.2) 0 2), .int ((o_26.2) 0 3), .int ((o_26.2) 0 4), .ref (p0a 6), .null, .ref (p0a 8), .ref (p0a 9), .int ((o_26.2) 0 9), .int ((o_26.2) 0 10), .int ((o_26.2) 0 11), .int ((o_26.2) 0 12)]))]] : List va_W))) H := vP_fa (vP_perm hP (bP (List.Perm.refl _)))
          have hDx : va_D A ((List.flatten ([[(q22, .inr (16, [.int 0, .int 0, .null, .null]))]] : List va_W)) ++ (List.flatten ([[((p0a 0), .inr (14, [.ref xv, .int ((o_26.2) 0 1), .int ((o_26.2) 0 2), .int ((o_26.2) 0 3), .int ((o_26.2) 0 4), .ref (p0a 6), .null, .ref (p0a 8), .ref (p0a 9), .int ((o_26.2) 0 9), .int ((o_26.2) 0 10), .int ((o_26.2) 0 11), .int ((o_26.2) 0 12)]))]] : List va_W))) := vD_fa (vD_perm hD (bP (List.Perm.refl _)))
          have hKx : va_K (dC, dI) cls ((List.flatten ([[]] : List (List (ClassId × FieldType)))) ++ (List.flatten ([[]] : List (List (ClassId × FieldType))))) s := vK_fa (vK_perm hK (bP (List.Perm.refl _)))
          have hPc := vP_l hPx
          have hDc := vD_l hDx
          have hKc := vK_l hKx
          have hFc := vfree hDx hS hA
          refine va_callv (va_runI (As := [.int 0, .int (o_26.1), .null, .null]) (rest := [.ref q22]) ⟨hx, hb, hml, hown, hts⟩ (kX14_init_nn l dC dI (p0h := q22) (p1 := 0) (p2 := (o_26.1)) (sz := _)) (cwI 4 hts (gi_z qw1576) rfl rfl rfl (hts _ qw1570) (hts _ qw1577) (hts _ qw1578) rfl (by decide +kernel) ⟨rmF (Nat.le_of_ble_eq_true rfl), rmL (Nat.le_of_ble_eq_true rfl)⟩) ⟨PRE.blind, PRE.of hE hS hFc hPc hKc hDc⟩ rfl rfl hl.1 rfl (lv_room (Nat.le_of_ble_eq_true rfl)) dX13_part_70 ⟨(show (1) + 0 ≤ (2 * C9 + 2) from by omega), (show (4 * (1)) + 0 ≤ 4 * (2 * C9 + 2) from by omega)⟩) hS (fun q _ h => hFc q h) hFc (fun u t H locs ht hvm hw hB hz1 hk1 hS => ?_)
          obtain ⟨b1, b2, b3⟩ := hB
          rw [ht] at b1
          obtain ⟨hP, hD, hK⟩ := JOINC (wc := (List.flatten ([[(q22, .inr (16, [.int 0, .int 0, .null, .null]))]] : List va_W))) (wr := (List.flatten ([[((p0a 0), .inr (14, [.ref xv, .int ((o_26.2) 0 1), .int ((o_26.2) 0 2), .int ((o_26.2) 0 3), .int ((o_26.2) 0 4), .ref (p0a 6), .null, .ref (p0a 8), .ref (p0a 9), .int ((o_26.2) 0 9), .int ((o_26.2) 0 10), .int ((o_26.2) 0 11), .int ((o_26.2) 0 12)]))]] : List va_W))) (w1 := (List.flatten ([[(q22, .inr (16, [.int 0, .int (o_26.1), .null, .null]))]] : List va_W))) (t1 := (List.flatten ([[]] : List (List (ClassId × FieldType))))) hPx hDx hKx hk1 hFc b1 (va_K.moved hvm.symm b2) b3
          have hP : va_P (dC, dI) cls (List.flatten ([[(q22, .inr (16, [.int 0, .int (o_26.1), .null, .null]))], [((p0a 0), .inr (14, [.ref xv, .int ((o_26.2) 0 1), .int ((o_26.2) 0 2), .int ((o_26.2) 0 3), .int ((o_26.2) 0 4), .ref (p0a 6), .null, .ref (p0a 8), .ref (p0a 9), .int ((o_26.2) 0 9), .int ((o_26.2) 0 10), .int ((o_26.2) 0 11), .int ((o_26.2) 0 12)]))]] : List va_W)) H := vP_perm (vP_fb hP) (bP (List.Perm.refl _))
          have hD : va_D A (List.flatten ([[(q22, .inr (16, [.int 0, .int (o_26.1), .null, .null]))], [((p0a 0), .inr (14, [.ref xv, .int ((o_26.2) 0 1), .int ((o_26.2) 0 2), .int ((o_26.2) 0 3), .int ((o_26.2) 0 4), .ref (p0a 6), .null, .ref (p0a 8), .ref (p0a 9), .int ((o_26.2) 0 9), .int ((o_26.2) 0 10), .int ((o_26.2) 0 11), .int ((o_26.2) 0 12)]))]] : List va_W)) := vD_perm (vD_fb hD) (bP (List.Perm.refl _))
          have hK : va_K (dC, dI) cls (List.flatten ([[], []] : List (List (ClassId × FieldType)))) s := vK_perm (vK_fb hK) (bP (List.Perm.refl _))
          refine lv_goto (tgt := 91) hx hb dX13_part_73 (by decide) ?_
          have ho9 : ((pb0 0 (o_26.1)), (o_26.2)) = o := Option.some.inj hrun
          have hP : va_P (dC, dI) cls (List.flatten ([[((p0a 0), .inr (14, [.ref xv, .int ((o_26.2) 0 1), .int ((o_26.2) 0 2), .int ((o_26.2) 0 3), .int ((o_26.2) 0 4), .ref (p0a 6), .null, .ref (p0a 8), .ref (p0a 9), .int ((o_26.2) 0 9), .int ((o_26.2) 0 10), .int ((o_26.2) 0 11), .int ((o_26.2) 0 12)]))], [(q22, .inr (16, [.int 0, .int (o_26.1), .null, .null]))]] : List va_W)) H := vP_perm hP (bP ((((List.Perm.refl _)).cons _).trans (List.Perm.swap _ _ _)))
          have hD : va_D A (List.flatten ([[((p0a 0), .inr (14, [.ref xv, .int ((o_26.2) 0 1), .int ((o_26.2) 0 2), .int ((o_26.2) 0 3), .int ((o_26.2) 0 4), .ref (p0a 6), .null, .ref (p0a 8), .ref (p0a 9), .int ((o_26.2) 0 9), .int ((o_26.2) 0 10), .int ((o_26.2) 0 11), .int ((o_26.2) 0 12)]))], [(q22, .inr (16, [.int 0, .int (o_26.1), .null, .null]))]] : List va_W)) := vD_perm hD (bP ((((List.Perm.refl _)).cons _).trans (List.Perm.swap _ _ _)))
          subst ho9
          subst hQ
          have hph : ph9 (List.flatten ([[(q22, .inr (16, [.int 0, .int (o_26.1), .null, .null]))]] : List va_W)) (D9 + 1) q22 (pb0 0 (o_26.1)) := (ph_0 (fl_mem 0 rfl (List.mem_singleton.mpr rfl)) hz28)
          refine W.widen (k := (2 * C9 + 2)) (n := 4 * (2 * C9 + 2)) (by omega) (by omega) ?_
          exact W.aret (v := .ref q22) (rt := .object RX14) hx hb hr (Or.inl ⟨_, rfl⟩) (Or.inr ⟨_, rfl⟩) (fun t ht hW => ⟨⟨(), q22, rfl, trivial, (List.flatten ([[(q22, .inr (16, [.int 0, .int (o_26.1), .null, .null]))]] : List va_W)), hph, by rw [ht, fl_two]; exact hP, va_K.moved hW.alike hK, by rw [fl_two]; exact hD⟩, hS.F ht⟩) hS.2.2 dX13_part_91
        · refine lv_if_ne (tgt := 62) hx hb dX13_part_49 (by decide) (fun _ => ?_) (fun c => absurd c hc25)
          refine lv_aload_n hx hb dX13_part_62 rfl (lv_at hl 1 rfl) ?_
          refine lv_bipush (v := 9) hx hb dX13_part_63 (by decide) ?_
          obtain ⟨o_29, hc_29, hrun⟩ := bnd9 hrun
          have hPx : va_P (dC, dI) cls ((List.flatten ([[((p0a 0), .inr (14, [.ref xv, .int ((o_23.2) 0 1), .int ((o_23.2) 0 2), .int ((o_23.2) 0 3), .int ((o_23.2) 0 4), .ref (p0a 6), .null, .ref (p0a 8), .ref (p0a 9), .int ((o_23.2) 0 9), .int ((o_23.2) 0 10), .int ((o_23.2) 0 11), .int ((o_23.2) 0 12)]))]] : List va_W)) ++ (List.flatten ([[(q22, .inr (16, [.int 0, .int 0, .null, .null]))]] : List va_W))) H := vP_fa (vP_perm hP (bP ((((List.Perm.refl _)).cons _).trans (List.Perm.swap _ _ _))))
          have hDx : va_D A ((List.flatten ([[((p0a 0), .inr (14, [.ref xv, .int ((o_23.2) 0 1), .int ((o_23.2) 0 2), .int ((o_23.2) 0 3), .int ((o_23.2) 0 4), .ref (p0a 6), .null, .ref (p0a 8), .ref (p0a 9), .int ((o_23.2) 0 9), .int ((o_23.2) 0 10), .int ((o_23.2) 0 11), .int ((o_23.2) 0 12)]))]] : List va_W)) ++ (List.flatten ([[(q22, .inr (16, [.int 0, .int 0, .null, .null]))]] : List va_W))) := vD_fa (vD_perm hD (bP ((((List.Perm.refl _)).cons _).trans (List.Perm.swap _ _ _))))
          have hKx : va_K (dC, dI) cls ((List.flatten ([[]] : List (List (ClassId × FieldType)))) ++ (List.flatten ([[]] : List (List (ClassId × FieldType))))) s := vK_fa (vK_perm hK (bP ((((List.Perm.refl _)).cons _).trans (List.Perm.swap _ _ _))))
          have hPc := vP_l hPx
          have hDc := vD_l hDx
          have hKc := vK_l hKx
          have hFc := vfree hDx hS hA
          refine va_calli (va_runV (As := [.int 9]) (rest := [.int 0, .ref q22, .ref q22]) ⟨hx, hb, hml, hown, hts⟩ (kX13_draw l dC dI (p0a := (st0 (p0a 0) (st1 p0a 1 xv))) (p0w := (o_23.2)) (p1 := 9) (xv := xv) (xm := xm) (xf := xf) (sz := _) (o := o_29) (hrun := hc_29)) (cwV 1 hts (gi_V qw1563 qw1564 qw1565 qw1566 (gi_z qw1562)) rfl rfl rfl (by decide +kernel) ⟨rmF (Nat.le_of_ble_eq_true rfl), rmL (Nat.le_of_ble_eq_true rfl)⟩) ⟨PRE.blind, va_recv hKc hPc (ci := 14) (q0 := 0) rfl rfl, PRE.of (ENV.add hE xq9_m hro_x) hS hFc hPc hKc hDc⟩ rfl rfl hl.1 rfl (lv_room (Nat.le_of_ble_eq_true rfl)) dX13_part_65 ⟨(show (1) + 0 ≤ (2 * C9 + 2) from by omega), (show (4 * (1)) + 0 ≤ 4 * (2 * C9 + 2) from by omega)⟩) hS (fun q _ h => hFc q h) hFc (fun r30 u t H locs ht hvm hw hB hz1 hk1 hS => ?_)
          obtain ⟨b1, b2, b3⟩ := hB
          rw [ht] at b1
          obtain ⟨hP, hD, hK⟩ := JOINC (wc := (List.flatten ([[((p0a 0), .inr (14, [.ref xv, .int ((o_23.2) 0 1), .int ((o_23.2) 0 2), .int ((o_23.2) 0 3), .int ((o_23.2) 0 4), .ref (p0a 6), .null, .ref (p0a 8), .ref (p0a 9), .int ((o_23.2) 0 9), .int ((o_23.2) 0 10), .int ((o_23.2) 0 11), .int ((o_23.2) 0 12)]))]] : List va_W))) (wr := (List.flatten ([[(q22, .inr (16, [.int 0, .int 0, .null, .null]))]] : List va_W))) (w1 := (List.flatten ([[((p0a 0), .inr (14, [.ref xv, .int ((o_29.2) 0 1), .int ((o_29.2) 0 2), .int ((o_29.2) 0 3), .int ((o_29.2) 0 4), .ref (p0a 6), .null, .ref (p0a 8), .ref (p0a 9), .int ((o_29.2) 0 9), .int ((o_29.2) 0 10), .int ((o_29.2) 0 11), .int ((o_29.2) 0 12)]))]] : List va_W))) (t1 := (List.flatten ([[]] : List (List (ClassId × FieldType))))) hPx hDx hKx hk1 hFc b1 (va_K.moved hvm.symm b2) b3
          have hP : va_P (dC, dI) cls (List.flatten ([[(q22, .inr (16, [.int 0, .int 0, .null, .null]))], [((p0a 0), .inr (14, [.ref xv, .int ((o_29.2) 0 1), .int ((o_29.2) 0 2), .int ((o_29.2) 0 3), .int ((o_29.2) 0 4), .ref (p0a 6), .null, .ref (p0a 8), .ref (p0a 9), .int ((o_29.2) 0 9), .int ((o_29.2) 0 10), .int ((o_29.2) 0 11), .int ((o_29.2) 0 12)]))]] : List va_W)) H := vP_perm (vP_fb hP) (bP ((((List.Perm.refl _)).cons _).trans (List.Perm.swap _ _ _)))
          have hD : va_D A (List.flatten ([[(q22, .inr (16, [.int 0, .int 0, .null, .null]))], [((p0a 0), .inr (14, [.ref xv, .int ((o_29.2) 0 1), .int ((o_29.2) 0 2), .int ((o_29.2) 0 3), .int ((o_29.2) 0 4), .ref (p0a 6), .null, .ref (p0a 8), .ref (p0a 9), .int ((o_29.2) 0 9), .int ((o_29.2) 0 10), .int ((o_29.2) 0 11), .int ((o_29.2) 0 12)]))]] : List va_W)) := vD_perm (vD_fb hD) (bP ((((List.Perm.refl _)).cons _).trans (List.Perm.swap _ _ _)))
          have hK : va_K (dC, dI) cls (List.flatten ([[], []] : List (List (ClassId × FieldType)))) s := vK_perm (vK_fb hK) (bP ((((List.Perm.refl _)).cons _).trans (List.Perm.swap _ _ _)))
          obtain rfl : r30 = (o_29.1) := hw
          refine lv_null hx hb dX13_part_68 ?_
          refine lv_null hx hb dX13_part_69 ?_
          obtain ⟨hz31, hrun⟩ := chk9 hrun
          have hPx : va_P (dC, dI) cls ((List.flatten ([[(q22, .inr (16, [.int 0, .int 0, .null, .null]))]] : List va_W)) ++ (List.flatten ([[((p0a 0), .inr (14, [.ref xv, .int ((o_29.2) 0 1), .int ((o_29.2) 0 2), .int ((o_29.2) 0 3), .int ((o_29.2) 0 4), .ref (p0a 6), .null, .ref (p0a 8), .ref (p0a 9), .int ((o_29.2) 0 9), .int ((o_29.2) 0 10), .int ((o_29.2) 0 11), .int ((o_29.2) 0 12)]))]] : List va_W))) H := vP_fa (vP_perm hP (bP (List.Perm.refl _)))
          have hDx : va_D A ((List.flatten ([[(q22, .inr (16, [.int 0, .int 0, .null, .null]))]] : List va_W)) ++ (List.flatten ([[((p0a 0), .inr (14, [.ref xv, .int ((o_29.2) 0 1), .int ((o_29.2) 0 2), .int ((o_29.2) 0 3), .int ((o_29.2) 0 4), .ref (p0a 6), .null, .ref (p0a 8), .ref (p0a 9), .int ((o_29.2) 0 9), .int ((o_29.2) 0 10), .int ((o_29.2) 0 11), .int ((o_29.2) 0 12)]))]] : List va_W))) := vD_fa (vD_perm hD (bP (List.Perm.refl _)))
          have hKx : va_K (dC, dI) cls ((List.flatten ([[]] : List (List (ClassId × FieldType)))) ++ (List.flatten ([[]] : List (List (ClassId × FieldType))))) s := vK_fa (vK_perm hK (bP (List.Perm.refl _)))
          have hPc := vP_l hPx
          have hDc := vD_l hDx
          have hKc := vK_l hKx
          have hFc := vfree hDx hS hA
          refine va_callv (va_runI (As := [.int 0, .int (o_29.1), .null, .null]) (rest := [.ref q22]) ⟨hx, hb, hml, hown, hts⟩ (kX14_init_nn l dC dI (p0h := q22) (p1 := 0) (p2 := (o_29.1)) (sz := _)) (cwI 4 hts (gi_z qw1576) rfl rfl rfl (hts _ qw1570) (hts _ qw1577) (hts _ qw1578) rfl (by decide +kernel) ⟨rmF (Nat.le_of_ble_eq_true rfl), rmL (Nat.le_of_ble_eq_true rfl)⟩) ⟨PRE.blind, PRE.of hE hS hFc hPc hKc hDc⟩ rfl rfl hl.1 rfl (lv_room (Nat.le_of_ble_eq_true rfl)) dX13_part_70 ⟨(show (1) + 0 ≤ (2 * C9 + 2) from by omega), (show (4 * (1)) + 0 ≤ 4 * (2 * C9 + 2) from by omega)⟩) hS (fun q _ h => hFc q h) hFc (fun u t H locs ht hvm hw hB hz1 hk1 hS => ?_)
          obtain ⟨b1, b2, b3⟩ := hB
          rw [ht] at b1
          obtain ⟨hP, hD, hK⟩ := JOINC (wc := (List.flatten ([[(q22, .inr (16, [.int 0, .int 0, .null, .null]))]] : List va_W))) (wr := (List.flatten ([[((p0a 0), .inr (14, [.ref xv, .int ((o_29.2) 0 1), .int ((o_29.2) 0 2), .int ((o_29.2) 0 3), .int ((o_29.2) 0 4), .ref (p0a 6), .null, .ref (p0a 8), .ref (p0a 9), .int ((o_29.2) 0 9), .int ((o_29.2) 0 10), .int ((o_29.2) 0 11), .int ((o_29.2) 0 12)]))]] : List va_W))) (w1 := (List.flatten ([[(q22, .inr (16, [.int 0, .int (o_29.1), .null, .null]))]] : List va_W))) (t1 := (List.flatten ([[]] : List (List (ClassId × FieldType))))) hPx hDx hKx hk1 hFc b1 (va_K.moved hvm.symm b2) b3
          have hP : va_P (dC, dI) cls (List.flatten ([[(q22, .inr (16, [.int 0, .int (o_29.1), .null, .null]))], [((p0a 0), .inr (14, [.ref xv, .int ((o_29.2) 0 1), .int ((o_29.2) 0 2), .int ((o_29.2) 0 3), .int ((o_29.2) 0 4), .ref (p0a 6), .null, .ref (p0a 8), .ref (p0a 9), .int ((o_29.2) 0 9), .int ((o_29.2) 0 10), .int ((o_29.2) 0 11), .int ((o_29.2) 0 12)]))]] : List va_W)) H := vP_perm (vP_fb hP) (bP (List.Perm.refl _))
          have hD : va_D A (List.flatten ([[(q22, .inr (16, [.int 0, .int (o_29.1), .null, .null]))], [((p0a 0), .inr (14, [.ref xv, .int ((o_29.2) 0 1), .int ((o_29.2) 0 2), .int ((o_29.2) 0 3), .int ((o_29.2) 0 4), .ref (p0a 6), .null, .ref (p0a 8), .ref (p0a 9), .int ((o_29.2) 0 9), .int ((o_29.2) 0 10), .int ((o_29.2) 0 11), .int ((o_29.2) 0 12)]))]] : List va_W)) := vD_perm (vD_fb hD) (bP (List.Perm.refl _))
          have hK : va_K (dC, dI) cls (List.flatten ([[], []] : List (List (ClassId × FieldType)))) s := vK_perm (vK_fb hK) (bP (List.Perm.refl _))
          refine lv_goto (tgt := 91) hx hb dX13_part_73 (by decide) ?_
          have ho9 : ((pb0 0 (o_29.1)), (o_29.2)) = o := Option.some.inj hrun
          have hP : va_P (dC, dI) cls (List.flatten ([[((p0a 0), .inr (14, [.ref xv, .int ((o_29.2) 0 1), .int ((o_29.2) 0 2), .int ((o_29.2) 0 3), .int ((o_29.2) 0 4), .ref (p0a 6), .null, .ref (p0a 8), .ref (p0a 9), .int ((o_29.2) 0 9), .int ((o_29.2) 0 10), .int ((o_29.2) 0 11), .int ((o_29.2) 0 12)]))], [(q22, .inr (16, [.int 0, .int (o_29.1), .null, .null]))]] : List va_W)) H := vP_perm hP (bP ((((List.Perm.refl _)).cons _).trans (List.Perm.swap _ _ _)))
          have hD : va_D A (List.flatten ([[((p0a 0), .inr (14, [.ref xv, .int ((o_29.2) 0 1), .int ((o_29.2) 0 2), .int ((o_29.2) 0 3), .int ((o_29.2) 0 4), .ref (p0a 6), .null, .ref (p0a 8), .ref (p0a 9), .int ((o_29.2) 0 9), .int ((o_29.2) 0 10), .int ((o_29.2) 0 11), .int ((o_29.2) 0 12)]))], [(q22, .inr (16, [.int 0, .int (o_29.1), .null, .null]))]] : List va_W)) := vD_perm hD (bP ((((List.Perm.refl _)).cons _).trans (List.Perm.swap _ _ _)))
          subst ho9
          subst hQ
          have hph : ph9 (List.flatten ([[(q22, .inr (16, [.int 0, .int (o_29.1), .null, .null]))]] : List va_W)) (D9 + 1) q22 (pb0 0 (o_29.1)) := (ph_0 (fl_mem 0 rfl (List.mem_singleton.mpr rfl)) hz31)
          refine W.widen (k := (2 * C9 + 2)) (n := 4 * (2 * C9 + 2)) (by omega) (by omega) ?_
          exact W.aret (v := .ref q22) (rt := .object RX14) hx hb hr (Or.inl ⟨_, rfl⟩) (Or.inr ⟨_, rfl⟩) (fun t ht hW => ⟨⟨(), q22, rfl, trivial, (List.flatten ([[(q22, .inr (16, [.int 0, .int (o_29.1), .null, .null]))]] : List va_W)), hph, by rw [ht, fl_two]; exact hP, va_K.moved hW.alike hK, by rw [fl_two]; exact hD⟩, hS.F ht⟩) hS.2.2 dX13_part_91
      · refine lv_if_ne (tgt := 76) hx hb dX13_part_36 (by decide) (fun _ => ?_) (fun c => absurd c hc21)
        refine va_new (ci := 16) (fs := [.int 0, .int 0, .null, .null]) (C := RX14) (T := TX14) (N := 4) hx hb hts i_X14 tyX14 tyX14_ok hown (hts _ qw1568) (hts _ qw1569) (hts _ qw1570) hK hP hD hS hA rfl df_X14 (show 0 + 1 ≤ (2 * C9 + 2) from by omega) (show 0 + 4 ≤ 4 * (2 * C9 + 2) from by omega) dX13_part_76 (fun q32 H hP hD hS => ?_)
        replace hP := vP_new hP
        replace hD := vD_new hD
        have hP : va_P (dC, dI) cls (List.flatten ([[(q32, .inr (16, [.int 0, .int 0, .null, .null]))], [((p0a 0), .inr (14, [.ref xv, .int (w3 0 1), .int (w3 0 2), .int (w3 0 3), .int (w3 0 4), .ref (p0a 6), .null, .ref (p0a 8), .ref (p0a 9), .int (w3 0 9), .int (w3 0 10), .int (w3 0 11), .int (w3 0 12)]))]] : List va_W)) H := hP
        have hD : va_D A (List.flatten ([[(q32, .inr (16, [.int 0, .int 0, .null, .null]))], [((p0a 0), .inr (14, [.ref xv, .int (w3 0 1), .int (w3 0 2), .int (w3 0 3), .int (w3 0 4), .ref (p0a 6), .null, .ref (p0a 8), .ref (p0a 9), .int (w3 0 9), .int (w3 0 10), .int (w3 0 11), .int (w3 0 12)]))]] : List va_W)) := hD
        have hK : va_K (dC, dI) cls (List.flatten ([[], []] : List (List (ClassId × FieldType)))) s := hK
        refine W.widen (k := (1)) (n := (4 * (1))) (by omega) (by omega) ?_
        refine lv_dup hx hb dX13_part_79 rfl ?_
        refine lv_iconst (v := 1) hx hb dX13_part_80 (by decide) ?_
        refine lv_aload_n hx hb dX13_part_81 rfl (lv_at hl 1 rfl) ?_
        refine lv_iconst (v := 4) hx hb dX13_part_82 (by decide) ?_
        obtain ⟨o_33, hc_33, hrun⟩ := bnd9 hrun
        have hPx : va_P (dC, dI) cls ((List.flatten ([[((p0a 0), .inr (14, [.ref xv, .int (w3 0 1), .int (w3 0 2), .int (w3 0 3), .int (w3 0 4), .ref (p0a 6), .null, .ref (p0a 8), .ref (p0a 9), .int (w3 0 9), .int (w3 0 10), .int (w3 0 11), .int (w3 0 12)]))]] : List va_W)) ++ (List.flatten ([[(q32, .inr (16, [.int 0, .int 0, .null, .null]))]] : List va_W))) H := vP_fa (vP_perm hP (bP ((((List.Perm.refl _)).cons _).trans (List.Perm.swap _ _ _))))
        have hDx : va_D A ((List.flatten ([[((p0a 0), .inr (14, [.ref xv, .int (w3 0 1), .int (w3 0 2), .int (w3 0 3), .int (w3 0 4), .ref (p0a 6), .null, .ref (p0a 8), .ref (p0a 9), .int (w3 0 9), .int (w3 0 10), .int (w3 0 11), .int (w3 0 12)]))]] : List va_W)) ++ (List.flatten ([[(q32, .inr (16, [.int 0, .int 0, .null, .null]))]] : List va_W))) := vD_fa (vD_perm hD (bP ((((List.Perm.refl _)).cons _).trans (List.Perm.swap _ _ _))))
        have hKx : va_K (dC, dI) cls ((List.flatten ([[]] : List (List (ClassId × FieldType)))) ++ (List.flatten ([[]] : List (List (ClassId × FieldType))))) s := vK_fa (vK_perm hK (bP ((((List.Perm.refl _)).cons _).trans (List.Perm.swap _ _ _))))
        have hPc := vP_l hPx
        have hDc := vD_l hDx
        have hKc := vK_l hKx
        have hFc := vfree hDx hS hA
        refine va_calli (va_runV (As := [.int 4]) (rest := [.int 1, .ref q32, .ref q32]) ⟨hx, hb, hml, hown, hts⟩ (kX13_draw l dC dI (p0a := (st0 (p0a 0) (st1 p0a 1 xv))) (p0w := w3) (p1 := 4) (xv := xv) (xm := xm) (xf := xf) (sz := _) (o := o_33) (hrun := hc_33)) (cwV 1 hts (gi_V qw1563 qw1564 qw1565 qw1566 (gi_z qw1562)) rfl rfl rfl (by decide +kernel) ⟨rmF (Nat.le_of_ble_eq_true rfl), rmL (Nat.le_of_ble_eq_true rfl)⟩) ⟨PRE.blind, va_recv hKc hPc (ci := 14) (q0 := 0) rfl rfl, PRE.of (ENV.add hE xq9_m hro_x) hS hFc hPc hKc hDc⟩ rfl rfl hl.1 rfl (lv_room (Nat.le_of_ble_eq_true rfl)) dX13_part_83 ⟨(show (1) + 0 ≤ (2 * C9 + 2) from by omega), (show (4 * (1)) + 0 ≤ 4 * (2 * C9 + 2) from by omega)⟩) hS (fun q _ h => hFc q h) hFc (fun r34 u t H locs ht hvm hw hB hz1 hk1 hS => ?_)
        obtain ⟨b1, b2, b3⟩ := hB
        rw [ht] at b1
        obtain ⟨hP, hD, hK⟩ := JOINC (wc := (List.flatten ([[((p0a 0), .inr (14, [.ref xv, .int (w3 0 1), .int (w3 0 2), .int (w3 0 3), .int (w3 0 4), .ref (p0a 6), .null, .ref (p0a 8), .ref (p0a 9), .int (w3 0 9), .int (w3 0 10), .int (w3 0 11), .int (w3 0 12)]))]] : List va_W))) (wr := (List.flatten ([[(q32, .inr (16, [.int 0, .int 0, .null, .null]))]] : List va_W))) (w1 := (List.flatten ([[((p0a 0), .inr (14, [.ref xv, .int ((o_33.2) 0 1), .int ((o_33.2) 0 2), .int ((o_33.2) 0 3), .int ((o_33.2) 0 4), .ref (p0a 6), .null, .ref (p0a 8), .ref (p0a 9), .int ((o_33.2) 0 9), .int ((o_33.2) 0 10), .int ((o_33.2) 0 11), .int ((o_33.2) 0 12)]))]] : List va_W))) (t1 := (List.flatten ([[]] : List (List (ClassId × FieldType))))) hPx hDx hKx hk1 hFc b1 (va_K.moved hvm.symm b2) b3
        have hP : va_P (dC, dI) cls (List.flatten ([[(q32, .inr (16, [.int 0, .int 0, .null, .null]))], [((p0a 0), .inr (14, [.ref xv, .int ((o_33.2) 0 1), .int ((o_33.2) 0 2), .int ((o_33.2) 0 3), .int ((o_33.2) 0 4), .ref (p0a 6), .null, .ref (p0a 8), .ref (p0a 9), .int ((o_33.2) 0 9), .int ((o_33.2) 0 10), .int ((o_33.2) 0 11), .int ((o_33.2) 0 12)]))]] : List va_W)) H := vP_perm (vP_fb hP) (bP ((((List.Perm.refl _)).cons _).trans (List.Perm.swap _ _ _)))
        have hD : va_D A (List.flatten ([[(q32, .inr (16, [.int 0, .int 0, .null, .null]))], [((p0a 0), .inr (14, [.ref xv, .int ((o_33.2) 0 1), .int ((o_33.2) 0 2), .int ((o_33.2) 0 3), .int ((o_33.2) 0 4), .ref (p0a 6), .null, .ref (p0a 8), .ref (p0a 9), .int ((o_33.2) 0 9), .int ((o_33.2) 0 10), .int ((o_33.2) 0 11), .int ((o_33.2) 0 12)]))]] : List va_W)) := vD_perm (vD_fb hD) (bP ((((List.Perm.refl _)).cons _).trans (List.Perm.swap _ _ _)))
        have hK : va_K (dC, dI) cls (List.flatten ([[], []] : List (List (ClassId × FieldType)))) s := vK_perm (vK_fb hK) (bP ((((List.Perm.refl _)).cons _).trans (List.Perm.swap _ _ _)))
        obtain rfl : r34 = (o_33.1) := hw
        refine lv_null hx hb dX13_part_86 ?_
        refine lv_null hx hb dX13_part_87 ?_
        obtain ⟨hz35, hrun⟩ := chk9 hrun
        have hPx : va_P (dC, dI) cls ((List.flatten ([[(q32, .inr (16, [.int 0, .int 0, .null, .null]))]] : List va_W)) ++ (List.flatten ([[((p0a 0), .inr (14, [.ref xv, .int ((o_33.2) 0 1), .int ((o_33.2) 0 2), .int ((o_33.2) 0 3), .int ((o_33.2) 0 4), .ref (p0a 6), .null, .ref (p0a 8), .ref (p0a 9), .int ((o_33.2) 0 9), .int ((o_33.2) 0 10), .int ((o_33.2) 0 11), .int ((o_33.2) 0 12)]))]] : List va_W))) H := vP_fa (vP_perm hP (bP (List.Perm.refl _)))
        have hDx : va_D A ((List.flatten ([[(q32, .inr (16, [.int 0, .int 0, .null, .null]))]] : List va_W)) ++ (List.flatten ([[((p0a 0), .inr (14, [.ref xv, .int ((o_33.2) 0 1), .int ((o_33.2) 0 2), .int ((o_33.2) 0 3), .int ((o_33.2) 0 4), .ref (p0a 6), .null, .ref (p0a 8), .ref (p0a 9), .int ((o_33.2) 0 9), .int ((o_33.2) 0 10), .int ((o_33.2) 0 11), .int ((o_33.2) 0 12)]))]] : List va_W))) := vD_fa (vD_perm hD (bP (List.Perm.refl _)))
        have hKx : va_K (dC, dI) cls ((List.flatten ([[]] : List (List (ClassId × FieldType)))) ++ (List.flatten ([[]] : List (List (ClassId × FieldType))))) s := vK_fa (vK_perm hK (bP (List.Perm.refl _)))
        have hPc := vP_l hPx
        have hDc := vD_l hDx
        have hKc := vK_l hKx
        have hFc := vfree hDx hS hA
        refine va_callv (va_runI (As := [.int 1, .int (o_33.1), .null, .null]) (rest := [.ref q32]) ⟨hx, hb, hml, hown, hts⟩ (kX14_init_nn l dC dI (p0h := q32) (p1 := 1) (p2 := (o_33.1)) (sz := _)) (cwI 4 hts (gi_z qw1576) rfl rfl rfl (hts _ qw1570) (hts _ qw1577) (hts _ qw1578) rfl (by decide +kernel) ⟨rmF (Nat.le_of_ble_eq_true rfl), rmL (Nat.le_of_ble_eq_true rfl)⟩) ⟨PRE.blind, PRE.of hE hS hFc hPc hKc hDc⟩ rfl rfl hl.1 rfl (lv_room (Nat.le_of_ble_eq_true rfl)) dX13_part_88 ⟨(show (1) + 0 ≤ (2 * C9 + 2) from by omega), (show (4 * (1)) + 0 ≤ 4 * (2 * C9 + 2) from by omega)⟩) hS (fun q _ h => hFc q h) hFc (fun u t H locs ht hvm hw hB hz1 hk1 hS => ?_)
        obtain ⟨b1, b2, b3⟩ := hB
        rw [ht] at b1
        obtain ⟨hP, hD, hK⟩ := JOINC (wc := (List.flatten ([[(q32, .inr (16, [.int 0, .int 0, .null, .null]))]] : List va_W))) (wr := (List.flatten ([[((p0a 0), .inr (14, [.ref xv, .int ((o_33.2) 0 1), .int ((o_33.2) 0 2), .int ((o_33.2) 0 3), .int ((o_33.2) 0 4), .ref (p0a 6), .null, .ref (p0a 8), .ref (p0a 9), .int ((o_33.2) 0 9), .int ((o_33.2) 0 10), .int ((o_33.2) 0 11), .int ((o_33.2) 0 12)]))]] : List va_W))) (w1 := (List.flatten ([[(q32, .inr (16, [.int 1, .int (o_33.1), .null, .null]))]] : List va_W))) (t1 := (List.flatten ([[]] : List (List (ClassId × FieldType))))) hPx hDx hKx hk1 hFc b1 (va_K.moved hvm.symm b2) b3
        have hP : va_P (dC, dI) cls (List.flatten ([[(q32, .inr (16, [.int 1, .int (o_33.1), .null, .null]))], [((p0a 0), .inr (14, [.ref xv, .int ((o_33.2) 0 1), .int ((o_33.2) 0 2), .int ((o_33.2) 0 3), .int ((o_33.2) 0 4), .ref (p0a 6), .null, .ref (p0a 8), .ref (p0a 9), .int ((o_33.2) 0 9), .int ((o_33.2) 0 10), .int ((o_33.2) 0 11), .int ((o_33.2) 0 12)]))]] : List va_W)) H := vP_perm (vP_fb hP) (bP (List.Perm.refl _))
        have hD : va_D A (List.flatten ([[(q32, .inr (16, [.int 1, .int (o_33.1), .null, .null]))], [((p0a 0), .inr (14, [.ref xv, .int ((o_33.2) 0 1), .int ((o_33.2) 0 2), .int ((o_33.2) 0 3), .int ((o_33.2) 0 4), .ref (p0a 6), .null, .ref (p0a 8), .ref (p0a 9), .int ((o_33.2) 0 9), .int ((o_33.2) 0 10), .int ((o_33.2) 0 11), .int ((o_33.2) 0 12)]))]] : List va_W)) := vD_perm (vD_fb hD) (bP (List.Perm.refl _))
        have hK : va_K (dC, dI) cls (List.flatten ([[], []] : List (List (ClassId × FieldType)))) s := vK_perm (vK_fb hK) (bP (List.Perm.refl _))
        have ho9 : ((pb0 1 (o_33.1)), (o_33.2)) = o := Option.some.inj hrun
        have hP : va_P (dC, dI) cls (List.flatten ([[((p0a 0), .inr (14, [.ref xv, .int ((o_33.2) 0 1), .int ((o_33.2) 0 2), .int ((o_33.2) 0 3), .int ((o_33.2) 0 4), .ref (p0a 6), .null, .ref (p0a 8), .ref (p0a 9), .int ((o_33.2) 0 9), .int ((o_33.2) 0 10), .int ((o_33.2) 0 11), .int ((o_33.2) 0 12)]))], [(q32, .inr (16, [.int 1, .int (o_33.1), .null, .null]))]] : List va_W)) H := vP_perm hP (bP ((((List.Perm.refl _)).cons _).trans (List.Perm.swap _ _ _)))
        have hD : va_D A (List.flatten ([[((p0a 0), .inr (14, [.ref xv, .int ((o_33.2) 0 1), .int ((o_33.2) 0 2), .int ((o_33.2) 0 3), .int ((o_33.2) 0 4), .ref (p0a 6), .null, .ref (p0a 8), .ref (p0a 9), .int ((o_33.2) 0 9), .int ((o_33.2) 0 10), .int ((o_33.2) 0 11), .int ((o_33.2) 0 12)]))], [(q32, .inr (16, [.int 1, .int (o_33.1), .null, .null]))]] : List va_W)) := vD_perm hD (bP ((((List.Perm.refl _)).cons _).trans (List.Perm.swap _ _ _)))
        subst ho9
        subst hQ
        have hph : ph9 (List.flatten ([[(q32, .inr (16, [.int 1, .int (o_33.1), .null, .null]))]] : List va_W)) (D9 + 1) q32 (pb0 1 (o_33.1)) := (ph_0 (fl_mem 0 rfl (List.mem_singleton.mpr rfl)) hz35)
        refine W.widen (k := (2 * C9 + 2)) (n := 4 * (2 * C9 + 2)) (by omega) (by omega) ?_
        exact W.aret (v := .ref q32) (rt := .object RX14) hx hb hr (Or.inl ⟨_, rfl⟩) (Or.inr ⟨_, rfl⟩) (fun t ht hW => ⟨⟨(), q32, rfl, trivial, (List.flatten ([[(q32, .inr (16, [.int 1, .int (o_33.1), .null, .null]))]] : List va_W)), hph, by rw [ht, fl_two]; exact hP, va_K.moved hW.alike hK, by rw [fl_two]; exact hD⟩, hS.F ht⟩) hS.2.2 dX13_part_91
    · refine lv_if_lt (tgt := 33) hx hb dX13_part_25 (by decide) (fun c => absurd c hc20) (fun _ => ?_)
      refine lv_iload_n hx hb dX13_part_28 rfl (lv_at hl 0 rfl) ?_
      refine lv_iconst (v := 2) hx hb dX13_part_29 (by decide) ?_
      rcases br9 hrun with ⟨hc36, hrun⟩ | ⟨hc36, hrun⟩
      · refine lv_icmp_ge (tgt := 92) hx hb dX13_part_30 (by decide) (fun _ => ?_) (fun c => absurd hc36 c)
        refine lv_iload_n hx hb dX13_part_92 rfl (lv_at hl 0 rfl) ?_
        refine lv_iconst (v := 2) hx hb dX13_part_93 (by decide) ?_
        rcases br9 hrun with ⟨hc37, hrun⟩ | ⟨hc37, hrun⟩
        · refine lv_icmp_ne (tgt := 121) hx hb dX13_part_94 (by decide) (fun c => absurd hc37 c) (fun _ => ?_)
          refine va_new (ci := 16) (fs := [.int 0, .int 0, .null, .null]) (C := RX14) (T := TX14) (N := 4) hx hb hts i_X14 tyX14 tyX14_ok hown (hts _ qw1568) (hts _ qw1569) (hts _ qw1570) hK hP hD hS hA rfl df_X14 (show 0 + 1 ≤ (2 * C9 + 2) from by omega) (show 0 + 4 ≤ 4 * (2 * C9 + 2) from by omega) dX13_part_97 (fun q38 H hP hD hS => ?_)
          replace hP := vP_new hP
          replace hD := vD_new hD
          have hP : va_P (dC, dI) cls (List.flatten ([[(q38, .inr (16, [.int 0, .int 0, .null, .null]))], [((p0a 0), .inr (14, [.ref xv, .int (w3 0 1), .int (w3 0 2), .int (w3 0 3), .int (w3 0 4), .ref (p0a 6), .null, .ref (p0a 8), .ref (p0a 9), .int (w3 0 9), .int (w3 0 10), .int (w3 0 11), .int (w3 0 12)]))]] : List va_W)) H := hP
          have hD : va_D A (List.flatten ([[(q38, .inr (16, [.int 0, .int 0, .null, .null]))], [((p0a 0), .inr (14, [.ref xv, .int (w3 0 1), .int (w3 0 2), .int (w3 0 3), .int (w3 0 4), .ref (p0a 6), .null, .ref (p0a 8), .ref (p0a 9), .int (w3 0 9), .int (w3 0 10), .int (w3 0 11), .int (w3 0 12)]))]] : List va_W)) := hD
          have hK : va_K (dC, dI) cls (List.flatten ([[], []] : List (List (ClassId × FieldType)))) s := hK
          refine W.widen (k := (1)) (n := (4 * (1))) (by omega) (by omega) ?_
          refine lv_dup hx hb dX13_part_100 rfl ?_
          refine lv_iconst (v := 3) hx hb dX13_part_101 (by decide) ?_
          refine lv_aload_n hx hb dX13_part_102 rfl (lv_at hl 1 rfl) ?_
          refine lv_iconst (v := 2) hx hb dX13_part_103 (by decide) ?_
          obtain ⟨o_39, hc_39, hrun⟩ := bnd9 hrun
          have hPx : va_P (dC, dI) cls ((List.flatten ([[((p0a 0), .inr (14, [.ref xv, .int (w3 0 1), .int (w3 0 2), .int (w3 0 3), .int (w3 0 4), .ref (p0a 6), .null, .ref (p0a 8), .ref (p0a 9), .int (w3 0 9), .int (w3 0 10), .int (w3 0 11), .int (w3 0 12)]))]] : List va_W)) ++ (List.flatten ([[(q38, .inr (16, [.int 0, .int 0, .null, .null]))]] : List va_W))) H := vP_fa (vP_perm hP (bP ((((List.Perm.refl _)).cons _).trans (List.Perm.swap _ _ _))))
          have hDx : va_D A ((List.flatten ([[((p0a 0), .inr (14, [.ref xv, .int (w3 0 1), .int (w3 0 2), .int (w3 0 3), .int (w3 0 4), .ref (p0a 6), .null, .ref (p0a 8), .ref (p0a 9), .int (w3 0 9), .int (w3 0 10), .int (w3 0 11), .int (w3 0 12)]))]] : List va_W)) ++ (List.flatten ([[(q38, .inr (16, [.int 0, .int 0, .null, .null]))]] : List va_W))) := vD_fa (vD_perm hD (bP ((((List.Perm.refl _)).cons _).trans (List.Perm.swap _ _ _))))
          have hKx : va_K (dC, dI) cls ((List.flatten ([[]] : List (List (ClassId × FieldType)))) ++ (List.flatten ([[]] : List (List (ClassId × FieldType))))) s := vK_fa (vK_perm hK (bP ((((List.Perm.refl _)).cons _).trans (List.Perm.swap _ _ _))))
          have hPc := vP_l hPx
          have hDc := vD_l hDx
          have hKc := vK_l hKx
          have hFc := vfree hDx hS hA
          refine va_calli (va_runV (As := [.int 2]) (rest := [.int 3, .ref q38, .ref q38]) ⟨hx, hb, hml, hown, hts⟩ (kX13_draw l dC dI (p0a := (st0 (p0a 0) (st1 p0a 1 xv))) (p0w := w3) (p1 := 2) (xv := xv) (xm := xm) (xf := xf) (sz := _) (o := o_39) (hrun := hc_39)) (cwV 1 hts (gi_V qw1563 qw1564 qw1565 qw1566 (gi_z qw1562)) rfl rfl rfl (by decide +kernel) ⟨rmF (Nat.le_of_ble_eq_true rfl), rmL (Nat.le_of_ble_eq_true rfl)⟩) ⟨PRE.blind, va_recv hKc hPc (ci := 14) (q0 := 0) rfl rfl, PRE.of (ENV.add hE xq9_m hro_x) hS hFc hPc hKc hDc⟩ rfl rfl hl.1 rfl (lv_room (Nat.le_of_ble_eq_true rfl)) dX13_part_104 ⟨(show (1) + 0 ≤ (2 * C9 + 2) from by omega), (show (4 * (1)) + 0 ≤ 4 * (2 * C9 + 2) from by omega)⟩) hS (fun q _ h => hFc q h) hFc (fun r40 u t H locs ht hvm hw hB hz1 hk1 hS => ?_)
          obtain ⟨b1, b2, b3⟩ := hB
          rw [ht] at b1
          obtain ⟨hP, hD, hK⟩ := JOINC (wc := (List.flatten ([[((p0a 0), .inr (14, [.ref xv, .int (w3 0 1), .int (w3 0 2), .int (w3 0 3), .int (w3 0 4), .ref (p0a 6), .null, .ref (p0a 8), .ref (p0a 9), .int (w3 0 9), .int (w3 0 10), .int (w3 0 11), .int (w3 0 12)]))]] : List va_W))) (wr := (List.flatten ([[(q38, .inr (16, [.int 0, .int 0, .null, .null]))]] : List va_W))) (w1 := (List.flatten ([[((p0a 0), .inr (14, [.ref xv, .int ((o_39.2) 0 1), .int ((o_39.2) 0 2), .int ((o_39.2) 0 3), .int ((o_39.2) 0 4), .ref (p0a 6), .null, .ref (p0a 8), .ref (p0a 9), .int ((o_39.2) 0 9), .int ((o_39.2) 0 10), .int ((o_39.2) 0 11), .int ((o_39.2) 0 12)]))]] : List va_W))) (t1 := (List.flatten ([[]] : List (List (ClassId × FieldType))))) hPx hDx hKx hk1 hFc b1 (va_K.moved hvm.symm b2) b3
          have hP : va_P (dC, dI) cls (List.flatten ([[(q38, .inr (16, [.int 0, .int 0, .null, .null]))], [((p0a 0), .inr (14, [.ref xv, .int ((o_39.2) 0 1), .int ((o_39.2) 0 2), .int ((o_39.2) 0 3), .int ((o_39.2) 0 4), .ref (p0a 6), .null, .ref (p0a 8), .ref (p0a 9), .int ((o_39.2) 0 9), .int ((o_39.2) 0 10), .int ((o_39.2) 0 11), .int ((o_39.2) 0 12)]))]] : List va_W)) H := vP_perm (vP_fb hP) (bP ((((List.Perm.refl _)).cons _).trans (List.Perm.swap _ _ _)))
          have hD : va_D A (List.flatten ([[(q38, .inr (16, [.int 0, .int 0, .null, .null]))], [((p0a 0), .inr (14, [.ref xv, .int ((o_39.2) 0 1), .int ((o_39.2) 0 2), .int ((o_39.2) 0 3), .int ((o_39.2) 0 4), .ref (p0a 6), .null, .ref (p0a 8), .ref (p0a 9), .int ((o_39.2) 0 9), .int ((o_39.2) 0 10), .int ((o_39.2) 0 11), .int ((o_39.2) 0 12)]))]] : List va_W)) := vD_perm (vD_fb hD) (bP ((((List.Perm.refl _)).cons _).trans (List.Perm.swap _ _ _)))
          have hK : va_K (dC, dI) cls (List.flatten ([[], []] : List (List (ClassId × FieldType)))) s := vK_perm (vK_fb hK) (bP ((((List.Perm.refl _)).cons _).trans (List.Perm.swap _ _ _)))
          obtain rfl : r40 = (o_39.1) := hw
          refine lv_iadd hx hb dX13_part_107 ?_
          refine lv_iconst (v := 0) hx hb dX13_part_108 (by decide) ?_
          refine lv_aload_n hx hb dX13_part_109 rfl (lv_at hl 1 rfl) ?_
          refine lv_iload_n hx hb dX13_part_110 rfl (lv_at hl 2 rfl) ?_
          refine lv_iconst (v := 1) hx hb dX13_part_111 (by decide) ?_
          refine lv_isub hx hb dX13_part_112 ?_
          obtain ⟨o_41, hc_41, hrun⟩ := bnd9 hrun
          have hPx : va_P (dC, dI) cls ((List.flatten ([[((p0a 0), .inr (14, [.ref xv, .int ((o_39.2) 0 1), .int ((o_39.2) 0 2), .int ((o_39.2) 0 3), .int ((o_39.2) 0 4), .ref (p0a 6), .null, .ref (p0a 8), .ref (p0a 9), .int ((o_39.2) 0 9), .int ((o_39.2) 0 10), .int ((o_39.2) 0 11), .int ((o_39.2) 0 12)]))]] : List va_W)) ++ (List.flatten ([[(q38, .inr (16, [.int 0, .int 0, .null, .null]))]] : List va_W))) H := vP_fa (vP_perm hP (bP ((((List.Perm.refl _)).cons _).trans (List.Perm.swap _ _ _))))
          have hDx : va_D A ((List.flatten ([[((p0a 0), .inr (14, [.ref xv, .int ((o_39.2) 0 1), .int ((o_39.2) 0 2), .int ((o_39.2) 0 3), .int ((o_39.2) 0 4), .ref (p0a 6), .null, .ref (p0a 8), .ref (p0a 9), .int ((o_39.2) 0 9), .int ((o_39.2) 0 10), .int ((o_39.2) 0 11), .int ((o_39.2) 0 12)]))]] : List va_W)) ++ (List.flatten ([[(q38, .inr (16, [.int 0, .int 0, .null, .null]))]] : List va_W))) := vD_fa (vD_perm hD (bP ((((List.Perm.refl _)).cons _).trans (List.Perm.swap _ _ _))))
          have hKx : va_K (dC, dI) cls ((List.flatten ([[]] : List (List (ClassId × FieldType)))) ++ (List.flatten ([[]] : List (List (ClassId × FieldType))))) s := vK_fa (vK_perm hK (bP ((((List.Perm.refl _)).cons _).trans (List.Perm.swap _ _ _))))
          have hPc := vP_l hPx
          have hDc := vD_l hDx
          have hKc := vK_l hKx
          have hFc := vfree hDx hS hA
          refine va_callr (va_runV (As := [.int (p1 - 1)]) (rest := [.int 0, .int (3 + (o_39.1)), .ref q38, .ref q38]) ⟨hx, hb, hml, hown, hts⟩ (hkk_part dC dI (p0a := p0a) (p0w := (o_39.2)) (p1 := (p1 - 1)) (sz := _) (o := o_41) (hrun := hc_41)) (cwV 1 hts (gi_V qw1580 qw1581 qw1582 qw1566 (gi_z qw1579)) rfl rfl rfl (by decide +kernel) ⟨rmF9, rmL9 (n := 24) (Nat.le_of_ble_eq_true rfl)⟩) ⟨PRE.blind, va_recv hKc hPc (ci := 14) (q0 := 0) rfl rfl, PRE.of (ENV.add hE xq9_m hro_x) hS hFc hPc hKc hDc⟩ rfl rfl hl.1 rfl (lv_room (Nat.le_of_ble_eq_true rfl)) dX13_part_113 ⟨(show (1) + C9 ≤ (2 * C9 + 2) from by omega), (show (4 * (1)) + 4 * C9 ≤ 4 * (2 * C9 + 2) from by omega)⟩) hS (fun q _ h => hFc q h) hFc (fun u r41 t H locs ht hvm hw hB hz1 hk1 hS => ?_)
          obtain ⟨wt_41, hph_wt_41, hB⟩ := hB
          obtain ⟨b1, b2, b3⟩ := hB
          rw [ht] at b1
          obtain ⟨hP, hD, hK⟩ := JOINC (wc := (List.flatten ([[((p0a 0), .inr (14, [.ref xv, .int ((o_39.2) 0 1), .int ((o_39.2) 0 2), .int ((o_39.2) 0 3), .int ((o_39.2) 0 4), .ref (p0a 6), .null, .ref (p0a 8), .ref (p0a 9), .int ((o_39.2) 0 9), .int ((o_39.2) 0 10), .int ((o_39.2) 0 11), .int ((o_39.2) 0 12)]))]] : List va_W))) (wr := (List.flatten ([[(q38, .inr (16, [.int 0, .int 0, .null, .null]))]] : List va_W))) (w1 := (List.flatten ([[((p0a 0), .inr (14, [.ref xv, .int ((o_41.2) 0 1), .int ((o_41.2) 0 2), .int ((o_41.2) 0 3), .int ((o_41.2) 0 4), .ref (p0a 6), .null, .ref (p0a 8), .ref (p0a 9), .int ((o_41.2) 0 9), .int ((o_41.2) 0 10), .int ((o_41.2) 0 11), .int ((o_41.2) 0 12)]))], wt_41] : List va_W))) (t1 := (List.flatten ([[], []] : List (List (ClassId × FieldType))))) hPx hDx hKx hk1 hFc b1 (va_K.moved hvm.symm b2) b3
          have hP : va_P (dC, dI) cls (List.flatten ([[(q38, .inr (16, [.int 0, .int 0, .null, .null]))], [((p0a 0), .inr (14, [.ref xv, .int ((o_41.2) 0 1), .int ((o_41.2) 0 2), .int ((o_41.2) 0 3), .int ((o_41.2) 0 4), .ref (p0a 6), .null, .ref (p0a 8), .ref (p0a 9), .int ((o_41.2) 0 9), .int ((o_41.2) 0 10), .int ((o_41.2) 0 11), .int ((o_41.2) 0 12)]))], wt_41] : List va_W)) H := vP_perm (vP_fb hP) (bP (((((((List.Perm.refl _)).cons _).trans (List.Perm.swap _ _ _))).cons _).trans (List.Perm.swap _ _ _)))
          have hD : va_D A (List.flatten ([[(q38, .inr (16, [.int 0, .int 0, .null, .null]))], [((p0a 0), .inr (14, [.ref xv, .int ((o_41.2) 0 1), .int ((o_41.2) 0 2), .int ((o_41.2) 0 3), .int ((o_41.2) 0 4), .ref (p0a 6), .null, .ref (p0a 8), .ref (p0a 9), .int ((o_41.2) 0 9), .int ((o_41.2) 0 10), .int ((o_41.2) 0 11), .int ((o_41.2) 0 12)]))], wt_41] : List va_W)) := vD_perm (vD_fb hD) (bP (((((((List.Perm.refl _)).cons _).trans (List.Perm.swap _ _ _))).cons _).trans (List.Perm.swap _ _ _)))
          have hK : va_K (dC, dI) cls (List.flatten ([[], [], []] : List (List (ClassId × FieldType)))) s := vK_perm (vK_fb hK) (bP (((((((List.Perm.refl _)).cons _).trans (List.Perm.swap _ _ _))).cons _).trans (List.Perm.swap _ _ _)))
          refine W.widen (k := (C9 + 1)) (n := (4 * (C9 + 1))) (by omega) (by omega) ?_
          refine lv_null hx hb dX13_part_116 ?_
          obtain ⟨hz42, hrun⟩ := chk9 hrun
          have hPx : va_P (dC, dI) cls ((List.flatten ([[(q38, .inr (16, [.int 0, .int 0, .null, .null]))]] : List va_W)) ++ (List.flatten ([[((p0a 0), .inr (14, [.ref xv, .int ((o_41.2) 0 1), .int ((o_41.2) 0 2), .int ((o_41.2) 0 3), .int ((o_41.2) 0 4), .ref (p0a 6), .null, .ref (p0a 8), .ref (p0a 9), .int ((o_41.2) 0 9), .int ((o_41.2) 0 10), .int ((o_41.2) 0 11), .int ((o_41.2) 0 12)]))], wt_41] : List va_W))) H := vP_fa (vP_perm hP (bP (List.Perm.refl _)))
          have hDx : va_D A ((List.flatten ([[(q38, .inr (16, [.int 0, .int 0, .null, .null]))]] : List va_W)) ++ (List.flatten ([[((p0a 0), .inr (14, [.ref xv, .int ((o_41.2) 0 1), .int ((o_41.2) 0 2), .int ((o_41.2) 0 3), .int ((o_41.2) 0 4), .ref (p0a 6), .null, .ref (p0a 8), .ref (p0a 9), .int ((o_41.2) 0 9), .int ((o_41.2) 0 10), .int ((o_41.2) 0 11), .int ((o_41.2) 0 12)]))], wt_41] : List va_W))) := vD_fa (vD_perm hD (bP (List.Perm.refl _)))
          have hKx : va_K (dC, dI) cls ((List.flatten ([[]] : List (List (ClassId × FieldType)))) ++ (List.flatten ([[], []] : List (List (ClassId × FieldType))))) s := vK_fa (vK_perm hK (bP (List.Perm.refl _)))
          have hPc := vP_l hPx
          have hDc := vD_l hDx
          have hKc := vK_l hKx
          have hFc := vfree hDx hS hA
          refine va_callv (va_runI (As := [.int (3 + (o_39.1)), .int 0, .ref r41, .null]) (rest := [.ref q38]) ⟨hx, hb, hml, hown, hts⟩ (kX14_init_rn l dC dI (p0h := q38) (p1 := (3 + (o_39.1))) (p2 := 0) (p3h := r41) (sz := _)) (cwI 4 hts (gi_z qw1576) rfl rfl rfl (hts _ qw1570) (hts _ qw1577) (hts _ qw1578) rfl (by decide +kernel) ⟨rmF (Nat.le_of_ble_eq_true rfl), rmL (Nat.le_of_ble_eq_true rfl)⟩) ⟨PRE.blind, PRE.of hE hS hFc hPc hKc hDc⟩ rfl rfl hl.1 rfl (lv_room (Nat.le_of_ble_eq_true rfl)) dX13_part_117 ⟨(show (C9 + 1) + 0 ≤ (2 * C9 + 2) from by omega), (show (4 * (C9 + 1)) + 0 ≤ 4 * (2 * C9 + 2) from by omega)⟩) hS (fun q _ h => hFc q h) hFc (fun u t H locs ht hvm hw hB hz1 hk1 hS => ?_)
          obtain ⟨b1, b2, b3⟩ := hB
          rw [ht] at b1
          obtain ⟨hP, hD, hK⟩ := JOINC (wc := (List.flatten ([[(q38, .inr (16, [.int 0, .int 0, .null, .null]))]] : List va_W))) (wr := (List.flatten ([[((p0a 0), .inr (14, [.ref xv, .int ((o_41.2) 0 1), .int ((o_41.2) 0 2), .int ((o_41.2) 0 3), .int ((o_41.2) 0 4), .ref (p0a 6), .null, .ref (p0a 8), .ref (p0a 9), .int ((o_41.2) 0 9), .int ((o_41.2) 0 10), .int ((o_41.2) 0 11), .int ((o_41.2) 0 12)]))], wt_41] : List va_W))) (w1 := (List.flatten ([[(q38, .inr (16, [.int (3 + (o_39.1)), .int 0, .ref r41, .null]))]] : List va_W))) (t1 := (List.flatten ([[]] : List (List (ClassId × FieldType))))) hPx hDx hKx hk1 hFc b1 (va_K.moved hvm.symm b2) b3
          have hP : va_P (dC, dI) cls (List.flatten ([[(q38, .inr (16, [.int (3 + (o_39.1)), .int 0, .ref r41, .null]))], [((p0a 0), .inr (14, [.ref xv, .int ((o_41.2) 0 1), .int ((o_41.2) 0 2), .int ((o_41.2) 0 3), .int ((o_41.2) 0 4), .ref (p0a 6), .null, .ref (p0a 8), .ref (p0a 9), .int ((o_41.2) 0 9), .int ((o_41.2) 0 10), .int ((o_41.2) 0 11), .int ((o_41.2) 0 12)]))], wt_41] : List va_W)) H := vP_perm (vP_fb hP) (bP (List.Perm.refl _))
          have hD : va_D A (List.flatten ([[(q38, .inr (16, [.int (3 + (o_39.1)), .int 0, .ref r41, .null]))], [((p0a 0), .inr (14, [.ref xv, .int ((o_41.2) 0 1), .int ((o_41.2) 0 2), .int ((o_41.2) 0 3), .int ((o_41.2) 0 4), .ref (p0a 6), .null, .ref (p0a 8), .ref (p0a 9), .int ((o_41.2) 0 9), .int ((o_41.2) 0 10), .int ((o_41.2) 0 11), .int ((o_41.2) 0 12)]))], wt_41] : List va_W)) := vD_perm (vD_fb hD) (bP (List.Perm.refl _))
          have hK : va_K (dC, dI) cls (List.flatten ([[], [], []] : List (List (ClassId × FieldType)))) s := vK_perm (vK_fb hK) (bP (List.Perm.refl _))
          have ho9 : ((pb1 (3 + (o_39.1)) 0 (o_41.1)), (o_41.2)) = o := Option.some.inj hrun
          have hP : va_P (dC, dI) cls (List.flatten ([[((p0a 0), .inr (14, [.ref xv, .int ((o_41.2) 0 1), .int ((o_41.2) 0 2), .int ((o_41.2) 0 3), .int ((o_41.2) 0 4), .ref (p0a 6), .null, .ref (p0a 8), .ref (p0a 9), .int ((o_41.2) 0 9), .int ((o_41.2) 0 10), .int ((o_41.2) 0 11), .int ((o_41.2) 0 12)]))], [(q38, .inr (16, [.int (3 + (o_39.1)), .int 0, .ref r41, .null]))], wt_41] : List va_W)) H := vP_perm hP (bP ((((List.Perm.refl _)).cons _).trans (List.Perm.swap _ _ _)))
          have hD : va_D A (List.flatten ([[((p0a 0), .inr (14, [.ref xv, .int ((o_41.2) 0 1), .int ((o_41.2) 0 2), .int ((o_41.2) 0 3), .int ((o_41.2) 0 4), .ref (p0a 6), .null, .ref (p0a 8), .ref (p0a 9), .int ((o_41.2) 0 9), .int ((o_41.2) 0 10), .int ((o_41.2) 0 11), .int ((o_41.2) 0 12)]))], [(q38, .inr (16, [.int (3 + (o_39.1)), .int 0, .ref r41, .null]))], wt_41] : List va_W)) := vD_perm hD (bP ((((List.Perm.refl _)).cons _).trans (List.Perm.swap _ _ _)))
          subst ho9
          subst hQ
          have hph : ph9 (List.flatten ([[(q38, .inr (16, [.int (3 + (o_39.1)), .int 0, .ref r41, .null]))], wt_41] : List va_W)) (D9 + 1) q38 (pb1 (3 + (o_39.1)) 0 (o_41.1)) := (ph_1 (fl_mem 0 rfl (List.mem_singleton.mpr rfl)) hz42 (ph9_m (fun x hx => fl_mem 1 rfl hx) hph_wt_41))
          refine W.widen (k := (2 * C9 + 2)) (n := 4 * (2 * C9 + 2)) (by omega) (by omega) ?_
          exact W.aret (v := .ref q38) (rt := .object RX14) hx hb hr (Or.inl ⟨_, rfl⟩) (Or.inr ⟨_, rfl⟩) (fun t ht hW => ⟨⟨(), q38, rfl, trivial, (List.flatten ([[(q38, .inr (16, [.int (3 + (o_39.1)), .int 0, .ref r41, .null]))], wt_41] : List va_W)), hph, by rw [ht, fl_two]; exact hP, va_K.moved hW.alike hK, by rw [fl_two]; exact hD⟩, hS.F ht⟩) hS.2.2 dX13_part_120
        · refine lv_icmp_ne (tgt := 121) hx hb dX13_part_94 (by decide) (fun _ => ?_) (fun c => absurd c hc37)
          refine lv_iload_n hx hb dX13_part_121 rfl (lv_at hl 0 rfl) ?_
          refine lv_iconst (v := 3) hx hb dX13_part_122 (by decide) ?_
          rcases br9 hrun with ⟨hc43, hrun⟩ | ⟨hc43, hrun⟩
          · refine lv_icmp_ne (tgt := 145) hx hb dX13_part_123 (by decide) (fun c => absurd hc43 c) (fun _ => ?_)
            refine va_new (ci := 16) (fs := [.int 0, .int 0, .null, .null]) (C := RX14) (T := TX14) (N := 4) hx hb hts i_X14 tyX14 tyX14_ok hown (hts _ qw1568) (hts _ qw1569) (hts _ qw1570) hK hP hD hS hA rfl df_X14 (show 0 + 1 ≤ (2 * C9 + 2) from by omega) (show 0 + 4 ≤ 4 * (2 * C9 + 2) from by omega) dX13_part_126 (fun q44 H hP hD hS => ?_)
            replace hP := vP_new hP
            replace hD := vD_new hD
            have hP : va_P (dC, dI) cls (List.flatten ([[(q44, .inr (16, [.int 0, .int 0, .null, .null]))], [((p0a 0), .inr (14, [.ref xv, .int (w3 0 1), .int (w3 0 2), .int (w3 0 3), .int (w3 0 4), .ref (p0a 6), .null, .ref (p0a 8), .ref (p0a 9), .int (w3 0 9), .int (w3 0 10), .int (w3 0 11), .int (w3 0 12)]))]] : List va_W)) H := hP
            have hD : va_D A (List.flatten ([[(q44, .inr (16, [.int 0, .int 0, .null, .null]))], [((p0a 0), .inr (14, [.ref xv, .int (w3 0 1), .int (w3 0 2), .int (w3 0 3), .int (w3 0 4), .ref (p0a 6), .null, .ref (p0a 8), .ref (p0a 9), .int (w3 0 9), .int (w3 0 10), .int (w3 0 11), .int (w3 0 12)]))]] : List va_W)) := hD
            have hK : va_K (dC, dI) cls (List.flatten ([[], []] : List (List (ClassId × FieldType)))) s := hK
            refine W.widen (k := (1)) (n := (4 * (1))) (by omega) (by omega) ?_
            refine lv_dup hx hb dX13_part_129 rfl ?_
            refine lv_bipush (v := 7) hx hb dX13_part_130 (by decide) ?_
            refine lv_iconst (v := 0) hx hb dX13_part_132 (by decide) ?_
            refine lv_aload_n hx hb dX13_part_133 rfl (lv_at hl 1 rfl) ?_
            refine lv_iload_n hx hb dX13_part_134 rfl (lv_at hl 2 rfl) ?_
            refine lv_iconst (v := 1) hx hb dX13_part_135 (by decide) ?_
            refine lv_isub hx hb dX13_part_136 ?_
            obtain ⟨o_45, hc_45, hrun⟩ := bnd9 hrun
            have hPx : va_P (dC, dI) cls ((List.flatten ([[((p0a 0), .inr (14, [.ref xv, .int (w3 0 1), .int (w3 0 2), .int (w3 0 3), .int (w3 0 4), .ref (p0a 6), .null, .ref (p0a 8), .ref (p0a 9), .int (w3 0 9), .int (w3 0 10), .int (w3 0 11), .int (w3 0 12)]))]] : List va_W)) ++ (List.flatten ([[(q44, .inr (16, [.int 0, .int 0, .null, .null]))]] : List va_W))) H := vP_fa (vP_perm hP (bP ((((List.Perm.refl _)).cons _).trans (List.Perm.swap _ _ _))))
            have hDx : va_D A ((List.flatten ([[((p0a 0), .inr (14, [.ref xv, .int (w3 0 1), .int (w3 0 2), .int (w3 0 3), .int (w3 0 4), .ref (p0a 6), .null, .ref (p0a 8), .ref (p0a 9), .int (w3 0 9), .int (w3 0 10), .int (w3 0 11), .int (w3 0 12)]))]] : List va_W)) ++ (List.flatten ([[(q44, .inr (16, [.int 0, .int 0, .null, .null]))]] : List va_W))) := vD_fa (vD_perm hD (bP ((((List.Perm.refl _)).cons _).trans (List.Perm.swap _ _ _))))
            have hKx : va_K (dC, dI) cls ((List.flatten ([[]] : List (List (ClassId × FieldType)))) ++ (List.flatten ([[]] : List (List (ClassId × FieldType))))) s := vK_fa (vK_perm hK (bP ((((List.Perm.refl _)).cons _).trans (List.Perm.swap _ _ _))))
            have hPc := vP_l hPx
            have hDc := vD_l hDx
            have hKc := vK_l hKx
            have hFc := vfree hDx hS hA
            refine va_callr (va_runV (As := [.int (p1 - 1)]) (rest := [.int 0, .int 7, .ref q44, .ref q44]) ⟨hx, hb, hml, hown, hts⟩ (hkk_part dC dI (p0a := p0a) (p0w := w3) (p1 := (p1 - 1)) (sz := _) (o := o_45) (hrun := hc_45)) (cwV 1 hts (gi_V qw1580 qw1581 qw1582 qw1566 (gi_z qw1579)) rfl rfl rfl (by decide +kernel) ⟨rmF9, rmL9 (n := 24) (Nat.le_of_ble_eq_true rfl)⟩) ⟨PRE.blind, va_recv hKc hPc (ci := 14) (q0 := 0) rfl rfl, PRE.of (ENV.add hE xq9_m hro_x) hS hFc hPc hKc hDc⟩ rfl rfl hl.1 rfl (lv_room (Nat.le_of_ble_eq_true rfl)) dX13_part_137 ⟨(show (1) + C9 ≤ (2 * C9 + 2) from by omega), (show (4 * (1)) + 4 * C9 ≤ 4 * (2 * C9 + 2) from by omega)⟩) hS (fun q _ h => hFc q h) hFc (fun u r45 t H locs ht hvm hw hB hz1 hk1 hS => ?_)
            obtain ⟨wt_45, hph_wt_45, hB⟩ := hB
            obtain ⟨b1, b2, b3⟩ := hB
            rw [ht] at b1
            obtain ⟨hP, hD, hK⟩ := JOINC (wc := (List.flatten ([[((p0a 0), .inr (14, [.ref xv, .int (w3 0 1), .int (w3 0 2), .int (w3 0 3), .int (w3 0 4), .ref (p0a 6), .null, .ref (p0a 8), .ref (p0a 9), .int (w3 0 9), .int (w3 0 10), .int (w3 0 11), .int (w3 0 12)]))]] : List va_W))) (wr := (List.flatten ([[(q44, .inr (16, [.int 0, .int 0, .null, .null]))]] : List va_W))) (w1 := (List.flatten ([[((p0a 0), .inr (14, [.ref xv, .int ((o_45.2) 0 1), .int ((o_45.2) 0 2), .int ((o_45.2) 0 3), .int ((o_45.2) 0 4), .ref (p0a 6), .null, .ref (p0a 8), .ref (p0a 9), .int ((o_45.2) 0 9), .int ((o_45.2) 0 10), .int ((o_45.2) 0 11), .int ((o_45.2) 0 12)]))], wt_45] : List va_W))) (t1 := (List.flatten ([[], []] : List (List (ClassId × FieldType))))) hPx hDx hKx hk1 hFc b1 (va_K.moved hvm.symm b2) b3
            have hP : va_P (dC, dI) cls (List.flatten ([[(q44, .inr (16, [.int 0, .int 0, .null, .null]))], [((p0a 0), .inr (14, [.ref xv, .int ((o_45.2) 0 1), .int ((o_45.2) 0 2), .int ((o_45.2) 0 3), .int ((o_45.2) 0 4), .ref (p0a 6), .null, .ref (p0a 8), .ref (p0a 9), .int ((o_45.2) 0 9), .int ((o_45.2) 0 10), .int ((o_45.2) 0 11), .int ((o_45.2) 0 12)]))], wt_45] : List va_W)) H := vP_perm (vP_fb hP) (bP (((((((List.Perm.refl _)).cons _).trans (List.Perm.swap _ _ _))).cons _).trans (List.Perm.swap _ _ _)))
            have hD : va_D A (List.flatten ([[(q44, .inr (16, [.int 0, .int 0, .null, .null]))], [((p0a 0), .inr (14, [.ref xv, .int ((o_45.2) 0 1), .int ((o_45.2) 0 2), .int ((o_45.2) 0 3), .int ((o_45.2) 0 4), .ref (p0a 6), .null, .ref (p0a 8), .ref (p0a 9), .int ((o_45.2) 0 9), .int ((o_45.2) 0 10), .int ((o_45.2) 0 11), .int ((o_45.2) 0 12)]))], wt_45] : List va_W)) := vD_perm (vD_fb hD) (bP (((((((List.Perm.refl _)).cons _).trans (List.Perm.swap _ _ _))).cons _).trans (List.Perm.swap _ _ _)))
            have hK : va_K (dC, dI) cls (List.flatten ([[], [], []] : List (List (ClassId × FieldType)))) s := vK_perm (vK_fb hK) (bP (((((((List.Perm.refl _)).cons _).trans (List.Perm.swap _ _ _))).cons _).trans (List.Perm.swap _ _ _)))
            refine W.widen (k := (C9 + 1)) (n := (4 * (C9 + 1))) (by omega) (by omega) ?_
            refine lv_null hx hb dX13_part_140 ?_
            obtain ⟨hz46, hrun⟩ := chk9 hrun
            have hPx : va_P (dC, dI) cls ((List.flatten ([[(q44, .inr (16, [.int 0, .int 0, .null, .null]))]] : List va_W)) ++ (List.flatten ([[((p0a 0), .inr (14, [.ref xv, .int ((o_45.2) 0 1), .int ((o_45.2) 0 2), .int ((o_45.2) 0 3), .int ((o_45.2) 0 4), .ref (p0a 6), .null, .ref (p0a 8), .ref (p0a 9), .int ((o_45.2) 0 9), .int ((o_45.2) 0 10), .int ((o_45.2) 0 11), .int ((o_45.2) 0 12)]))], wt_45] : List va_W))) H := vP_fa (vP_perm hP (bP (List.Perm.refl _)))
            have hDx : va_D A ((List.flatten ([[(q44, .inr (16, [.int 0, .int 0, .null, .null]))]] : List va_W)) ++ (List.flatten ([[((p0a 0), .inr (14, [.ref xv, .int ((o_45.2) 0 1), .int ((o_45.2) 0 2), .int ((o_45.2) 0 3), .int ((o_45.2) 0 4), .ref (p0a 6), .null, .ref (p0a 8), .ref (p0a 9), .int ((o_45.2) 0 9), .int ((o_45.2) 0 10), .int ((o_45.2) 0 11), .int ((o_45.2) 0 12)]))], wt_45] : List va_W))) := vD_fa (vD_perm hD (bP (List.Perm.refl _)))
            have hKx : va_K (dC, dI) cls ((List.flatten ([[]] : List (List (ClassId × FieldType)))) ++ (List.flatten ([[], []] : List (List (ClassId × FieldType))))) s := vK_fa (vK_perm hK (bP (List.Perm.refl _)))
            have hPc := vP_l hPx
            have hDc := vD_l hDx
            have hKc := vK_l hKx
            have hFc := vfree hDx hS hA
            refine va_callv (va_runI (As := [.int 7, .int 0, .ref r45, .null]) (rest := [.ref q44]) ⟨hx, hb, hml, hown, hts⟩ (kX14_init_rn l dC dI (p0h := q44) (p1 := 7) (p2 := 0) (p3h := r45) (sz := _)) (cwI 4 hts (gi_z qw1576) rfl rfl rfl (hts _ qw1570) (hts _ qw1577) (hts _ qw1578) rfl (by decide +kernel) ⟨rmF (Nat.le_of_ble_eq_true rfl), rmL (Nat.le_of_ble_eq_true rfl)⟩) ⟨PRE.blind, PRE.of hE hS hFc hPc hKc hDc⟩ rfl rfl hl.1 rfl (lv_room (Nat.le_of_ble_eq_true rfl)) dX13_part_141 ⟨(show (C9 + 1) + 0 ≤ (2 * C9 + 2) from by omega), (show (4 * (C9 + 1)) + 0 ≤ 4 * (2 * C9 + 2) from by omega)⟩) hS (fun q _ h => hFc q h) hFc (fun u t H locs ht hvm hw hB hz1 hk1 hS => ?_)
            obtain ⟨b1, b2, b3⟩ := hB
            rw [ht] at b1
            obtain ⟨hP, hD, hK⟩ := JOINC (wc := (List.flatten ([[(q44, .inr (16, [.int 0, .int 0, .null, .null]))]] : List va_W))) (wr := (List.flatten ([[((p0a 0), .inr (14, [.ref xv, .int ((o_45.2) 0 1), .int ((o_45.2) 0 2), .int ((o_45.2) 0 3), .int ((o_45.2) 0 4), .ref (p0a 6), .null, .ref (p0a 8), .ref (p0a 9), .int ((o_45.2) 0 9), .int ((o_45.2) 0 10), .int ((o_45.2) 0 11), .int ((o_45.2) 0 12)]))], wt_45] : List va_W))) (w1 := (List.flatten ([[(q44, .inr (16, [.int 7, .int 0, .ref r45, .null]))]] : List va_W))) (t1 := (List.flatten ([[]] : List (List (ClassId × FieldType))))) hPx hDx hKx hk1 hFc b1 (va_K.moved hvm.symm b2) b3
            have hP : va_P (dC, dI) cls (List.flatten ([[(q44, .inr (16, [.int 7, .int 0, .ref r45, .null]))], [((p0a 0), .inr (14, [.ref xv, .int ((o_45.2) 0 1), .int ((o_45.2) 0 2), .int ((o_45.2) 0 3), .int ((o_45.2) 0 4), .ref (p0a 6), .null, .ref (p0a 8), .ref (p0a 9), .int ((o_45.2) 0 9), .int ((o_45.2) 0 10), .int ((o_45.2) 0 11), .int ((o_45.2) 0 12)]))], wt_45] : List va_W)) H := vP_perm (vP_fb hP) (bP (List.Perm.refl _))
            have hD : va_D A (List.flatten ([[(q44, .inr (16, [.int 7, .int 0, .ref r45, .null]))], [((p0a 0), .inr (14, [.ref xv, .int ((o_45.2) 0 1), .int ((o_45.2) 0 2), .int ((o_45.2) 0 3), .int ((o_45.2) 0 4), .ref (p0a 6), .null, .ref (p0a 8), .ref (p0a 9), .int ((o_45.2) 0 9), .int ((o_45.2) 0 10), .int ((o_45.2) 0 11), .int ((o_45.2) 0 12)]))], wt_45] : List va_W)) := vD_perm (vD_fb hD) (bP (List.Perm.refl _))
            have hK : va_K (dC, dI) cls (List.flatten ([[], [], []] : List (List (ClassId × FieldType)))) s := vK_perm (vK_fb hK) (bP (List.Perm.refl _))
            have ho9 : ((pb1 7 0 (o_45.1)), (o_45.2)) = o := Option.some.inj hrun
            have hP : va_P (dC, dI) cls (List.flatten ([[((p0a 0), .inr (14, [.ref xv, .int ((o_45.2) 0 1), .int ((o_45.2) 0 2), .int ((o_45.2) 0 3), .int ((o_45.2) 0 4), .ref (p0a 6), .null, .ref (p0a 8), .ref (p0a 9), .int ((o_45.2) 0 9), .int ((o_45.2) 0 10), .int ((o_45.2) 0 11), .int ((o_45.2) 0 12)]))], [(q44, .inr (16, [.int 7, .int 0, .ref r45, .null]))], wt_45] : List va_W)) H := vP_perm hP (bP ((((List.Perm.refl _)).cons _).trans (List.Perm.swap _ _ _)))
            have hD : va_D A (List.flatten ([[((p0a 0), .inr (14, [.ref xv, .int ((o_45.2) 0 1), .int ((o_45.2) 0 2), .int ((o_45.2) 0 3), .int ((o_45.2) 0 4), .ref (p0a 6), .null, .ref (p0a 8), .ref (p0a 9), .int ((o_45.2) 0 9), .int ((o_45.2) 0 10), .int ((o_45.2) 0 11), .int ((o_45.2) 0 12)]))], [(q44, .inr (16, [.int 7, .int 0, .ref r45, .null]))], wt_45] : List va_W)) := vD_perm hD (bP ((((List.Perm.refl _)).cons _).trans (List.Perm.swap _ _ _)))
            subst ho9
            subst hQ
            have hph : ph9 (List.flatten ([[(q44, .inr (16, [.int 7, .int 0, .ref r45, .null]))], wt_45] : List va_W)) (D9 + 1) q44 (pb1 7 0 (o_45.1)) := (ph_1 (fl_mem 0 rfl (List.mem_singleton.mpr rfl)) hz46 (ph9_m (fun x hx => fl_mem 1 rfl hx) hph_wt_45))
            refine W.widen (k := (2 * C9 + 2)) (n := 4 * (2 * C9 + 2)) (by omega) (by omega) ?_
            exact W.aret (v := .ref q44) (rt := .object RX14) hx hb hr (Or.inl ⟨_, rfl⟩) (Or.inr ⟨_, rfl⟩) (fun t ht hW => ⟨⟨(), q44, rfl, trivial, (List.flatten ([[(q44, .inr (16, [.int 7, .int 0, .ref r45, .null]))], wt_45] : List va_W)), hph, by rw [ht, fl_two]; exact hP, va_K.moved hW.alike hK, by rw [fl_two]; exact hD⟩, hS.F ht⟩) hS.2.2 dX13_part_144
          · refine lv_icmp_ne (tgt := 145) hx hb dX13_part_123 (by decide) (fun _ => ?_) (fun c => absurd c hc43)
            refine lv_iload_n hx hb dX13_part_145 rfl (lv_at hl 0 rfl) ?_
            refine lv_iconst (v := 4) hx hb dX13_part_146 (by decide) ?_
            rcases br9 hrun with ⟨hc47, hrun⟩ | ⟨hc47, hrun⟩
            · refine lv_icmp_ne (tgt := 201) hx hb dX13_part_147 (by decide) (fun c => absurd hc47 c) (fun _ => ?_)
              refine lv_aload_n hx hb dX13_part_150 rfl (lv_at hl 1 rfl) ?_
              refine va_get (D := (dC, dI)) (ci := 14) (v := .int (w3 0 4)) (C := RX13) (T := TX13) (N := 13) hx hb hts i_X13 hown hK hP 0 rfl rfl 4 (by decide) (hts _ qw1583) (fun _ h9 => h9) rfl dX13_part_151 ?_
              refine lv_bipush (v := 8) hx hb dX13_part_154 (by decide) ?_
              rcases br9 hrun with ⟨hc48, hrun⟩ | ⟨hc48, hrun⟩
              · refine lv_icmp_ge (tgt := 201) hx hb dX13_part_156 (by decide) (fun _ => ?_) (fun c => absurd hc48 c)
                refine lv_iconst (v := 1) hx hb dX13_part_201 (by decide) ?_
                refine lv_aload_n hx hb dX13_part_202 rfl (lv_at hl 1 rfl) ?_
                refine lv_bipush (v := 16) hx hb dX13_part_203 (by decide) ?_
                obtain ⟨o_49, hc_49, hrun⟩ := bnd9 hrun
                have hPx : va_P (dC, dI) cls ((List.flatten ([[((p0a 0), .inr (14, [.ref xv, .int (w3 0 1), .int (w3 0 2), .int (w3 0 3), .int (w3 0 4), .ref (p0a 6), .null, .ref (p0a 8), .ref (p0a 9), .int (w3 0 9), .int (w3 0 10), .int (w3 0 11), .int (w3 0 12)]))]] : List va_W)) ++ (List.flatten ([] : List va_W))) H := vP_fa (vP_perm hP (bP (List.Perm.refl _)))
                have hDx : va_D A ((List.flatten ([[((p0a 0), .inr (14, [.ref xv, .int (w3 0 1), .int (w3 0 2), .int (w3 0 3), .int (w3 0 4), .ref (p0a 6), .null, .ref (p0a 8), .ref (p0a 9), .int (w3 0 9), .int (w3 0 10), .int (w3 0 11), .int (w3 0 12)]))]] : List va_W)) ++ (List.flatten ([] : List va_W))) := vD_fa (vD_perm hD (bP (List.Perm.refl _)))
                have hKx : va_K (dC, dI) cls ((List.flatten ([[]] : List (List (ClassId × FieldType)))) ++ (List.flatten ([] : List (List (ClassId × FieldType))))) s := vK_fa (vK_perm hK (bP (List.Perm.refl _)))
                have hPc := vP_l hPx
                have hDc := vD_l hDx
                have hKc := vK_l hKx
                have hFc := vfree hDx hS hA
                refine va_calli (va_runV (As := [.int 16]) (rest := [.int 1]) ⟨hx, hb, hml, hown, hts⟩ (kX13_draw l dC dI (p0a := (st0 (p0a 0) (st1 p0a 1 xv))) (p0w := w3) (p1 := 16) (xv := xv) (xm := xm) (xf := xf) (sz := _) (o := o_49) (hrun := hc_49)) (cwV 1 hts (gi_V qw1563 qw1564 qw1565 qw1566 (gi_z qw1562)) rfl rfl rfl (by decide +kernel) ⟨rmF (Nat.le_of_ble_eq_true rfl), rmL (Nat.le_of_ble_eq_true rfl)⟩) ⟨PRE.blind, va_recv hKc hPc (ci := 14) (q0 := 0) rfl rfl, PRE.of (ENV.add hE xq9_m hro_x) hS hFc hPc hKc hDc⟩ rfl rfl hl.1 rfl (lv_room (Nat.le_of_ble_eq_true rfl)) dX13_part_205 ⟨(show 0 + 0 ≤ (2 * C9 + 2) from by omega), (show 0 + 0 ≤ 4 * (2 * C9 + 2) from by omega)⟩) hS (fun q _ h => hFc q h) hFc (fun r50 u t H locs ht hvm hw hB hz1 hk1 hS => ?_)
                obtain ⟨b1, b2, b3⟩ := hB
                rw [ht] at b1
                obtain ⟨hP, hD, hK⟩ := JOINC (wc := (List.flatten ([[((p0a 0), .inr (14, [.ref xv, .int (w3 0 1), .int (w3 0 2), .int (w3 0 3), .int (w3 0 4), .ref (p0a 6), .null, .ref (p0a 8), .ref (p0a 9), .int (w3 0 9), .int (w3 0 10), .int (w3 0 11), .int (w3 0 12)]))]] : List va_W))) (wr := (List.flatten ([] : List va_W))) (w1 := (List.flatten ([[((p0a 0), .inr (14, [.ref xv, .int ((o_49.2) 0 1), .int ((o_49.2) 0 2), .int ((o_49.2) 0 3), .int ((o_49.2) 0 4), .ref (p0a 6), .null, .ref (p0a 8), .ref (p0a 9), .int ((o_49.2) 0 9), .int ((o_49.2) 0 10), .int ((o_49.2) 0 11), .int ((o_49.2) 0 12)]))]] : List va_W))) (t1 := (List.flatten ([[]] : List (List (ClassId × FieldType))))) hPx hDx hKx hk1 hFc b1 (va_K.moved hvm.symm b2) b3
                have hP : va_P (dC, dI) cls (List.flatten ([[((p0a 0), .inr (14, [.ref xv, .int ((o_49.2) 0 1), .int ((o_49.2) 0 2), .int ((o_49.2) 0 3), .int ((o_49.2) 0 4), .ref (p0a 6), .null, .ref (p0a 8), .ref (p0a 9), .int ((o_49.2) 0 9), .int ((o_49.2) 0 10), .int ((o_49.2) 0 11), .int ((o_49.2) 0 12)]))]] : List va_W)) H := vP_perm (vP_fb hP) (bP (List.Perm.refl _))
                have hD : va_D A (List.flatten ([[((p0a 0), .inr (14, [.ref xv, .int ((o_49.2) 0 1), .int ((o_49.2) 0 2), .int ((o_49.2) 0 3), .int ((o_49.2) 0 4), .ref (p0a 6), .null, .ref (p0a 8), .ref (p0a 9), .int ((o_49.2) 0 9), .int ((o_49.2) 0 10), .int ((o_49.2) 0 11), .int ((o_49.2) 0 12)]))]] : List va_W)) := vD_perm (vD_fb hD) (bP (List.Perm.refl _))
                have hK : va_K (dC, dI) cls (List.flatten ([[]] : List (List (ClassId × FieldType)))) s := vK_perm (vK_fb hK) (bP (List.Perm.refl _))
                obtain rfl : r50 = (o_49.1) := hw
                refine lv_iadd hx hb dX13_part_208 ?_
                refine lv_istore_n (lv' := [(3, .int (1 + (o_49.1))), (2, .int (o_1.1)), (0, .ref (p0a 0)), (1, .int p1)]) hx hb dX13_part_209 rfl hl (by decide) rfl (fun ls hl => ?_)
                refine lv_aload_n hx hb dX13_part_210 rfl (lv_at hl 2 rfl) ?_
                refine lv_iload_n hx hb dX13_part_211 rfl (lv_at hl 3 rfl) ?_
                refine lv_iconst (v := 1) hx hb dX13_part_212 (by decide) ?_
                refine lv_isub hx hb dX13_part_213 ?_
                obtain ⟨o_51, hc_51, hrun⟩ := bnd9 hrun
                have hPx : va_P (dC, dI) cls ((List.flatten ([[((p0a 0), .inr (14, [.ref xv, .int ((o_49.2) 0 1), .int ((o_49.2) 0 2), .int ((o_49.2) 0 3), .int ((o_49.2) 0 4), .ref (p0a 6), .null, .ref (p0a 8), .ref (p0a 9), .int ((o_49.2) 0 9), .int ((o_49.2) 0 10), .int ((o_49.2) 0 11), .int ((o_49.2) 0 12)]))]] : List va_W)) ++ (List.flatten ([] : List va_W))) H := vP_fa (vP_perm hP (bP (List.Perm.refl _)))
                have hDx : va_D A ((List.flatten ([[((p0a 0), .inr (14, [.ref xv, .int ((o_49.2) 0 1), .int ((o_49.2) 0 2), .int ((o_49.2) 0 3), .int ((o_49.2) 0 4), .ref (p0a 6), .null, .ref (p0a 8), .ref (p0a 9), .int ((o_49.2) 0 9), .int ((o_49.2) 0 10), .int ((o_49.2) 0 11), .int ((o_49.2) 0 12)]))]] : List va_W)) ++ (List.flatten ([] : List va_W))) := vD_fa (vD_perm hD (bP (List.Perm.refl _)))
                have hKx : va_K (dC, dI) cls ((List.flatten ([[]] : List (List (ClassId × FieldType)))) ++ (List.flatten ([] : List (List (ClassId × FieldType))))) s := vK_fa (vK_perm hK (bP (List.Perm.refl _)))
                have hPc := vP_l hPx
                have hDc := vD_l hDx
                have hKc := vK_l hKx
                have hFc := vfree hDx hS hA
                refine va_callr (va_runV (As := [.int (p1 - 1)]) (rest := []) ⟨hx, hb, hml, hown, hts⟩ (hkk_part dC dI (p0a := p0a) (p0w := (o_49.2)) (p1 := (p1 - 1)) (sz := _) (o := o_51) (hrun := hc_51)) (cwV 1 hts (gi_V qw1580 qw1581 qw1582 qw1566 (gi_z qw1579)) rfl rfl rfl (by decide +kernel) ⟨rmF9, rmL9 (n := 24) (Nat.le_of_ble_eq_true rfl)⟩) ⟨PRE.blind, va_recv hKc hPc (ci := 14) (q0 := 0) rfl rfl, PRE.of (ENV.add hE xq9_m hro_x) hS hFc hPc hKc hDc⟩ rfl rfl hl.1 rfl (lv_room (Nat.le_of_ble_eq_true rfl)) dX13_part_214 ⟨(show 0 + C9 ≤ (2 * C9 + 2) from by omega), (show 0 + 4 * C9 ≤ 4 * (2 * C9 + 2) from by omega)⟩) hS (fun q _ h => hFc q h) hFc (fun u r51 t H locs ht hvm hw hB hz1 hk1 hS => ?_)
                obtain ⟨wt_51, hph_wt_51, hB⟩ := hB
                obtain ⟨b1, b2, b3⟩ := hB
                rw [ht] at b1
                obtain ⟨hP, hD, hK⟩ := JOINC (wc := (List.flatten ([[((p0a 0), .inr (14, [.ref xv, .int ((o_49.2) 0 1), .int ((o_49.2) 0 2), .int ((o_49.2) 0 3), .int ((o_49.2) 0 4), .ref (p0a 6), .null, .ref (p0a 8), .ref (p0a 9), .int ((o_49.2) 0 9), .int ((o_49.2) 0 10), .int ((o_49.2) 0 11), .int ((o_49.2) 0 12)]))]] : List va_W))) (wr := (List.flatten ([] : List va_W))) (w1 := (List.flatten ([[((p0a 0), .inr (14, [.ref xv, .int ((o_51.2) 0 1), .int ((o_51.2) 0 2), .int ((o_51.2) 0 3), .int ((o_51.2) 0 4), .ref (p0a 6), .null, .ref (p0a 8), .ref (p0a 9), .int ((o_51.2) 0 9), .int ((o_51.2) 0 10), .int ((o_51.2) 0 11), .int ((o_51.2) 0 12)]))], wt_51] : List va_W))) (t1 := (List.flatten ([[], []] : List (List (ClassId × FieldType))))) hPx hDx hKx hk1 hFc b1 (va_K.moved hvm.symm b2) b3
                have hP : va_P (dC, dI) cls (List.flatten ([[((p0a 0), .inr (14, [.ref xv, .int ((o_51.2) 0 1), .int ((o_51.2) 0 2), .int ((o_51.2) 0 3), .int ((o_51.2) 0 4), .ref (p0a 6), .null, .ref (p0a 8), .ref (p0a 9), .int ((o_51.2) 0 9), .int ((o_51.2) 0 10), .int ((o_51.2) 0 11), .int ((o_51.2) 0 12)]))], wt_51] : List va_W)) H := vP_perm (vP_fb hP) (bP (List.Perm.refl _))
                have hD : va_D A (List.flatten ([[((p0a 0), .inr (14, [.ref xv, .int ((o_51.2) 0 1), .int ((o_51.2) 0 2), .int ((o_51.2) 0 3), .int ((o_51.2) 0 4), .ref (p0a 6), .null, .ref (p0a 8), .ref (p0a 9), .int ((o_51.2) 0 9), .int ((o_51.2) 0 10), .int ((o_51.2) 0 11), .int ((o_51.2) 0 12)]))], wt_51] : List va_W)) := vD_perm (vD_fb hD) (bP (List.Perm.refl _))
                have hK : va_K (dC, dI) cls (List.flatten ([[], []] : List (List (ClassId × FieldType)))) s := vK_perm (vK_fb hK) (bP (List.Perm.refl _))
                refine W.widen (k := (C9)) (n := (4 * (C9))) (by omega) (by omega) ?_
                refine lv_astore (lv' := [(4, .ref r51), (3, .int (1 + (o_49.1))), (2, .int (o_1.1)), (0, .ref (p0a 0)), (1, .int p1)]) hx hb dX13_part_217 hl (by decide) rfl (fun ls hl => ?_)
                refine lv_iload_n hx hb dX13_part_219 rfl (lv_at hl 1 rfl) ?_
                refine lv_iconst (v := 4) hx hb dX13_part_220 (by decide) ?_
                rcases br9 hrun with ⟨hc52, hrun⟩ | ⟨hc52, hrun⟩
                · refine lv_icmp_eq (tgt := 229) hx hb dX13_part_221 (by decide) (fun _ => ?_) (fun c => absurd hc52 c)
                  refine lv_aload_n hx hb dX13_part_229 rfl (lv_at hl 3 rfl) ?_
                  refine lv_iconst (v := 5) hx hb dX13_part_230 (by decide) ?_
                  obtain ⟨o_53, hc_53, hrun⟩ := bnd9 hrun
                  have hPx : va_P (dC, dI) cls ((List.flatten ([[((p0a 0), .inr (14, [.ref xv, .int ((o_51.2) 0 1), .int ((o_51.2) 0 2), .int ((o_51.2) 0 3), .int ((o_51.2) 0 4), .ref (p0a 6), .null, .ref (p0a 8), .ref (p0a 9), .int ((o_51.2) 0 9), .int ((o_51.2) 0 10), .int ((o_51.2) 0 11), .int ((o_51.2) 0 12)]))]] : List va_W)) ++ (List.flatten ([wt_51] : List va_W))) H := vP_fa (vP_perm hP (bP (List.Perm.refl _)))
                  have hDx : va_D A ((List.flatten ([[((p0a 0), .inr (14, [.ref xv, .int ((o_51.2) 0 1), .int ((o_51.2) 0 2), .int ((o_51.2) 0 3), .int ((o_51.2) 0 4), .ref (p0a 6), .null, .ref (p0a 8), .ref (p0a 9), .int ((o_51.2) 0 9), .int ((o_51.2) 0 10), .int ((o_51.2) 0 11), .int ((o_51.2) 0 12)]))]] : List va_W)) ++ (List.flatten ([wt_51] : List va_W))) := vD_fa (vD_perm hD (bP (List.Perm.refl _)))
                  have hKx : va_K (dC, dI) cls ((List.flatten ([[]] : List (List (ClassId × FieldType)))) ++ (List.flatten ([[]] : List (List (ClassId × FieldType))))) s := vK_fa (vK_perm hK (bP (List.Perm.refl _)))
                  have hPc := vP_l hPx
                  have hDc := vD_l hDx
                  have hKc := vK_l hKx
                  have hFc := vfree hDx hS hA
                  refine va_calli (va_runV (As := [.int 5]) (rest := []) ⟨hx, hb, hml, hown, hts⟩ (kX13_draw l dC dI (p0a := (st0 (p0a 0) (st1 p0a 1 xv))) (p0w := (o_51.2)) (p1 := 5) (xv := xv) (xm := xm) (xf := xf) (sz := _) (o := o_53) (hrun := hc_53)) (cwV 1 hts (gi_V qw1563 qw1564 qw1565 qw1566 (gi_z qw1562)) rfl rfl rfl (by decide +kernel) ⟨rmF (Nat.le_of_ble_eq_true rfl), rmL (Nat.le_of_ble_eq_true rfl)⟩) ⟨PRE.blind, va_recv hKc hPc (ci := 14) (q0 := 0) rfl rfl, PRE.of (ENV.add hE xq9_m hro_x) hS hFc hPc hKc hDc⟩ rfl rfl hl.1 rfl (lv_room (Nat.le_of_ble_eq_true rfl)) dX13_part_231 ⟨(show (C9) + 0 ≤ (2 * C9 + 2) from by omega), (show (4 * (C9)) + 0 ≤ 4 * (2 * C9 + 2) from by omega)⟩) hS (fun q _ h => hFc q h) hFc (fun r54 u t H locs ht hvm hw hB hz1 hk1 hS => ?_)
                  obtain ⟨b1, b2, b3⟩ := hB
                  rw [ht] at b1
                  obtain ⟨hP, hD, hK⟩ := JOINC (wc := (List.flatten ([[((p0a 0), .inr (14, [.ref xv, .int ((o_51.2) 0 1), .int ((o_51.2) 0 2), .int ((o_51.2) 0 3), .int ((o_51.2) 0 4), .ref (p0a 6), .null, .ref (p0a 8), .ref (p0a 9), .int ((o_51.2) 0 9), .int ((o_51.2) 0 10), .int ((o_51.2) 0 11), .int ((o_51.2) 0 12)]))]] : List va_W))) (wr := (List.flatten ([wt_51] : List va_W))) (w1 := (List.flatten ([[((p0a 0), .inr (14, [.ref xv, .int ((o_53.2) 0 1), .int ((o_53.2) 0 2), .int ((o_53.2) 0 3), .int ((o_53.2) 0 4), .ref (p0a 6), .null, .ref (p0a 8), .ref (p0a 9), .int ((o_53.2) 0 9), .int ((o_53.2) 0 10), .int ((o_53.2) 0 11), .int ((o_53.2) 0 12)]))]] : List va_W))) (t1 := (List.flatten ([[]] : List (List (ClassId × FieldType))))) hPx hDx hKx hk1 hFc b1 (va_K.moved hvm.symm b2) b3
                  have hP : va_P (dC, dI) cls (List.flatten ([[((p0a 0), .inr (14, [.ref xv, .int ((o_53.2) 0 1), .int ((o_53.2) 0 2), .int ((o_53.2) 0 3), .int ((o_53.2) 0 4), .ref (p0a 6), .null, .ref (p0a 8), .ref (p0a 9), .int ((o_53.2) 0 9), .int ((o_53.2) 0 10), .int ((o_53.2) 0 11), .int ((o_53.2) 0 12)]))], wt_51] : List va_W)) H := vP_perm (vP_fb hP) (bP (List.Perm.refl _))
                  have hD : va_D A (List.flatten ([[((p0a 0), .inr (14, [.ref xv, .int ((o_53.2) 0 1), .int ((o_53.2) 0 2), .int ((o_53.2) 0 3), .int ((o_53.2) 0 4), .ref (p0a 6), .null, .ref (p0a 8), .ref (p0a 9), .int ((o_53.2) 0 9), .int ((o_53.2) 0 10), .int ((o_53.2) 0 11), .int ((o_53.2) 0 12)]))], wt_51] : List va_W)) := vD_perm (vD_fb hD) (bP (List.Perm.refl _))
                  have hK : va_K (dC, dI) cls (List.flatten ([[], []] : List (List (ClassId × FieldType)))) s := vK_perm (vK_fb hK) (bP (List.Perm.refl _))
                  obtain rfl : r54 = (o_53.1) := hw
                  rcases br9 hrun with ⟨hc55, hrun⟩ | ⟨hc55, hrun⟩
                  · refine lv_if_ne (tgt := 256) hx hb dX13_part_234 (by decide) (fun c => absurd hc55 c) (fun _ => ?_)
                    refine va_new (ci := 16) (fs := [.int 0, .int 0, .null, .null]) (C := RX14) (T := TX14) (N := 4) hx hb hts i_X14 tyX14 tyX14_ok hown (hts _ qw1568) (hts _ qw1569) (hts _ qw1570) hK hP hD hS hA rfl df_X14 (show (C9) + 1 ≤ (2 * C9 + 2) from by omega) (show (4 * (C9)) + 4 ≤ 4 * (2 * C9 + 2) from by omega) dX13_part_237 (fun q56 H hP hD hS => ?_)
                    replace hP := vP_new hP
                    replace hD := vD_new hD
                    have hP : va_P (dC, dI) cls (List.flatten ([[(q56, .inr (16, [.int 0, .int 0, .null, .null]))], [((p0a 0), .inr (14, [.ref xv, .int ((o_53.2) 0 1), .int ((o_53.2) 0 2), .int ((o_53.2) 0 3), .int ((o_53.2) 0 4), .ref (p0a 6), .null, .ref (p0a 8), .ref (p0a 9), .int ((o_53.2) 0 9), .int ((o_53.2) 0 10), .int ((o_53.2) 0 11), .int ((o_53.2) 0 12)]))], wt_51] : List va_W)) H := hP
                    have hD : va_D A (List.flatten ([[(q56, .inr (16, [.int 0, .int 0, .null, .null]))], [((p0a 0), .inr (14, [.ref xv, .int ((o_53.2) 0 1), .int ((o_53.2) 0 2), .int ((o_53.2) 0 3), .int ((o_53.2) 0 4), .ref (p0a 6), .null, .ref (p0a 8), .ref (p0a 9), .int ((o_53.2) 0 9), .int ((o_53.2) 0 10), .int ((o_53.2) 0 11), .int ((o_53.2) 0 12)]))], wt_51] : List va_W)) := hD
                    have hK : va_K (dC, dI) cls (List.flatten ([[], [], []] : List (List (ClassId × FieldType)))) s := hK
                    refine W.widen (k := (C9 + 1)) (n := (4 * (C9 + 1))) (by omega) (by omega) ?_
                    refine lv_dup hx hb dX13_part_240 rfl ?_
                    refine lv_iconst (v := 2) hx hb dX13_part_241 (by decide) ?_
                    refine lv_iload_n hx hb dX13_part_242 rfl (lv_at hl 1 rfl) ?_
                    refine lv_aload hx hb dX13_part_243 (lv_at hl 0 rfl) ?_
                    refine lv_aload_n hx hb dX13_part_245 rfl (lv_at hl 3 rfl) ?_
                    refine lv_iload_n hx hb dX13_part_246 rfl (lv_at hl 4 rfl) ?_
                    refine lv_iconst (v := 1) hx hb dX13_part_247 (by decide) ?_
                    refine lv_isub hx hb dX13_part_248 ?_
                    obtain ⟨o_57, hc_57, hrun⟩ := bnd9 hrun
                    have hPx : va_P (dC, dI) cls ((List.flatten ([[((p0a 0), .inr (14, [.ref xv, .int ((o_53.2) 0 1), .int ((o_53.2) 0 2), .int ((o_53.2) 0 3), .int ((o_53.2) 0 4), .ref (p0a 6), .null, .ref (p0a 8), .ref (p0a 9), .int ((o_53.2) 0 9), .int ((o_53.2) 0 10), .int ((o_53.2) 0 11), .int ((o_53.2) 0 12)]))]] : List va_W)) ++ (List.flatten ([[(q56, .inr (16, [.int 0, .int 0, .null, .null]))], wt_51] : List va_W))) H := vP_fa (vP_perm hP (bP ((((List.Perm.refl _)).cons _).trans (List.Perm.swap _ _ _))))
                    have hDx : va_D A ((List.flatten ([[((p0a 0), .inr (14, [.ref xv, .int ((o_53.2) 0 1), .int ((o_53.2) 0 2), .int ((o_53.2) 0 3), .int ((o_53.2) 0 4), .ref (p0a 6), .null, .ref (p0a 8), .ref (p0a 9), .int ((o_53.2) 0 9), .int ((o_53.2) 0 10), .int ((o_53.2) 0 11), .int ((o_53.2) 0 12)]))]] : List va_W)) ++ (List.flatten ([[(q56, .inr (16, [.int 0, .int 0, .null, .null]))], wt_51] : List va_W))) := vD_fa (vD_perm hD (bP ((((List.Perm.refl _)).cons _).trans (List.Perm.swap _ _ _))))
                    have hKx : va_K (dC, dI) cls ((List.flatten ([[]] : List (List (ClassId × FieldType)))) ++ (List.flatten ([[], []] : List (List (ClassId × FieldType))))) s := vK_fa (vK_perm hK (bP ((((List.Perm.refl _)).cons _).trans (List.Perm.swap _ _ _))))
                    have hPc := vP_l hPx
                    have hDc := vD_l hDx
                    have hKc := vK_l hKx
                    have hFc := vfree hDx hS hA
                    refine va_callr (va_runV (As := [.int (p1 - 1)]) (rest := [.ref r51, .int (1 + (o_49.1)), .int 2, .ref q56, .ref q56]) ⟨hx, hb, hml, hown, hts⟩ (hkk_part dC dI (p0a := p0a) (p0w := (o_53.2)) (p1 := (p1 - 1)) (sz := _) (o := o_57) (hrun := hc_57)) (cwV 1 hts (gi_V qw1580 qw1581 qw1582 qw1566 (gi_z qw1579)) rfl rfl rfl (by decide +kernel) ⟨rmF9, rmL9 (n := 24) (Nat.le_of_ble_eq_true rfl)⟩) ⟨PRE.blind, va_recv hKc hPc (ci := 14) (q0 := 0) rfl rfl, PRE.of (ENV.add hE xq9_m hro_x) hS hFc hPc hKc hDc⟩ rfl rfl hl.1 rfl (lv_room (Nat.le_of_ble_eq_true rfl)) dX13_part_249 ⟨(show (C9 + 1) + C9 ≤ (2 * C9 + 2) from by omega), (show (4 * (C9 + 1)) + 4 * C9 ≤ 4 * (2 * C9 + 2) from by omega)⟩) hS (fun q _ h => hFc q h) hFc (fun u r57 t H locs ht hvm hw hB hz1 hk1 hS => ?_)
                    obtain ⟨wt_57, hph_wt_57, hB⟩ := hB
                    obtain ⟨b1, b2, b3⟩ := hB
                    rw [ht] at b1
                    obtain ⟨hP, hD, hK⟩ := JOINC (wc := (List.flatten ([[((p0a 0), .inr (14, [.ref xv, .int ((o_53.2) 0 1), .int ((o_53.2) 0 2), .int ((o_53.2) 0 3), .int ((o_53.2) 0 4), .ref (p0a 6), .null, .ref (p0a 8), .ref (p0a 9), .int ((o_53.2) 0 9), .int ((o_53.2) 0 10), .int ((o_53.2) 0 11), .int ((o_53.2) 0 12)]))]] : List va_W))) (wr := (List.flatten ([[(q56, .inr (16, [.int 0, .int 0, .null, .null]))], wt_51] : List va_W))) (w1 := (List.flatten ([[((p0a 0), .inr (14, [.ref xv, .int ((o_57.2) 0 1), .int ((o_57.2) 0 2), .int ((o_57.2) 0 3), .int ((o_57.2) 0 4), .ref (p0a 6), .null, .ref (p0a 8), .ref (p0a 9), .int ((o_57.2) 0 9), .int ((o_57.2) 0 10), .int ((o_57.2) 0 11), .int ((o_57.2) 0 12)]))], wt_57] : List va_W))) (t1 := (List.flatten ([[], []] : List (List (ClassId × FieldType))))) hPx hDx hKx hk1 hFc b1 (va_K.moved hvm.symm b2) b3
                    have hP : va_P (dC, dI) cls (List.flatten ([[(q56, .inr (16, [.int 0, .int 0, .null, .null]))], [((p0a 0), .inr (14, [.ref xv, .int ((o_57.2) 0 1), .int ((o_57.2) 0 2), .int ((o_57.2) 0 3), .int ((o_57.2) 0 4), .ref (p0a 6), .null, .ref (p0a 8), .ref (p0a 9), .int ((o_57.2) 0 9), .int ((o_57.2) 0 10), .int ((o_57.2) 0 11), .int ((o_57.2) 0 12)]))], wt_57, wt_51] : List va_W)) H := vP_perm (vP_fb hP) (bP (((((((List.Perm.refl _)).cons _).trans (List.Perm.swap _ _ _))).cons _).trans (List.Perm.swap _ _ _)))
                    have hD : va_D A (List.flatten ([[(q56, .inr (16, [.int 0, .int 0, .null, .null]))], [((p0a 0), .inr (14, [.ref xv, .int ((o_57.2) 0 1), .int ((o_57.2) 0 2), .int ((o_57.2) 0 3), .int ((o_57.2) 0 4), .ref (p0a 6), .null, .ref (p0a 8), .ref (p0a 9), .int ((o_57.2) 0 9), .int ((o_57.2) 0 10), .int ((o_57.2) 0 11), .int ((o_57.2) 0 12)]))], wt_57, wt_51] : List va_W)) := vD_perm (vD_fb hD) (bP (((((((List.Perm.refl _)).cons _).trans (List.Perm.swap _ _ _))).cons _).trans (List.Perm.swap _ _ _)))
                    have hK : va_K (dC, dI) cls (List.flatten ([[], [], [], []] : List (List (ClassId × FieldType)))) s := vK_perm (vK_fb hK) (bP (((((((List.Perm.refl _)).cons _).trans (List.Perm.swap _ _ _))).cons _).trans (List.Perm.swap _ _ _)))
                    refine W.widen (k := (2 * C9 + 1)) (n := (4 * (2 * C9 + 1))) (by omega) (by omega) ?_
                    obtain ⟨hz58, hrun⟩ := chk9 hrun
                    have hPx : va_P (dC, dI) cls ((List.flatten ([[(q56, .inr (16, [.int 0, .int 0, .null, .null]))]] : List va_W)) ++ (List.flatten ([[((p0a 0), .inr (14, [.ref xv, .int ((o_57.2) 0 1), .int ((o_57.2) 0 2), .int ((o_57.2) 0 3), .int ((o_57.2) 0 4), .ref (p0a 6), .null, .ref (p0a 8), .ref (p0a 9), .int ((o_57.2) 0 9), .int ((o_57.2) 0 10), .int ((o_57.2) 0 11), .int ((o_57.2) 0 12)]))], wt_57, wt_51] : List va_W))) H := vP_fa (vP_perm hP (bP (List.Perm.refl _)))
                    have hDx : va_D A ((List.flatten ([[(q56, .inr (16, [.int 0, .int 0, .null, .null]))]] : List va_W)) ++ (List.flatten ([[((p0a 0), .inr (14, [.ref xv, .int ((o_57.2) 0 1), .int ((o_57.2) 0 2), .int ((o_57.2) 0 3), .int ((o_57.2) 0 4), .ref (p0a 6), .null, .ref (p0a 8), .ref (p0a 9), .int ((o_57.2) 0 9), .int ((o_57.2) 0 10), .int ((o_57.2) 0 11), .int ((o_57.2) 0 12)]))], wt_57, wt_51] : List va_W))) := vD_fa (vD_perm hD (bP (List.Perm.refl _)))
                    have hKx : va_K (dC, dI) cls ((List.flatten ([[]] : List (List (ClassId × FieldType)))) ++ (List.flatten ([[], [], []] : List (List (ClassId × FieldType))))) s := vK_fa (vK_perm hK (bP (List.Perm.refl _)))
                    have hPc := vP_l hPx
                    have hDc := vD_l hDx
                    have hKc := vK_l hKx
                    have hFc := vfree hDx hS hA
                    refine va_callv (va_runI (As := [.int 2, .int (1 + (o_49.1)), .ref r51, .ref r57]) (rest := [.ref q56]) ⟨hx, hb, hml, hown, hts⟩ (kX14_init_rr l dC dI (p0h := q56) (p1 := 2) (p2 := (1 + (o_49.1))) (p3h := r51) (p4h := r57) (sz := _)) (cwI 4 hts (gi_z qw1576) rfl rfl rfl (hts _ qw1570) (hts _ qw1577) (hts _ qw1578) rfl (by decide +kernel) ⟨rmF (Nat.le_of_ble_eq_true rfl), rmL (Nat.le_of_ble_eq_true rfl)⟩) ⟨PRE.blind, PRE.of hE hS hFc hPc hKc hDc⟩ rfl rfl hl.1 rfl (lv_room (Nat.le_of_ble_eq_true rfl)) dX13_part_252 ⟨(show (2 * C9 + 1) + 0 ≤ (2 * C9 + 2) from by omega), (show (4 * (2 * C9 + 1)) + 0 ≤ 4 * (2 * C9 + 2) from by omega)⟩) hS (fun q _ h => hFc q h) hFc (fun u t H locs ht hvm hw hB hz1 hk1 hS => ?_)
                    obtain ⟨b1, b2, b3⟩ := hB
                    rw [ht] at b1
                    obtain ⟨hP, hD, hK⟩ := JOINC (wc := (List.flatten ([[(q56, .inr (16, [.int 0, .int 0, .null, .null]))]] : List va_W))) (wr := (List.flatten ([[((p0a 0), .inr (14, [.ref xv, .int ((o_57.2) 0 1), .int ((o_57.2) 0 2), .int ((o_57.2) 0 3), .int ((o_57.2) 0 4), .ref (p0a 6), .null, .ref (p0a 8), .ref (p0a 9), .int ((o_57.2) 0 9), .int ((o_57.2) 0 10), .int ((o_57.2) 0 11), .int ((o_57.2) 0 12)]))], wt_57, wt_51] : List va_W))) (w1 := (List.flatten ([[(q56, .inr (16, [.int 2, .int (1 + (o_49.1)), .ref r51, .ref r57]))]] : List va_W))) (t1 := (List.flatten ([[]] : List (List (ClassId × FieldType))))) hPx hDx hKx hk1 hFc b1 (va_K.moved hvm.symm b2) b3
                    have hP : va_P (dC, dI) cls (List.flatten ([[(q56, .inr (16, [.int 2, .int (1 + (o_49.1)), .ref r51, .ref r57]))], [((p0a 0), .inr (14, [.ref xv, .int ((o_57.2) 0 1), .int ((o_57.2) 0 2), .int ((o_57.2) 0 3), .int ((o_57.2) 0 4), .ref (p0a 6), .null, .ref (p0a 8), .ref (p0a 9), .int ((o_57.2) 0 9), .int ((o_57.2) 0 10), .int ((o_57.2) 0 11), .int ((o_57.2) 0 12)]))], wt_57, wt_51] : List va_W)) H := vP_perm (vP_fb hP) (bP (List.Perm.refl _))
                    have hD : va_D A (List.flatten ([[(q56, .inr (16, [.int 2, .int (1 + (o_49.1)), .ref r51, .ref r57]))], [((p0a 0), .inr (14, [.ref xv, .int ((o_57.2) 0 1), .int ((o_57.2) 0 2), .int ((o_57.2) 0 3), .int ((o_57.2) 0 4), .ref (p0a 6), .null, .ref (p0a 8), .ref (p0a 9), .int ((o_57.2) 0 9), .int ((o_57.2) 0 10), .int ((o_57.2) 0 11), .int ((o_57.2) 0 12)]))], wt_57, wt_51] : List va_W)) := vD_perm (vD_fb hD) (bP (List.Perm.refl _))
                    have hK : va_K (dC, dI) cls (List.flatten ([[], [], [], []] : List (List (ClassId × FieldType)))) s := vK_perm (vK_fb hK) (bP (List.Perm.refl _))
                    have ho9 : ((pb2 2 (1 + (o_49.1)) (o_51.1) (o_57.1)), (o_57.2)) = o := Option.some.inj hrun
                    have hP : va_P (dC, dI) cls (List.flatten ([[((p0a 0), .inr (14, [.ref xv, .int ((o_57.2) 0 1), .int ((o_57.2) 0 2), .int ((o_57.2) 0 3), .int ((o_57.2) 0 4), .ref (p0a 6), .null, .ref (p0a 8), .ref (p0a 9), .int ((o_57.2) 0 9), .int ((o_57.2) 0 10), .int ((o_57.2) 0 11), .int ((o_57.2) 0 12)]))], [(q56, .inr (16, [.int 2, .int (1 + (o_49.1)), .ref r51, .ref r57]))], wt_57, wt_51] : List va_W)) H := vP_perm hP (bP ((((List.Perm.refl _)).cons _).trans (List.Perm.swap _ _ _)))
                    have hD : va_D A (List.flatten ([[((p0a 0), .inr (14, [.ref xv, .int ((o_57.2) 0 1), .int ((o_57.2) 0 2), .int ((o_57.2) 0 3), .int ((o_57.2) 0 4), .ref (p0a 6), .null, .ref (p0a 8), .ref (p0a 9), .int ((o_57.2) 0 9), .int ((o_57.2) 0 10), .int ((o_57.2) 0 11), .int ((o_57.2) 0 12)]))], [(q56, .inr (16, [.int 2, .int (1 + (o_49.1)), .ref r51, .ref r57]))], wt_57, wt_51] : List va_W)) := vD_perm hD (bP ((((List.Perm.refl _)).cons _).trans (List.Perm.swap _ _ _)))
                    subst ho9
                    subst hQ
                    have hph : ph9 (List.flatten ([[(q56, .inr (16, [.int 2, .int (1 + (o_49.1)), .ref r51, .ref r57]))], wt_57, wt_51] : List va_W)) (D9 + 1) q56 (pb2 2 (1 + (o_49.1)) (o_51.1) (o_57.1)) := (ph_2 (fl_mem 0 rfl (List.mem_singleton.mpr rfl)) hz58 (ph9_m (fun x hx => fl_mem 2 rfl hx) hph_wt_51) (ph9_m (fun x hx => fl_mem 1 rfl hx) hph_wt_57))
                    refine W.widen (k := (2 * C9 + 2)) (n := 4 * (2 * C9 + 2)) (by omega) (by omega) ?_
                    exact W.aret (v := .ref q56) (rt := .object RX14) hx hb hr (Or.inl ⟨_, rfl⟩) (Or.inr ⟨_, rfl⟩) (fun t ht hW => ⟨⟨(), q56, rfl, trivial, (List.flatten ([[(q56, .inr (16, [.int 2, .int (1 + (o_49.1)), .ref r51, .ref r57]))], wt_57, wt_51] : List va_W)), hph, by rw [ht, fl_two]; exact hP, va_K.moved hW.alike hK, by rw [fl_two]; exact hD⟩, hS.F ht⟩) hS.2.2 dX13_part_255
                  · refine lv_if_ne (tgt := 256) hx hb dX13_part_234 (by decide) (fun _ => ?_) (fun c => absurd c hc55)
                    refine va_new (ci := 16) (fs := [.int 0, .int 0, .null, .null]) (C := RX14) (T := TX14) (N := 4) hx hb hts i_X14 tyX14 tyX14_ok hown (hts _ qw1568) (hts _ qw1569) (hts _ qw1570) hK hP hD hS hA rfl df_X14 (show (C9) + 1 ≤ (2 * C9 + 2) from by omega) (show (4 * (C9)) + 4 ≤ 4 * (2 * C9 + 2) from by omega) dX13_part_256 (fun q59 H hP hD hS => ?_)
                    replace hP := vP_new hP
                    replace hD := vD_new hD
                    have hP : va_P (dC, dI) cls (List.flatten ([[(q59, .inr (16, [.int 0, .int 0, .null, .null]))], [((p0a 0), .inr (14, [.ref xv, .int ((o_53.2) 0 1), .int ((o_53.2) 0 2), .int ((o_53.2) 0 3), .int ((o_53.2) 0 4), .ref (p0a 6), .null, .ref (p0a 8), .ref (p0a 9), .int ((o_53.2) 0 9), .int ((o_53.2) 0 10), .int ((o_53.2) 0 11), .int ((o_53.2) 0 12)]))], wt_51] : List va_W)) H := hP
                    have hD : va_D A (List.flatten ([[(q59, .inr (16, [.int 0, .int 0, .null, .null]))], [((p0a 0), .inr (14, [.ref xv, .int ((o_53.2) 0 1), .int ((o_53.2) 0 2), .int ((o_53.2) 0 3), .int ((o_53.2) 0 4), .ref (p0a 6), .null, .ref (p0a 8), .ref (p0a 9), .int ((o_53.2) 0 9), .int ((o_53.2) 0 10), .int ((o_53.2) 0 11), .int ((o_53.2) 0 12)]))], wt_51] : List va_W)) := hD
                    have hK : va_K (dC, dI) cls (List.flatten ([[], [], []] : List (List (ClassId × FieldType)))) s := hK
                    refine W.widen (k := (C9 + 1)) (n := (4 * (C9 + 1))) (by omega) (by omega) ?_
                    refine lv_dup hx hb dX13_part_259 rfl ?_
                    refine lv_iconst (v := 2) hx hb dX13_part_260 (by decide) ?_
                    refine lv_iload_n hx hb dX13_part_261 rfl (lv_at hl 1 rfl) ?_
                    refine lv_aload hx hb dX13_part_262 (lv_at hl 0 rfl) ?_
                    refine va_new (ci := 16) (fs := [.int 0, .int 0, .null, .null]) (C := RX14) (T := TX14) (N := 4) hx hb hts i_X14 tyX14 tyX14_ok hown (hts _ qw1568) (hts _ qw1569) (hts _ qw1570) hK hP hD hS hA rfl df_X14 (show (C9 + 1) + 1 ≤ (2 * C9 + 2) from by omega) (show (4 * (C9 + 1)) + 4 ≤ 4 * (2 * C9 + 2) from by omega) dX13_part_264 (fun q60 H hP hD hS => ?_)
                    replace hP := vP_new hP
                    replace hD := vD_new hD
                    have hP : va_P (dC, dI) cls (List.flatten ([[(q60, .inr (16, [.int 0, .int 0, .null, .null]))], [(q59, .inr (16, [.int 0, .int 0, .null, .null]))], [((p0a 0), .inr (14, [.ref xv, .int ((o_53.2) 0 1), .int ((o_53.2) 0 2), .int ((o_53.2) 0 3), .int ((o_53.2) 0 4), .ref (p0a 6), .null, .ref (p0a 8), .ref (p0a 9), .int ((o_53.2) 0 9), .int ((o_53.2) 0 10), .int ((o_53.2) 0 11), .int ((o_53.2) 0 12)]))], wt_51] : List va_W)) H := hP
                    have hD : va_D A (List.flatten ([[(q60, .inr (16, [.int 0, .int 0, .null, .null]))], [(q59, .inr (16, [.int 0, .int 0, .null, .null]))], [((p0a 0), .inr (14, [.ref xv, .int ((o_53.2) 0 1), .int ((o_53.2) 0 2), .int ((o_53.2) 0 3), .int ((o_53.2) 0 4), .ref (p0a 6), .null, .ref (p0a 8), .ref (p0a 9), .int ((o_53.2) 0 9), .int ((o_53.2) 0 10), .int ((o_53.2) 0 11), .int ((o_53.2) 0 12)]))], wt_51] : List va_W)) := hD
                    have hK : va_K (dC, dI) cls (List.flatten ([[], [], [], []] : List (List (ClassId × FieldType)))) s := hK
                    refine W.widen (k := (C9 + 2)) (n := (4 * (C9 + 2))) (by omega) (by omega) ?_
                    refine lv_dup hx hb dX13_part_267 rfl ?_
                    refine lv_iconst (v := 0) hx hb dX13_part_268 (by decide) ?_
                    refine lv_iconst (v := 1) hx hb dX13_part_269 (by decide) ?_
                    refine lv_aload_n hx hb dX13_part_270 rfl (lv_at hl 3 rfl) ?_
                    refine lv_bipush (v := 9) hx hb dX13_part_271 (by decide) ?_
                    obtain ⟨o_61, hc_61, hrun⟩ := bnd9 hrun
                    have hPx : va_P (dC, dI) cls ((List.flatten ([[((p0a 0), .inr (14, [.ref xv, .int ((o_53.2) 0 1), .int ((o_53.2) 0 2), .int ((o_53.2) 0 3), .int ((o_53.2) 0 4), .ref (p0a 6), .null, .ref (p0a 8), .ref (p0a 9), .int ((o_53.2) 0 9), .int ((o_53.2) 0 10), .int ((o_53.2) 0 11), .int ((o_53.2) 0 12)]))]] : List va_W)) ++ (List.flatten ([[(q60, .inr (16, [.int 0, .int 0, .null, .null]))], [(q59, .inr (16, [.int 0, .int 0, .null, .null]))], wt_51] : List va_W))) H := vP_fa (vP_perm hP (bP (((((((List.Perm.refl _)).cons _).trans (List.Perm.swap _ _ _))).cons _).trans (List.Perm.swap _ _ _))))
                    have hDx : va_D A ((List.flatten ([[((p0a 0), .inr (14, [.ref xv, .int ((o_53.2) 0 1), .int ((o_53.2) 0 2), .int ((o_53.2) 0 3), .int ((o_53.2) 0 4), .ref (p0a 6), .null, .ref (p0a 8), .ref (p0a 9), .int ((o_53.2) 0 9), .int ((o_53.2) 0 10), .int ((o_53.2) 0 11), .int ((o_53.2) 0 12)]))]] : List va_W)) ++ (List.flatten ([[(q60, .inr (16, [.int 0, .int 0, .null, .null]))], [(q59, .inr (16, [.int 0, .int 0, .null, .null]))], wt_51] : List va_W))) := vD_fa (vD_perm hD (bP (((((((List.Perm.refl _)).cons _).trans (List.Perm.swap _ _ _))).cons _).trans (List.Perm.swap _ _ _))))
                    have hKx : va_K (dC, dI) cls ((List.flatten ([[]] : List (List (ClassId × FieldType)))) ++ (List.flatten ([[], [], []] : List (List (ClassId × FieldType))))) s := vK_fa (vK_perm hK (bP (((((((List.Perm.refl _)).cons _).trans (List.Perm.swap _ _ _))).cons _).trans (List.Perm.swap _ _ _))))
                    have hPc := vP_l hPx
                    have hDc := vD_l hDx
                    have hKc := vK_l hKx
                    have hFc := vfree hDx hS hA
                    refine va_calli (sx_runV12 (As := [.int 9]) (rest := [.int 1, .int 0, .ref q60, .ref q60, .ref r51, .int (1 + (o_49.1)), .int 2, .ref q59, .ref q59]) ⟨hx, hb, hml, hown, hts⟩ (kX13_draw l dC dI (p0a := (st0 (p0a 0) (st1 p0a 1 xv))) (p0w := (o_53.2)) (p1 := 9) (xv := xv) (xm := xm) (xf := xf) (sz := _) (o := o_61) (hrun := hc_61)) (cwV 1 hts (gi_V qw1563 qw1564 qw1565 qw1566 (gi_z qw1562)) rfl rfl rfl (by decide +kernel) ⟨rmF (Nat.le_of_ble_eq_true rfl), rmL (Nat.le_of_ble_eq_true rfl)⟩) ⟨PRE.blind, va_recv hKc hPc (ci := 14) (q0 := 0) rfl rfl, PRE.of (ENV.add hE xq9_m hro_x) hS hFc hPc hKc hDc⟩ rfl rfl hl.1 rfl (lv_room12 (Nat.le_of_ble_eq_true rfl)) (rmL (Nat.le_of_ble_eq_true rfl)) dX13_part_273 ⟨(show (C9 + 2) + 0 ≤ (2 * C9 + 2) from by omega), (show (4 * (C9 + 2)) + 0 ≤ 4 * (2 * C9 + 2) from by omega)⟩) hS (fun q _ h => hFc q h) hFc (fun r62 u t H locs ht hvm hw hB hz1 hk1 hS => ?_)
                    obtain ⟨b1, b2, b3⟩ := hB
                    rw [ht] at b1
                    obtain ⟨hP, hD, hK⟩ := JOINC (wc := (List.flatten ([[((p0a 0), .inr (14, [.ref xv, .int ((o_53.2) 0 1), .int ((o_53.2) 0 2), .int ((o_53.2) 0 3), .int ((o_53.2) 0 4), .ref (p0a 6), .null, .ref (p0a 8), .ref (p0a 9), .int ((o_53.2) 0 9), .int ((o_53.2) 0 10), .int ((o_53.2) 0 11), .int ((o_53.2) 0 12)]))]] : List va_W))) (wr := (List.flatten ([[(q60, .inr (16, [.int 0, .int 0, .null, .null]))], [(q59, .inr (16, [.int 0, .int 0, .null, .null]))], wt_51] : List va_W))) (w1 := (List.flatten ([[((p0a 0), .inr (14, [.ref xv, .int ((o_61.2) 0 1), .int ((o_61.2) 0 2), .int ((o_61.2) 0 3), .int ((o_61.2) 0 4), .ref (p0a 6), .null, .ref (p0a 8), .ref (p0a 9), .int ((o_61.2) 0 9), .int ((o_61.2) 0 10), .int ((o_61.2) 0 11), .int ((o_61.2) 0 12)]))]] : List va_W))) (t1 := (List.flatten ([[]] : List (List (ClassId × FieldType))))) hPx hDx hKx hk1 hFc b1 (va_K.moved hvm.symm b2) b3
                    have hP : va_P (dC, dI) cls (List.flatten ([[(q60, .inr (16, [.int 0, .int 0, .null, .null]))], [(q59, .inr (16, [.int 0, .int 0, .null, .null]))], [((p0a 0), .inr (14, [.ref xv, .int ((o_61.2) 0 1), .int ((o_61.2) 0 2), .int ((o_61.2) 0 3), .int ((o_61.2) 0 4), .ref (p0a 6), .null, .ref (p0a 8), .ref (p0a 9), .int ((o_61.2) 0 9), .int ((o_61.2) 0 10), .int ((o_61.2) 0 11), .int ((o_61.2) 0 12)]))], wt_51] : List va_W)) H := vP_perm (vP_fb hP) (bP ((((((List.Perm.refl _)).cons _).trans (List.Perm.swap _ _ _))).trans ((((((List.Perm.refl _)).cons _).trans (List.Perm.swap _ _ _))).cons _)))
                    have hD : va_D A (List.flatten ([[(q60, .inr (16, [.int 0, .int 0, .null, .null]))], [(q59, .inr (16, [.int 0, .int 0, .null, .null]))], [((p0a 0), .inr (14, [.ref xv, .int ((o_61.2) 0 1), .int ((o_61.2) 0 2), .int ((o_61.2) 0 3), .int ((o_61.2) 0 4), .ref (p0a 6), .null, .ref (p0a 8), .ref (p0a 9), .int ((o_61.2) 0 9), .int ((o_61.2) 0 10), .int ((o_61.2) 0 11), .int ((o_61.2) 0 12)]))], wt_51] : List va_W)) := vD_perm (vD_fb hD) (bP ((((((List.Perm.refl _)).cons _).trans (List.Perm.swap _ _ _))).trans ((((((List.Perm.refl _)).cons _).trans (List.Perm.swap _ _ _))).cons _)))
                    have hK : va_K (dC, dI) cls (List.flatten ([[], [], [], []] : List (List (ClassId × FieldType)))) s := vK_perm (vK_fb hK) (bP ((((((List.Perm.refl _)).cons _).trans (List.Perm.swap _ _ _))).trans ((((((List.Perm.refl _)).cons _).trans (List.Perm.swap _ _ _))).cons _)))
                    obtain rfl : r62 = (o_61.1) := hw
                    refine lv_iadd hx hb dX13_part_276 ?_
                    refine lv_null hx hb dX13_part_277 ?_
                    refine lv_null hx hb dX13_part_278 ?_
                    obtain ⟨hz63, hrun⟩ := chk9 hrun
                    have hPx : va_P (dC, dI) cls ((List.flatten ([[(q60, .inr (16, [.int 0, .int 0, .null, .null]))]] : List va_W)) ++ (List.flatten ([[(q59, .inr (16, [.int 0, .int 0, .null, .null]))], [((p0a 0), .inr (14, [.ref xv, .int ((o_61.2) 0 1), .int ((o_61.2) 0 2), .int ((o_61.2) 0 3), .int ((o_61.2) 0 4), .ref (p0a 6), .null, .ref (p0a 8), .ref (p0a 9), .int ((o_61.2) 0 9), .int ((o_61.2) 0 10), .int ((o_61.2) 0 11), .int ((o_61.2) 0 12)]))], wt_51] : List va_W))) H := vP_fa (vP_perm hP (bP (List.Perm.refl _)))
                    have hDx : va_D A ((List.flatten ([[(q60, .inr (16, [.int 0, .int 0, .null, .null]))]] : List va_W)) ++ (List.flatten ([[(q59, .inr (16, [.int 0, .int 0, .null, .null]))], [((p0a 0), .inr (14, [.ref xv, .int ((o_61.2) 0 1), .int ((o_61.2) 0 2), .int ((o_61.2) 0 3), .int ((o_61.2) 0 4), .ref (p0a 6), .null, .ref (p0a 8), .ref (p0a 9), .int ((o_61.2) 0 9), .int ((o_61.2) 0 10), .int ((o_61.2) 0 11), .int ((o_61.2) 0 12)]))], wt_51] : List va_W))) := vD_fa (vD_perm hD (bP (List.Perm.refl _)))
                    have hKx : va_K (dC, dI) cls ((List.flatten ([[]] : List (List (ClassId × FieldType)))) ++ (List.flatten ([[], [], []] : List (List (ClassId × FieldType))))) s := vK_fa (vK_perm hK (bP (List.Perm.refl _)))
                    have hPc := vP_l hPx
                    have hDc := vD_l hDx
                    have hKc := vK_l hKx
                    have hFc := vfree hDx hS hA
                    refine va_callv (va_runI (As := [.int 0, .int (1 + (o_61.1)), .null, .null]) (rest := [.ref q60, .ref r51, .int (1 + (o_49.1)), .int 2, .ref q59, .ref q59]) ⟨hx, hb, hml, hown, hts⟩ (kX14_init_nn l dC dI (p0h := q60) (p1 := 0) (p2 := (1 + (o_61.1))) (sz := _)) (cwI 4 hts (gi_z qw1576) rfl rfl rfl (hts _ qw1570) (hts _ qw1577) (hts _ qw1578) rfl (by decide +kernel) ⟨rmF (Nat.le_of_ble_eq_true rfl), rmL (Nat.le_of_ble_eq_true rfl)⟩) ⟨PRE.blind, PRE.of hE hS hFc hPc hKc hDc⟩ rfl rfl hl.1 rfl (lv_room (Nat.le_of_ble_eq_true rfl)) dX13_part_279 ⟨(show (C9 + 2) + 0 ≤ (2 * C9 + 2) from by omega), (show (4 * (C9 + 2)) + 0 ≤ 4 * (2 * C9 + 2) from by omega)⟩) hS (fun q _ h => hFc q h) hFc (fun u t H locs ht hvm hw hB hz1 hk1 hS => ?_)
                    obtain ⟨b1, b2, b3⟩ := hB
                    rw [ht] at b1
                    obtain ⟨hP, hD, hK⟩ := JOINC (wc := (List.flatten ([[(q60, .inr (16, [.int 0, .int 0, .null, .null]))]] : List va_W))) (wr := (List.flatten ([[(q59, .inr (16, [.int 0, .int 0, .null, .null]))], [((p0a 0), .inr (14, [.ref xv, .int ((o_61.2) 0 1), .int ((o_61.2) 0 2), .int ((o_61.2) 0 3), .int ((o_61.2) 0 4), .ref (p0a 6), .null, .ref (p0a 8), .ref (p0a 9), .int ((o_61.2) 0 9), .int ((o_61.2) 0 10), .int ((o_61.2) 0 11), .int ((o_61.2) 0 12)]))], wt_51] : List va_W))) (w1 := (List.flatten ([[(q60, .inr (16, [.int 0, .int (1 + (o_61.1)), .null, .null]))]] : List va_W))) (t1 := (List.flatten ([[]] : List (List (ClassId × FieldType))))) hPx hDx hKx hk1 hFc b1 (va_K.moved hvm.symm b2) b3
                    have hP : va_P (dC, dI) cls (List.flatten ([[(q60, .inr (16, [.int 0, .int (1 + (o_61.1)), .null, .null]))], [(q59, .inr (16, [.int 0, .int 0, .null, .null]))], [((p0a 0), .inr (14, [.ref xv, .int ((o_61.2) 0 1), .int ((o_61.2) 0 2), .int ((o_61.2) 0 3), .int ((o_61.2) 0 4), .ref (p0a 6), .null, .ref (p0a 8), .ref (p0a 9), .int ((o_61.2) 0 9), .int ((o_61.2) 0 10), .int ((o_61.2) 0 11), .int ((o_61.2) 0 12)]))], wt_51] : List va_W)) H := vP_perm (vP_fb hP) (bP (List.Perm.refl _))
                    have hD : va_D A (List.flatten ([[(q60, .inr (16, [.int 0, .int (1 + (o_61.1)), .null, .null]))], [(q59, .inr (16, [.int 0, .int 0, .null, .null]))], [((p0a 0), .inr (14, [.ref xv, .int ((o_61.2) 0 1), .int ((o_61.2) 0 2), .int ((o_61.2) 0 3), .int ((o_61.2) 0 4), .ref (p0a 6), .null, .ref (p0a 8), .ref (p0a 9), .int ((o_61.2) 0 9), .int ((o_61.2) 0 10), .int ((o_61.2) 0 11), .int ((o_61.2) 0 12)]))], wt_51] : List va_W)) := vD_perm (vD_fb hD) (bP (List.Perm.refl _))
                    have hK : va_K (dC, dI) cls (List.flatten ([[], [], [], []] : List (List (ClassId × FieldType)))) s := vK_perm (vK_fb hK) (bP (List.Perm.refl _))
                    obtain ⟨hz64, hrun⟩ := chk9 hrun
                    have hPx : va_P (dC, dI) cls ((List.flatten ([[(q59, .inr (16, [.int 0, .int 0, .null, .null]))]] : List va_W)) ++ (List.flatten ([[(q60, .inr (16, [.int 0, .int (1 + (o_61.1)), .null, .null]))], [((p0a 0), .inr (14, [.ref xv, .int ((o_61.2) 0 1), .int ((o_61.2) 0 2), .int ((o_61.2) 0 3), .int ((o_61.2) 0 4), .ref (p0a 6), .null, .ref (p0a 8), .ref (p0a 9), .int ((o_61.2) 0 9), .int ((o_61.2) 0 10), .int ((o_61.2) 0 11), .int ((o_61.2) 0 12)]))], wt_51] : List va_W))) H := vP_fa (vP_perm hP (bP ((((List.Perm.refl _)).cons _).trans (List.Perm.swap _ _ _))))
                    have hDx : va_D A ((List.flatten ([[(q59, .inr (16, [.int 0, .int 0, .null, .null]))]] : List va_W)) ++ (List.flatten ([[(q60, .inr (16, [.int 0, .int (1 + (o_61.1)), .null, .null]))], [((p0a 0), .inr (14, [.ref xv, .int ((o_61.2) 0 1), .int ((o_61.2) 0 2), .int ((o_61.2) 0 3), .int ((o_61.2) 0 4), .ref (p0a 6), .null, .ref (p0a 8), .ref (p0a 9), .int ((o_61.2) 0 9), .int ((o_61.2) 0 10), .int ((o_61.2) 0 11), .int ((o_61.2) 0 12)]))], wt_51] : List va_W))) := vD_fa (vD_perm hD (bP ((((List.Perm.refl _)).cons _).trans (List.Perm.swap _ _ _))))
                    have hKx : va_K (dC, dI) cls ((List.flatten ([[]] : List (List (ClassId × FieldType)))) ++ (List.flatten ([[], [], []] : List (List (ClassId × FieldType))))) s := vK_fa (vK_perm hK (bP ((((List.Perm.refl _)).cons _).trans (List.Perm.swap _ _ _))))
                    have hPc := vP_l hPx
                    have hDc := vD_l hDx
                    have hKc := vK_l hKx
                    have hFc := vfree hDx hS hA
                    refine va_callv (va_runI (As := [.int 2, .int (1 + (o_49.1)), .ref r51, .ref q60]) (rest := [.ref q59]) ⟨hx, hb, hml, hown, hts⟩ (kX14_init_rr l dC dI (p0h := q59) (p1 := 2) (p2 := (1 + (o_49.1))) (p3h := r51) (p4h := q60) (sz := _)) (cwI 4 hts (gi_z qw1576) rfl rfl rfl (hts _ qw1570) (hts _ qw1577) (hts _ qw1578) rfl (by decide +kernel) ⟨rmF (Nat.le_of_ble_eq_true rfl), rmL (Nat.le_of_ble_eq_true rfl)⟩) ⟨PRE.blind, PRE.of hE hS hFc hPc hKc hDc⟩ rfl rfl hl.1 rfl (lv_room (Nat.le_of_ble_eq_true rfl)) dX13_part_282 ⟨(show (C9 + 2) + 0 ≤ (2 * C9 + 2) from by omega), (show (4 * (C9 + 2)) + 0 ≤ 4 * (2 * C9 + 2) from by omega)⟩) hS (fun q _ h => hFc q h) hFc (fun u t H locs ht hvm hw hB hz1 hk1 hS => ?_)
                    obtain ⟨b1, b2, b3⟩ := hB
                    rw [ht] at b1
                    obtain ⟨hP, hD, hK⟩ := JOINC (wc := (List.flatten ([[(q59, .inr (16, [.int 0, .int 0, .null, .null]))]] : List va_W))) (wr := (List.flatten ([[(q60, .inr (16, [.int 0, .int (1 + (o_61.1)), .null, .null]))], [((p0a 0), .inr (14, [.ref xv, .int ((o_61.2) 0 1), .int ((o_61.2) 0 2), .int ((o_61.2) 0 3), .int ((o_61.2) 0 4), .ref (p0a 6), .null, .ref (p0a 8), .ref (p0a 9), .int ((o_61.2) 0 9), .int ((o_61.2) 0 10), .int ((o_61.2) 0 11), .int ((o_61.2) 0 12)]))], wt_51] : List va_W))) (w1 := (List.flatten ([[(q59, .inr (16, [.int 2, .int (1 + (o_49.1)), .ref r51, .ref q60]))]] : List va_W))) (t1 := (List.flatten ([[]] : List (List (ClassId × FieldType))))) hPx hDx hKx hk1 hFc b1 (va_K.moved hvm.symm b2) b3
                    have hP : va_P (dC, dI) cls (List.flatten ([[(q60, .inr (16, [.int 0, .int (1 + (o_61.1)), .null, .null]))], [(q59, .inr (16, [.int 2, .int (1 + (o_49.1)), .ref r51, .ref q60]))], [((p0a 0), .inr (14, [.ref xv, .int ((o_61.2) 0 1), .int ((o_61.2) 0 2), .int ((o_61.2) 0 3), .int ((o_61.2) 0 4), .ref (p0a 6), .null, .ref (p0a 8), .ref (p0a 9), .int ((o_61.2) 0 9), .int ((o_61.2) 0 10), .int ((o_61.2) 0 11), .int ((o_61.2) 0 12)]))], wt_51] : List va_W)) H := vP_perm (vP_fb hP) (bP ((((List.Perm.refl _)).cons _).trans (List.Perm.swap _ _ _)))
                    have hD : va_D A (List.flatten ([[(q60, .inr (16, [.int 0, .int (1 + (o_61.1)), .null, .null]))], [(q59, .inr (16, [.int 2, .int (1 + (o_49.1)), .ref r51, .ref q60]))], [((p0a 0), .inr (14, [.ref xv, .int ((o_61.2) 0 1), .int ((o_61.2) 0 2), .int ((o_61.2) 0 3), .int ((o_61.2) 0 4), .ref (p0a 6), .null, .ref (p0a 8), .ref (p0a 9), .int ((o_61.2) 0 9), .int ((o_61.2) 0 10), .int ((o_61.2) 0 11), .int ((o_61.2) 0 12)]))], wt_51] : List va_W)) := vD_perm (vD_fb hD) (bP ((((List.Perm.refl _)).cons _).trans (List.Perm.swap _ _ _)))
                    have hK : va_K (dC, dI) cls (List.flatten ([[], [], [], []] : List (List (ClassId × FieldType)))) s := vK_perm (vK_fb hK) (bP ((((List.Perm.refl _)).cons _).trans (List.Perm.swap _ _ _)))
                    have ho9 : ((pb2 2 (1 + (o_49.1)) (o_51.1) (pb0 0 (1 + (o_61.1)))), (o_61.2)) = o := Option.some.inj hrun
                    have hP : va_P (dC, dI) cls (List.flatten ([[((p0a 0), .inr (14, [.ref xv, .int ((o_61.2) 0 1), .int ((o_61.2) 0 2), .int ((o_61.2) 0 3), .int ((o_61.2) 0 4), .ref (p0a 6), .null, .ref (p0a 8), .ref (p0a 9), .int ((o_61.2) 0 9), .int ((o_61.2) 0 10), .int ((o_61.2) 0 11), .int ((o_61.2) 0 12)]))], [(q60, .inr (16, [.int 0, .int (1 + (o_61.1)), .null, .null]))], [(q59, .inr (16, [.int 2, .int (1 + (o_49.1)), .ref r51, .ref q60]))], wt_51] : List va_W)) H := vP_perm hP (bP (((((((List.Perm.refl _)).cons _).trans (List.Perm.swap _ _ _))).cons _).trans (List.Perm.swap _ _ _)))
                    have hD : va_D A (List.flatten ([[((p0a 0), .inr (14, [.ref xv, .int ((o_61.2) 0 1), .int ((o_61.2) 0 2), .int ((o_61.2) 0 3), .int ((o_61.2) 0 4), .ref (p0a 6), .null, .ref (p0a 8), .ref (p0a 9), .int ((o_61.2) 0 9), .int ((o_61.2) 0 10), .int ((o_61.2) 0 11), .int ((o_61.2) 0 12)]))], [(q60, .inr (16, [.int 0, .int (1 + (o_61.1)), .null, .null]))], [(q59, .inr (16, [.int 2, .int (1 + (o_49.1)), .ref r51, .ref q60]))], wt_51] : List va_W)) := vD_perm hD (bP (((((((List.Perm.refl _)).cons _).trans (List.Perm.swap _ _ _))).cons _).trans (List.Perm.swap _ _ _)))
                    subst ho9
                    subst hQ
                    have hph : ph9 (List.flatten ([[(q60, .inr (16, [.int 0, .int (1 + (o_61.1)), .null, .null]))], [(q59, .inr (16, [.int 2, .int (1 + (o_49.1)), .ref r51, .ref q60]))], wt_51] : List va_W)) (D9 + 1) q59 (pb2 2 (1 + (o_49.1)) (o_51.1) (pb0 0 (1 + (o_61.1)))) := (ph_2L (fl_mem 1 rfl (List.mem_singleton.mpr rfl)) hz64 (ph9_m (fun x hx => fl_mem 2 rfl hx) hph_wt_51) (fl_mem 0 rfl (List.mem_singleton.mpr rfl)) hz63)
                    refine W.widen (k := (2 * C9 + 2)) (n := 4 * (2 * C9 + 2)) (by omega) (by omega) ?_
                    exact W.aret (v := .ref q59) (rt := .object RX14) hx hb hr (Or.inl ⟨_, rfl⟩) (Or.inr ⟨_, rfl⟩) (fun t ht hW => ⟨⟨(), q59, rfl, trivial, (List.flatten ([[(q60, .inr (16, [.int 0, .int (1 + (o_61.1)), .null, .null]))], [(q59, .inr (16, [.int 2, .int (1 + (o_49.1)), .ref r51, .ref q60]))], wt_51] : List va_W)), hph, by rw [ht, fl_two]; exact hP, va_K.moved hW.alike hK, by rw [fl_two]; exact hD⟩, hS.F ht⟩) hS.2.2 dX13_part_285
                · refine lv_icmp_eq (tgt := 229) hx hb dX13_part_221 (by decide) (fun c => absurd c hc52) (fun _ => ?_)
                  refine lv_iload_n hx hb dX13_part_224 rfl (lv_at hl 1 rfl) ?_
                  refine lv_iconst (v := 5) hx hb dX13_part_225 (by decide) ?_
                  rcases br9 hrun with ⟨hc65, hrun⟩ | ⟨hc65, hrun⟩
                  · refine lv_icmp_ne (tgt := 237) hx hb dX13_part_226 (by decide) (fun c => absurd hc65 c) (fun _ => ?_)
                    refine lv_aload_n hx hb dX13_part_229 rfl (lv_at hl 3 rfl) ?_
                    refine lv_iconst (v := 5) hx hb dX13_part_230 (by decide) ?_
                    obtain ⟨o_66, hc_66, hrun⟩ := bnd9 hrun
                    have hPx : va_P (dC, dI) cls ((List.flatten ([[((p0a 0), .inr (14, [.ref xv, .int ((o_51.2) 0 1), .int ((o_51.2) 0 2), .int ((o_51.2) 0 3), .int ((o_51.2) 0 4), .ref (p0a 6), .null, .ref (p0a 8), .ref (p0a 9), .int ((o_51.2) 0 9), .int ((o_51.2) 0 10), .int ((o_51.2) 0 11), .int ((o_51.2) 0 12)]))]] : List va_W)) ++ (List.flatten ([wt_51] : List va_W))) H := vP_fa (vP_perm hP (bP (List.Perm.refl _)))
                    have hDx : va_D A ((List.flatten ([[((p0a 0), .inr (14, [.ref xv, .int ((o_51.2) 0 1), .int ((o_51.2) 0 2), .int ((o_51.2) 0 3), .int ((o_51.2) 0 4), .ref (p0a 6), .null, .ref (p0a 8), .ref (p0a 9), .int ((o_51.2) 0 9), .int ((o_51.2) 0 10), .int ((o_51.2) 0 11), .int ((o_51.2) 0 12)]))]] : List va_W)) ++ (List.flatten ([wt_51] : List va_W))) := vD_fa (vD_perm hD (bP (List.Perm.refl _)))
                    have hKx : va_K (dC, dI) cls ((List.flatten ([[]] : List (List (ClassId × FieldType)))) ++ (List.flatten ([[]] : List (List (ClassId × FieldType))))) s := vK_fa (vK_perm hK (bP (List.Perm.refl _)))
                    have hPc := vP_l hPx
                    have hDc := vD_l hDx
                    have hKc := vK_l hKx
                    have hFc := vfree hDx hS hA
                    refine va_calli (va_runV (As := [.int 5]) (rest := []) ⟨hx, hb, hml, hown, hts⟩ (kX13_draw l dC dI (p0a := (st0 (p0a 0) (st1 p0a 1 xv))) (p0w := (o_51.2)) (p1 := 5) (xv := xv) (xm := xm) (xf := xf) (sz := _) (o := o_66) (hrun := hc_66)) (cwV 1 hts (gi_V qw1563 qw1564 qw1565 qw1566 (gi_z qw1562)) rfl rfl rfl (by decide +kernel) ⟨rmF (Nat.le_of_ble_eq_true rfl), rmL (Nat.le_of_ble_eq_true rfl)⟩) ⟨PRE.blind, va_recv hKc hPc (ci := 14) (q0 := 0) rfl rfl, PRE.of (ENV.add hE xq9_m hro_x) hS hFc hPc hKc hDc⟩ rfl rfl hl.1 rfl (lv_room (Nat.le_of_ble_eq_true rfl)) dX13_part_231 ⟨(show (C9) + 0 ≤ (2 * C9 + 2) from by omega), (show (4 * (C9)) + 0 ≤ 4 * (2 * C9 + 2) from by omega)⟩) hS (fun q _ h => hFc q h) hFc (fun r67 u t H locs ht hvm hw hB hz1 hk1 hS => ?_)
                    obtain ⟨b1, b2, b3⟩ := hB
                    rw [ht] at b1
                    obtain ⟨hP, hD, hK⟩ := JOINC (wc := (List.flatten ([[((p0a 0), .inr (14, [.ref xv, .int ((o_51.2) 0 1), .int ((o_51.2) 0 2), .int ((o_51.2) 0 3), .int ((o_51.2) 0 4), .ref (p0a 6), .null, .ref (p0a 8), .ref (p0a 9), .int ((o_51.2) 0 9), .int ((o_51.2) 0 10), .int ((o_51.2) 0 11), .int ((o_51.2) 0 12)]))]] : List va_W))) (wr := (List.flatten ([wt_51] : List va_W))) (w1 := (List.flatten ([[((p0a 0), .inr (14, [.ref xv, .int ((o_66.2) 0 1), .int ((o_66.2) 0 2), .int ((o_66.2) 0 3), .int ((o_66.2) 0 4), .ref (p0a 6), .null, .ref (p0a 8), .ref (p0a 9), .int ((o_66.2) 0 9), .int ((o_66.2) 0 10), .int ((o_66.2) 0 11), .int ((o_66.2) 0 12)]))]] : List va_W))) (t1 := (List.flatten ([[]] : List (List (ClassId × FieldType))))) hPx hDx hKx hk1 hFc b1 (va_K.moved hvm.symm b2) b3
                    have hP : va_P (dC, dI) cls (List.flatten ([[((p0a 0), .inr (14, [.ref xv, .int ((o_66.2) 0 1), .int ((o_66.2) 0 2), .int ((o_66.2) 0 3), .int ((o_66.2) 0 4), .ref (p0a 6), .null, .ref (p0a 8), .ref (p0a 9), .int ((o_66.2) 0 9), .int ((o_66.2) 0 10), .int ((o_66.2) 0 11), .int ((o_66.2) 0 12)]))], wt_51] : List va_W)) H := vP_perm (vP_fb hP) (bP (List.Perm.refl _))
                    have hD : va_D A (List.flatten ([[((p0a 0), .inr (14, [.ref xv, .int ((o_66.2) 0 1), .int ((o_66.2) 0 2), .int ((o_66.2) 0 3), .int ((o_66.2) 0 4), .ref (p0a 6), .null, .ref (p0a 8), .ref (p0a 9), .int ((o_66.2) 0 9), .int ((o_66.2) 0 10), .int ((o_66.2) 0 11), .int ((o_66.2) 0 12)]))], wt_51] : List va_W)) := vD_perm (vD_fb hD) (bP (List.Perm.refl _))
                    have hK : va_K (dC, dI) cls (List.flatten ([[], []] : List (List (ClassId × FieldType)))) s := vK_perm (vK_fb hK) (bP (List.Perm.refl _))
                    obtain rfl : r67 = (o_66.1) := hw
                    rcases br9 hrun with ⟨hc68, hrun⟩ | ⟨hc68, hrun⟩
                    · refine lv_if_ne (tgt := 256) hx hb dX13_part_234 (by decide) (fun c => absurd hc68 c) (fun _ => ?_)
                      refine va_new (ci := 16) (fs := [.int 0, .int 0, .null, .null]) (C := RX14) (T := TX14) (N := 4) hx hb hts i_X14 tyX14 tyX14_ok hown (hts _ qw1568) (hts _ qw1569) (hts _ qw1570) hK hP hD hS hA rfl df_X14 (show (C9) + 1 ≤ (2 * C9 + 2) from by omega) (show (4 * (C9)) + 4 ≤ 4 * (2 * C9 + 2) from by omega) dX13_part_237 (fun q69 H hP hD hS => ?_)
                      replace hP := vP_new hP
                      replace hD := vD_new hD
                      have hP : va_P (dC, dI) cls (List.flatten ([[(q69, .inr (16, [.int 0, .int 0, .null, .null]))], [((p0a 0), .inr (14, [.ref xv, .int ((o_66.2) 0 1), .int ((o_66.2) 0 2), .int ((o_66.2) 0 3), .int ((o_66.2) 0 4), .ref (p0a 6), .null, .ref (p0a 8), .ref (p0a 9), .int ((o_66.2) 0 9), .int ((o_66.2) 0 10), .int ((o_66.2) 0 11), .int ((o_66.2) 0 12)]))], wt_51] : List va_W)) H := hP
                      have hD : va_D A (List.flatten ([[(q69, .inr (16, [.int 0, .int 0, .null, .null]))], [((p0a 0), .inr (14, [.ref xv, .int ((o_66.2) 0 1), .int ((o_66.2) 0 2), .int ((o_66.2) 0 3), .int ((o_66.2) 0 4), .ref (p0a 6), .null, .ref (p0a 8), .ref (p0a 9), .int ((o_66.2) 0 9), .int ((o_66.2) 0 10), .int ((o_66.2) 0 11), .int ((o_66.2) 0 12)]))], wt_51] : List va_W)) := hD
                      have hK : va_K (dC, dI) cls (List.flatten ([[], [], []] : List (List (ClassId × FieldType)))) s := hK
                      refine W.widen (k := (C9 + 1)) (n := (4 * (C9 + 1))) (by omega) (by omega) ?_
                      refine lv_dup hx hb dX13_part_240 rfl ?_
                      refine lv_iconst (v := 2) hx hb dX13_part_241 (by decide) ?_
                      refine lv_iload_n hx hb dX13_part_242 rfl (lv_at hl 1 rfl) ?_
                      refine lv_aload hx hb dX13_part_243 (lv_at hl 0 rfl) ?_
                      refine lv_aload_n hx hb dX13_part_245 rfl (lv_at hl 3 rfl) ?_
                      refine lv_iload_n hx hb dX13_part_246 rfl (lv_at hl 4 rfl) ?_
                      refine lv_iconst (v := 1) hx hb dX13_part_247 (by decide) ?_
                      refine lv_isub hx hb dX13_part_248 ?_
                      obtain ⟨o_70, hc_70, hrun⟩ := bnd9 hrun
                      have hPx : va_P (dC, dI) cls ((List.flatten ([[((p0a 0), .inr (14, [.ref xv, .int ((o_66.2) 0 1), .int ((o_66.2) 0 2), .int ((o_66.2) 0 3), .int ((o_66.2) 0 4), .ref (p0a 6), .null, .ref (p0a 8), .ref (p0a 9), .int ((o_66.2) 0 9), .int ((o_66.2) 0 10), .int ((o_66.2) 0 11), .int ((o_66.2) 0 12)]))]] : List va_W)) ++ (List.flatten ([[(q69, .inr (16, [.int 0, .int 0, .null, .null]))], wt_51] : List va_W))) H := vP_fa (vP_perm hP (bP ((((List.Perm.refl _)).cons _).trans (List.Perm.swap _ _ _))))
                      have hDx : va_D A ((List.flatten ([[((p0a 0), .inr (14, [.ref xv, .int ((o_66.2) 0 1), .int ((o_66.2) 0 2), .int ((o_66.2) 0 3), .int ((o_66.2) 0 4), .ref (p0a 6), .null, .ref (p0a 8), .ref (p0a 9), .int ((o_66.2) 0 9), .int ((o_66.2) 0 10), .int ((o_66.2) 0 11), .int ((o_66.2) 0 12)]))]] : List va_W)) ++ (List.flatten ([[(q69, .inr (16, [.int 0, .int 0, .null, .null]))], wt_51] : List va_W))) := vD_fa (vD_perm hD (bP ((((List.Perm.refl _)).cons _).trans (List.Perm.swap _ _ _))))
                      have hKx : va_K (dC, dI) cls ((List.flatten ([[]] : List (List (ClassId × FieldType)))) ++ (List.flatten ([[], []] : List (List (ClassId × FieldType))))) s := vK_fa (vK_perm hK (bP ((((List.Perm.refl _)).cons _).trans (List.Perm.swap _ _ _))))
                      have hPc := vP_l hPx
                      have hDc := vD_l hDx
                      have hKc := vK_l hKx
                      have hFc := vfree hDx hS hA
                      refine va_callr (va_runV (As := [.int (p1 - 1)]) (rest := [.ref r51, .int (1 + (o_49.1)), .int 2, .ref q69, .ref q69]) ⟨hx, hb, hml, hown, hts⟩ (hkk_part dC dI (p0a := p0a) (p0w := (o_66.2)) (p1 := (p1 - 1)) (sz := _) (o := o_70) (hrun := hc_70)) (cwV 1 hts (gi_V qw1580 qw1581 qw1582 qw1566 (gi_z qw1579)) rfl rfl rfl (by decide +kernel) ⟨rmF9, rmL9 (n := 24) (Nat.le_of_ble_eq_true rfl)⟩) ⟨PRE.blind, va_recv hKc hPc (ci := 14) (q0 := 0) rfl rfl, PRE.of (ENV.add hE xq9_m hro_x) hS hFc hPc hKc hDc⟩ rfl rfl hl.1 rfl (lv_room (Nat.le_of_ble_eq_true rfl)) dX13_part_249 ⟨(show (C9 + 1) + C9 ≤ (2 * C9 + 2) from by omega), (show (4 * (C9 + 1)) + 4 * C9 ≤ 4 * (2 * C9 + 2) from by omega)⟩) hS (fun q _ h => hFc q h) hFc (fun u r70 t H locs ht hvm hw hB hz1 hk1 hS => ?_)
                      obtain ⟨wt_70, hph_wt_70, hB⟩ := hB
                      obtain ⟨b1, b2, b3⟩ := hB
                      rw [ht] at b1
                      obtain ⟨hP, hD, hK⟩ := JOINC (wc := (List.flatten ([[((p0a 0), .inr (14, [.ref xv, .int ((o_66.2) 0 1), .int ((o_66.2) 0 2), .int ((o_66.2) 0 3), .int ((o_66.2) 0 4), .ref (p0a 6), .null, .ref (p0a 8), .ref (p0a 9), .int ((o_66.2) 0 9), .int ((o_66.2) 0 10), .int ((o_66.2) 0 11), .int ((o_66.2) 0 12)]))]] : List va_W))) (wr := (List.flatten ([[(q69, .inr (16, [.int 0, .int 0, .null, .null]))], wt_51] : List va_W))) (w1 := (List.flatten ([[((p0a 0), .inr (14, [.ref xv, .int ((o_70.2) 0 1), .int ((o_70.2) 0 2), .int ((o_70.2) 0 3), .int ((o_70.2) 0 4), .ref (p0a 6), .null, .ref (p0a 8), .ref (p0a 9), .int ((o_70.2) 0 9), .int ((o_70.2) 0 10), .int ((o_70.2) 0 11), .int ((o_70.2) 0 12)]))], wt_70] : List va_W))) (t1 := (List.flatten ([[], []] : List (List (ClassId × FieldType))))) hPx hDx hKx hk1 hFc b1 (va_K.moved hvm.symm b2) b3
                      have hP : va_P (dC, dI) cls (List.flatten ([[(q69, .inr (16, [.int 0, .int 0, .null, .null]))], [((p0a 0), .inr (14, [.ref xv, .int ((o_70.2) 0 1), .int ((o_70.2) 0 2), .int ((o_70.2) 0 3), .int ((o_70.2) 0 4), .ref (p0a 6), .null, .ref (p0a 8), .ref (p0a 9), .int ((o_70.2) 0 9), .int ((o_70.2) 0 10), .int ((o_70.2) 0 11), .int ((o_70.2) 0 12)]))], wt_70, wt_51] : List va_W)) H := vP_perm (vP_fb hP) (bP (((((((List.Perm.refl _)).cons _).trans (List.Perm.swap _ _ _))).cons _).trans (List.Perm.swap _ _ _)))
                      have hD : va_D A (List.flatten ([[(q69, .inr (16, [.int 0, .int 0, .null, .null]))], [((p0a 0), .inr (14, [.ref xv, .int ((o_70.2) 0 1), .int ((o_70.2) 0 2), .int ((o_70.2) 0 3), .int ((o_70.2) 0 4), .ref (p0a 6), .null, .ref (p0a 8), .ref (p0a 9), .int ((o_70.2) 0 9), .int ((o_70.2) 0 10), .int ((o_70.2) 0 11), .int ((o_70.2) 0 12)]))], wt_70, wt_51] : List va_W)) := vD_perm (vD_fb hD) (bP (((((((List.Perm.refl _)).cons _).trans (List.Perm.swap _ _ _))).cons _).trans (List.Perm.swap _ _ _)))
                      have hK : va_K (dC, dI) cls (List.flatten ([[], [], [], []] : List (List (ClassId × FieldType)))) s := vK_perm (vK_fb hK) (bP (((((((List.Perm.refl _)).cons _).trans (List.Perm.swap _ _ _))).cons _).trans (List.Perm.swap _ _ _)))
                      refine W.widen (k := (2 * C9 + 1)) (n := (4 * (2 * C9 + 1))) (by omega) (by omega) ?_
                      obtain ⟨hz71, hrun⟩ := chk9 hrun
                      have hPx : va_P (dC, dI) cls ((List.flatten ([[(q69, .inr (16, [.int 0, .int 0, .null, .null]))]] : List va_W)) ++ (List.flatten ([[((p0a 0), .inr (14, [.ref xv, .int ((o_70.2) 0 1), .int ((o_70.2) 0 2), .int ((o_70.2) 0 3), .int ((o_70.2) 0 4), .ref (p0a 6), .null, .ref (p0a 8), .ref (p0a 9), .int ((o_70.2) 0 9), .int ((o_70.2) 0 10), .int ((o_70.2) 0 11), .int ((o_70.2) 0 12)]))], wt_70, wt_51] : List va_W))) H := vP_fa (vP_perm hP (bP (List.Perm.refl _)))
                      have hDx : va_D A ((List.flatten ([[(q69, .inr (16, [.int 0, .int 0, .null, .null]))]] : List va_W)) ++ (List.flatten ([[((p0a 0), .inr (14, [.ref xv, .int ((o_70.2) 0 1), .int ((o_70.2) 0 2), .int ((o_70.2) 0 3), .int ((o_70.2) 0 4), .ref (p0a 6), .null, .ref (p0a 8), .ref (p0a 9), .int ((o_70.2) 0 9), .int ((o_70.2) 0 10), .int ((o_70.2) 0 11), .int ((o_70.2) 0 12)]))], wt_70, wt_51] : List va_W))) := vD_fa (vD_perm hD (bP (List.Perm.refl _)))
                      have hKx : va_K (dC, dI) cls ((List.flatten ([[]] : List (List (ClassId × FieldType)))) ++ (List.flatten ([[], [], []] : List (List (ClassId × FieldType))))) s := vK_fa (vK_perm hK (bP (List.Perm.refl _)))
                      have hPc := vP_l hPx
                      have hDc := vD_l hDx
                      have hKc := vK_l hKx
                      have hFc := vfree hDx hS hA
                      refine va_callv (va_runI (As := [.int 2, .int (1 + (o_49.1)), .ref r51, .ref r70]) (rest := [.ref q69]) ⟨hx, hb, hml, hown, hts⟩ (kX14_init_rr l dC dI (p0h := q69) (p1 := 2) (p2 := (1 + (o_49.1))) (p3h := r51) (p4h := r70) (sz := _)) (cwI 4 hts (gi_z qw1576) rfl rfl rfl (hts _ qw1570) (hts _ qw1577) (hts _ qw1578) rfl (by decide +kernel) ⟨rmF (Nat.le_of_ble_eq_true rfl), rmL (Nat.le_of_ble_eq_true rfl)⟩) ⟨PRE.blind, PRE.of hE hS hFc hPc hKc hDc⟩ rfl rfl hl.1 rfl (lv_room (Nat.le_of_ble_eq_true rfl)) dX13_part_252 ⟨(show (2 * C9 + 1) + 0 ≤ (2 * C9 + 2) from by omega), (show (4 * (2 * C9 + 1)) + 0 ≤ 4 * (2 * C9 + 2) from by omega)⟩) hS (fun q _ h => hFc q h) hFc (fun u t H locs ht hvm hw hB hz1 hk1 hS => ?_)
                      obtain ⟨b1, b2, b3⟩ := hB
                      rw [ht] at b1
                      obtain ⟨hP, hD, hK⟩ := JOINC (wc := (List.flatten ([[(q69, .inr (16, [.int 0, .int 0, .null, .null]))]] : List va_W))) (wr := (List.flatten ([[((p0a 0), .inr (14, [.ref xv, .int ((o_70.2) 0 1), .int ((o_70.2) 0 2), .int ((o_70.2) 0 3), .int ((o_70.2) 0 4), .ref (p0a 6), .null, .ref (p0a 8), .ref (p0a 9), .int ((o_70.2) 0 9), .int ((o_70.2) 0 10), .int ((o_70.2) 0 11), .int ((o_70.2) 0 12)]))], wt_70, wt_51] : List va_W))) (w1 := (List.flatten ([[(q69, .inr (16, [.int 2, .int (1 + (o_49.1)), .ref r51, .ref r70]))]] : List va_W))) (t1 := (List.flatten ([[]] : List (List (ClassId × FieldType))))) hPx hDx hKx hk1 hFc b1 (va_K.moved hvm.symm b2) b3
                      have hP : va_P (dC, dI) cls (List.flatten ([[(q69, .inr (16, [.int 2, .int (1 + (o_49.1)), .ref r51, .ref r70]))], [((p0a 0), .inr (14, [.ref xv, .int ((o_70.2) 0 1), .int ((o_70.2) 0 2), .int ((o_70.2) 0 3), .int ((o_70.2) 0 4), .ref (p0a 6), .null, .ref (p0a 8), .ref (p0a 9), .int ((o_70.2) 0 9), .int ((o_70.2) 0 10), .int ((o_70.2) 0 11), .int ((o_70.2) 0 12)]))], wt_70, wt_51] : List va_W)) H := vP_perm (vP_fb hP) (bP (List.Perm.refl _))
                      have hD : va_D A (List.flatten ([[(q69, .inr (16, [.int 2, .int (1 + (o_49.1)), .ref r51, .ref r70]))], [((p0a 0), .inr (14, [.ref xv, .int ((o_70.2) 0 1), .int ((o_70.2) 0 2), .int ((o_70.2) 0 3), .int ((o_70.2) 0 4), .ref (p0a 6), .null, .ref (p0a 8), .ref (p0a 9), .int ((o_70.2) 0 9), .int ((o_70.2) 0 10), .int ((o_70.2) 0 11), .int ((o_70.2) 0 12)]))], wt_70, wt_51] : List va_W)) := vD_perm (vD_fb hD) (bP (List.Perm.refl _))
                      have hK : va_K (dC, dI) cls (List.flatten ([[], [], [], []] : List (List (ClassId × FieldType)))) s := vK_perm (vK_fb hK) (bP (List.Perm.refl _))
                      have ho9 : ((pb2 2 (1 + (o_49.1)) (o_51.1) (o_70.1)), (o_70.2)) = o := Option.some.inj hrun
                      have hP : va_P (dC, dI) cls (List.flatten ([[((p0a 0), .inr (14, [.ref xv, .int ((o_70.2) 0 1), .int ((o_70.2) 0 2), .int ((o_70.2) 0 3), .int ((o_70.2) 0 4), .ref (p0a 6), .null, .ref (p0a 8), .ref (p0a 9), .int ((o_70.2) 0 9), .int ((o_70.2) 0 10), .int ((o_70.2) 0 11), .int ((o_70.2) 0 12)]))], [(q69, .inr (16, [.int 2, .int (1 + (o_49.1)), .ref r51, .ref r70]))], wt_70, wt_51] : List va_W)) H := vP_perm hP (bP ((((List.Perm.refl _)).cons _).trans (List.Perm.swap _ _ _)))
                      have hD : va_D A (List.flatten ([[((p0a 0), .inr (14, [.ref xv, .int ((o_70.2) 0 1), .int ((o_70.2) 0 2), .int ((o_70.2) 0 3), .int ((o_70.2) 0 4), .ref (p0a 6), .null, .ref (p0a 8), .ref (p0a 9), .int ((o_70.2) 0 9), .int ((o_70.2) 0 10), .int ((o_70.2) 0 11), .int ((o_70.2) 0 12)]))], [(q69, .inr (16, [.int 2, .int (1 + (o_49.1)), .ref r51, .ref r70]))], wt_70, wt_51] : List va_W)) := vD_perm hD (bP ((((List.Perm.refl _)).cons _).trans (List.Perm.swap _ _ _)))
                      subst ho9
                      subst hQ
                      have hph : ph9 (List.flatten ([[(q69, .inr (16, [.int 2, .int (1 + (o_49.1)), .ref r51, .ref r70]))], wt_70, wt_51] : List va_W)) (D9 + 1) q69 (pb2 2 (1 + (o_49.1)) (o_51.1) (o_70.1)) := (ph_2 (fl_mem 0 rfl (List.mem_singleton.mpr rfl)) hz71 (ph9_m (fun x hx => fl_mem 2 rfl hx) hph_wt_51) (ph9_m (fun x hx => fl_mem 1 rfl hx) hph_wt_70))
                      refine W.widen (k := (2 * C9 + 2)) (n := 4 * (2 * C9 + 2)) (by omega) (by omega) ?_
                      exact W.aret (v := .ref q69) (rt := .object RX14) hx hb hr (Or.inl ⟨_, rfl⟩) (Or.inr ⟨_, rfl⟩) (fun t ht hW => ⟨⟨(), q69, rfl, trivial, (List.flatten ([[(q69, .inr (16, [.int 2, .int (1 + (o_49.1)), .ref r51, .ref r70]))], wt_70, wt_51] : List va_W)), hph, by rw [ht, fl_two]; exact hP, va_K.moved hW.alike hK, by rw [fl_two]; exact hD⟩, hS.F ht⟩) hS.2.2 dX13_part_255
                    · refine lv_if_ne (tgt := 256) hx hb dX13_part_234 (by decide) (fun _ => ?_) (fun c => absurd c hc68)
                      refine va_new (ci := 16) (fs := [.int 0, .int 0, .null, .null]) (C := RX14) (T := TX14) (N := 4) hx hb hts i_X14 tyX14 tyX14_ok hown (hts _ qw1568) (hts _ qw1569) (hts _ qw1570) hK hP hD hS hA rfl df_X14 (show (C9) + 1 ≤ (2 * C9 + 2) from by omega) (show (4 * (C9)) + 4 ≤ 4 * (2 * C9 + 2) from by omega) dX13_part_256 (fun q72 H hP hD hS => ?_)
                      replace hP := vP_new hP
                      replace hD := vD_new hD
                      have hP : va_P (dC, dI) cls (List.flatten ([[(q72, .inr (16, [.int 0, .int 0, .null, .null]))], [((p0a 0), .inr (14, [.ref xv, .int ((o_66.2) 0 1), .int ((o_66.2) 0 2), .int ((o_66.2) 0 3), .int ((o_66.2) 0 4), .ref (p0a 6), .null, .ref (p0a 8), .ref (p0a 9), .int ((o_66.2) 0 9), .int ((o_66.2) 0 10), .int ((o_66.2) 0 11), .int ((o_66.2) 0 12)]))], wt_51] : List va_W)) H := hP
                      have hD : va_D A (List.flatten ([[(q72, .inr (16, [.int 0, .int 0, .null, .null]))], [((p0a 0), .inr (14, [.ref xv, .int ((o_66.2) 0 1), .int ((o_66.2) 0 2), .int ((o_66.2) 0 3), .int ((o_66.2) 0 4), .ref (p0a 6), .null, .ref (p0a 8), .ref (p0a 9), .int ((o_66.2) 0 9), .int ((o_66.2) 0 10), .int ((o_66.2) 0 11), .int ((o_66.2) 0 12)]))], wt_51] : List va_W)) := hD
                      have hK : va_K (dC, dI) cls (List.flatten ([[], [], []] : List (List (ClassId × FieldType)))) s := hK
                      refine W.widen (k := (C9 + 1)) (n := (4 * (C9 + 1))) (by omega) (by omega) ?_
                      refine lv_dup hx hb dX13_part_259 rfl ?_
                      refine lv_iconst (v := 2) hx hb dX13_part_260 (by decide) ?_
                      refine lv_iload_n hx hb dX13_part_261 rfl (lv_at hl 1 rfl) ?_
                      refine lv_aload hx hb dX13_part_262 (lv_at hl 0 rfl) ?_
                      refine va_new (ci := 16) (fs := [.int 0, .int 0, .null, .null]) (C := RX14) (T := TX14) (N := 4) hx hb hts i_X14 tyX14 tyX14_ok hown (hts _ qw1568) (hts _ qw1569) (hts _ qw1570) hK hP hD hS hA rfl df_X14 (show (C9 + 1) + 1 ≤ (2 * C9 + 2) from by omega) (show (4 * (C9 + 1)) + 4 ≤ 4 * (2 * C9 + 2) from by omega) dX13_part_264 (fun q73 H hP hD hS => ?_)
                      replace hP := vP_new hP
                      replace hD := vD_new hD
                      have hP : va_P (dC, dI) cls (List.flatten ([[(q73, .inr (16, [.int 0, .int 0, .null, .null]))], [(q72, .inr (16, [.int 0, .int 0, .null, .null]))], [((p0a 0), .inr (14, [.ref xv, .int ((o_66.2) 0 1), .int ((o_66.2) 0 2), .int ((o_66.2) 0 3), .int ((o_66.2) 0 4), .ref (p0a 6), .null, .ref (p0a 8), .ref (p0a 9), .int ((o_66.2) 0 9), .int ((o_66.2) 0 10), .int ((o_66.2) 0 11), .int ((o_66.2) 0 12)]))], wt_51] : List va_W)) H := hP
                      have hD : va_D A (List.flatten ([[(q73, .inr (16, [.int 0, .int 0, .null, .null]))], [(q72, .inr (16, [.int 0, .int 0, .null, .null]))], [((p0a 0), .inr (14, [.ref xv, .int ((o_66.2) 0 1), .int ((o_66.2) 0 2), .int ((o_66.2) 0 3), .int ((o_66.2) 0 4), .ref (p0a 6), .null, .ref (p0a 8), .ref (p0a 9), .int ((o_66.2) 0 9), .int ((o_66.2) 0 10), .int ((o_66.2) 0 11), .int ((o_66.2) 0 12)]))], wt_51] : List va_W)) := hD
                      have hK : va_K (dC, dI) cls (List.flatten ([[], [], [], []] : List (List (ClassId × FieldType)))) s := hK
                      refine W.widen (k := (C9 + 2)) (n := (4 * (C9 + 2))) (by omega) (by omega) ?_
                      refine lv_dup hx hb dX13_part_267 rfl ?_
                      refine lv_iconst (v := 0) hx hb dX13_part_268 (by decide) ?_
                      refine lv_iconst (v := 1) hx hb dX13_part_269 (by decide) ?_
                      refine lv_aload_n hx hb dX13_part_270 rfl (lv_at hl 3 rfl) ?_
                      refine lv_bipush (v := 9) hx hb dX13_part_271 (by decide) ?_
                      obtain ⟨o_74, hc_74, hrun⟩ := bnd9 hrun
                      have hPx : va_P (dC, dI) cls ((List.flatten ([[((p0a 0), .inr (14, [.ref xv, .int ((o_66.2) 0 1), .int ((o_66.2) 0 2), .int ((o_66.2) 0 3), .int ((o_66.2) 0 4), .ref (p0a 6), .null, .ref (p0a 8), .ref (p0a 9), .int ((o_66.2) 0 9), .int ((o_66.2) 0 10), .int ((o_66.2) 0 11), .int ((o_66.2) 0 12)]))]] : List va_W)) ++ (List.flatten ([[(q73, .inr (16, [.int 0, .int 0, .null, .null]))], [(q72, .inr (16, [.int 0, .int 0, .null, .null]))], wt_51] : List va_W))) H := vP_fa (vP_perm hP (bP (((((((List.Perm.refl _)).cons _).trans (List.Perm.swap _ _ _))).cons _).trans (List.Perm.swap _ _ _))))
                      have hDx : va_D A ((List.flatten ([[((p0a 0), .inr (14, [.ref xv, .int ((o_66.2) 0 1), .int ((o_66.2) 0 2), .int ((o_66.2) 0 3), .int ((o_66.2) 0 4), .ref (p0a 6), .null, .ref (p0a 8), .ref (p0a 9), .int ((o_66.2) 0 9), .int ((o_66.2) 0 10), .int ((o_66.2) 0 11), .int ((o_66.2) 0 12)]))]] : List va_W)) ++ (List.flatten ([[(q73, .inr (16, [.int 0, .int 0, .null, .null]))], [(q72, .inr (16, [.int 0, .int 0, .null, .null]))], wt_51] : List va_W))) := vD_fa (vD_perm hD (bP (((((((List.Perm.refl _)).cons _).trans (List.Perm.swap _ _ _))).cons _).trans (List.Perm.swap _ _ _))))
                      have hKx : va_K (dC, dI) cls ((List.flatten ([[]] : List (List (ClassId × FieldType)))) ++ (List.flatten ([[], [], []] : List (List (ClassId × FieldType))))) s := vK_fa (vK_perm hK (bP (((((((List.Perm.refl _)).cons _).trans (List.Perm.swap _ _ _))).cons _).trans (List.Perm.swap _ _ _))))
                      have hPc := vP_l hPx
                      have hDc := vD_l hDx
                      have hKc := vK_l hKx
                      have hFc := vfree hDx hS hA
                      refine va_calli (sx_runV12 (As := [.int 9]) (rest := [.int 1, .int 0, .ref q73, .ref q73, .ref r51, .int (1 + (o_49.1)), .int 2, .ref q72, .ref q72]) ⟨hx, hb, hml, hown, hts⟩ (kX13_draw l dC dI (p0a := (st0 (p0a 0) (st1 p0a 1 xv))) (p0w := (o_66.2)) (p1 := 9) (xv := xv) (xm := xm) (xf := xf) (sz := _) (o := o_74) (hrun := hc_74)) (cwV 1 hts (gi_V qw1563 qw1564 qw1565 qw1566 (gi_z qw1562)) rfl rfl rfl (by decide +kernel) ⟨rmF (Nat.le_of_ble_eq_true rfl), rmL (Nat.le_of_ble_eq_true rfl)⟩) ⟨PRE.blind, va_recv hKc hPc (ci := 14) (q0 := 0) rfl rfl, PRE.of (ENV.add hE xq9_m hro_x) hS hFc hPc hKc hDc⟩ rfl rfl hl.1 rfl (lv_room12 (Nat.le_of_ble_eq_true rfl)) (rmL (Nat.le_of_ble_eq_true rfl)) dX13_part_273 ⟨(show (C9 + 2) + 0 ≤ (2 * C9 + 2) from by omega), (show (4 * (C9 + 2)) + 0 ≤ 4 * (2 * C9 + 2) from by omega)⟩) hS (fun q _ h => hFc q h) hFc (fun r75 u t H locs ht hvm hw hB hz1 hk1 hS => ?_)
                      obtain ⟨b1, b2, b3⟩ := hB
                      rw [ht] at b1
                      obtain ⟨hP, hD, hK⟩ := JOINC (wc := (List.flatten ([[((p0a 0), .inr (14, [.ref xv, .int ((o_66.2) 0 1), .int ((o_66.2) 0 2), .int ((o_66.2) 0 3), .int ((o_66.2) 0 4), .ref (p0a 6), .null, .ref (p0a 8), .ref (p0a 9), .int ((o_66.2) 0 9), .int ((o_66.2) 0 10), .int ((o_66.2) 0 11), .int ((o_66.2) 0 12)]))]] : List va_W))) (wr := (List.flatten ([[(q73, .inr (16, [.int 0, .int 0, .null, .null]))], [(q72, .inr (16, [.int 0, .int 0, .null, .null]))], wt_51] : List va_W))) (w1 := (List.flatten ([[((p0a 0), .inr (14, [.ref xv, .int ((o_74.2) 0 1), .int ((o_74.2) 0 2), .int ((o_74.2) 0 3), .int ((o_74.2) 0 4), .ref (p0a 6), .null, .ref (p0a 8), .ref (p0a 9), .int ((o_74.2) 0 9), .int ((o_74.2) 0 10), .int ((o_74.2) 0 11), .int ((o_74.2) 0 12)]))]] : List va_W))) (t1 := (List.flatten ([[]] : List (List (ClassId × FieldType))))) hPx hDx hKx hk1 hFc b1 (va_K.moved hvm.symm b2) b3
                      have hP : va_P (dC, dI) cls (List.flatten ([[(q73, .inr (16, [.int 0, .int 0, .null, .null]))], [(q72, .inr (16, [.int 0, .int 0, .null, .null]))], [((p0a 0), .inr (14, [.ref xv, .int ((o_74.2) 0 1), .int ((o_74.2) 0 2), .int ((o_74.2) 0 3), .int ((o_74.2) 0 4), .ref (p0a 6), .null, .ref (p0a 8), .ref (p0a 9), .int ((o_74.2) 0 9), .int ((o_74.2) 0 10), .int ((o_74.2) 0 11), .int ((o_74.2) 0 12)]))], wt_51] : List va_W)) H := vP_perm (vP_fb hP) (bP ((((((List.Perm.refl _)).cons _).trans (List.Perm.swap _ _ _))).trans ((((((List.Perm.refl _)).cons _).trans (List.Perm.swap _ _ _))).cons _)))
                      have hD : va_D A (List.flatten ([[(q73, .inr (16, [.int 0, .int 0, .null, .null]))], [(q72, .inr (16, [.int 0, .int 0, .null, .null]))], [((p0a 0), .inr (14, [.ref xv, .int ((o_74.2) 0 1), .int ((o_74.2) 0 2), .int ((o_74.2) 0 3), .int ((o_74.2) 0 4), .ref (p0a 6), .null, .ref (p0a 8), .ref (p0a 9), .int ((o_74.2) 0 9), .int ((o_74.2) 0 10), .int ((o_74.2) 0 11), .int ((o_74.2) 0 12)]))], wt_51] : List va_W)) := vD_perm (vD_fb hD) (bP ((((((List.Perm.refl _)).cons _).trans (List.Perm.swap _ _ _))).trans ((((((List.Perm.refl _)).cons _).trans (List.Perm.swap _ _ _))).cons _)))
                      have hK : va_K (dC, dI) cls (List.flatten ([[], [], [], []] : List (List (ClassId × FieldType)))) s := vK_perm (vK_fb hK) (bP ((((((List.Perm.refl _)).cons _).trans (List.Perm.swap _ _ _))).trans ((((((List.Perm.refl _)).cons _).trans (List.Perm.swap _ _ _))).cons _)))
                      obtain rfl : r75 = (o_74.1) := hw
                      refine lv_iadd hx hb dX13_part_276 ?_
                      refine lv_null hx hb dX13_part_277 ?_
                      refine lv_null hx hb dX13_part_278 ?_
                      obtain ⟨hz76, hrun⟩ := chk9 hrun
                      have hPx : va_P (dC, dI) cls ((List.flatten ([[(q73, .inr (16, [.int 0, .int 0, .null, .null]))]] : List va_W)) ++ (List.flatten ([[(q72, .inr (16, [.int 0, .int 0, .null, .null]))], [((p0a 0), .inr (14, [.ref xv, .int ((o_74.2) 0 1), .int ((o_74.2) 0 2), .int ((o_74.2) 0 3), .int ((o_74.2) 0 4), .ref (p0a 6), .null, .ref (p0a 8), .ref (p0a 9), .int ((o_74.2) 0 9), .int ((o_74.2) 0 10), .int ((o_74.2) 0 11), .int ((o_74.2) 0 12)]))], wt_51] : List va_W))) H := vP_fa (vP_perm hP (bP (List.Perm.refl _)))
                      have hDx : va_D A ((List.flatten ([[(q73, .inr (16, [.int 0, .int 0, .null, .null]))]] : List va_W)) ++ (List.flatten ([[(q72, .inr (16, [.int 0, .int 0, .null, .null]))], [((p0a 0), .inr (14, [.ref xv, .int ((o_74.2) 0 1), .int ((o_74.2) 0 2), .int ((o_74.2) 0 3), .int ((o_74.2) 0 4), .ref (p0a 6), .null, .ref (p0a 8), .ref (p0a 9), .int ((o_74.2) 0 9), .int ((o_74.2) 0 10), .int ((o_74.2) 0 11), .int ((o_74.2) 0 12)]))], wt_51] : List va_W))) := vD_fa (vD_perm hD (bP (List.Perm.refl _)))
                      have hKx : va_K (dC, dI) cls ((List.flatten ([[]] : List (List (ClassId × FieldType)))) ++ (List.flatten ([[], [], []] : List (List (ClassId × FieldType))))) s := vK_fa (vK_perm hK (bP (List.Perm.refl _)))
                      have hPc := vP_l hPx
                      have hDc := vD_l hDx
                      have hKc := vK_l hKx
                      have hFc := vfree hDx hS hA
                      refine va_callv (va_runI (As := [.int 0, .int (1 + (o_74.1)), .null, .null]) (rest := [.ref q73, .ref r51, .int (1 + (o_49.1)), .int 2, .ref q72, .ref q72]) ⟨hx, hb, hml, hown, hts⟩ (kX14_init_nn l dC dI (p0h := q73) (p1 := 0) (p2 := (1 + (o_74.1))) (sz := _)) (cwI 4 hts (gi_z qw1576) rfl rfl rfl (hts _ qw1570) (hts _ qw1577) (hts _ qw1578) rfl (by decide +kernel) ⟨rmF (Nat.le_of_ble_eq_true rfl), rmL (Nat.le_of_ble_eq_true rfl)⟩) ⟨PRE.blind, PRE.of hE hS hFc hPc hKc hDc⟩ rfl rfl hl.1 rfl (lv_room (Nat.le_of_ble_eq_true rfl)) dX13_part_279 ⟨(show (C9 + 2) + 0 ≤ (2 * C9 + 2) from by omega), (show (4 * (C9 + 2)) + 0 ≤ 4 * (2 * C9 + 2) from by omega)⟩) hS (fun q _ h => hFc q h) hFc (fun u t H locs ht hvm hw hB hz1 hk1 hS => ?_)
                      obtain ⟨b1, b2, b3⟩ := hB
                      rw [ht] at b1
                      obtain ⟨hP, hD, hK⟩ := JOINC (wc := (List.flatten ([[(q73, .inr (16, [.int 0, .int 0, .null, .null]))]] : List va_W))) (wr := (List.flatten ([[(q72, .inr (16, [.int 0, .int 0, .null, .null]))], [((p0a 0), .inr (14, [.ref xv, .int ((o_74.2) 0 1), .int ((o_74.2) 0 2), .int ((o_74.2) 0 3), .int ((o_74.2) 0 4), .ref (p0a 6), .null, .ref (p0a 8), .ref (p0a 9), .int ((o_74.2) 0 9), .int ((o_74.2) 0 10), .int ((o_74.2) 0 11), .int ((o_74.2) 0 12)]))], wt_51] : List va_W))) (w1 := (List.flatten ([[(q73, .inr (16, [.int 0, .int (1 + (o_74.1)), .null, .null]))]] : List va_W))) (t1 := (List.flatten ([[]] : List (List (ClassId × FieldType))))) hPx hDx hKx hk1 hFc b1 (va_K.moved hvm.symm b2) b3
                      have hP : va_P (dC, dI) cls (List.flatten ([[(q73, .inr (16, [.int 0, .int (1 + (o_74.1)), .null, .null]))], [(q72, .inr (16, [.int 0, .int 0, .null, .null]))], [((p0a 0), .inr (14, [.ref xv, .int ((o_74.2) 0 1), .int ((o_74.2) 0 2), .int ((o_74.2) 0 3), .int ((o_74.2) 0 4), .ref (p0a 6), .null, .ref (p0a 8), .ref (p0a 9), .int ((o_74.2) 0 9), .int ((o_74.2) 0 10), .int ((o_74.2) 0 11), .int ((o_74.2) 0 12)]))], wt_51] : List va_W)) H := vP_perm (vP_fb hP) (bP (List.Perm.refl _))
                      have hD : va_D A (List.flatten ([[(q73, .inr (16, [.int 0, .int (1 + (o_74.1)), .null, .null]))], [(q72, .inr (16, [.int 0, .int 0, .null, .null]))], [((p0a 0), .inr (14, [.ref xv, .int ((o_74.2) 0 1), .int ((o_74.2) 0 2), .int ((o_74.2) 0 3), .int ((o_74.2) 0 4), .ref (p0a 6), .null, .ref (p0a 8), .ref (p0a 9), .int ((o_74.2) 0 9), .int ((o_74.2) 0 10), .int ((o_74.2) 0 11), .int ((o_74.2) 0 12)]))], wt_51] : List va_W)) := vD_perm (vD_fb hD) (bP (List.Perm.refl _))
                      have hK : va_K (dC, dI) cls (List.flatten ([[], [], [], []] : List (List (ClassId × FieldType)))) s := vK_perm (vK_fb hK) (bP (List.Perm.refl _))
                      obtain ⟨hz77, hrun⟩ := chk9 hrun
                      have hPx : va_P (dC, dI) cls ((List.flatten ([[(q72, .inr (16, [.int 0, .int 0, .null, .null]))]] : List va_W)) ++ (List.flatten ([[(q73, .inr (16, [.int 0, .int (1 + (o_74.1)), .null, .null]))], [((p0a 0), .inr (14, [.ref xv, .int ((o_74.2) 0 1), .int ((o_74.2) 0 2), .int ((o_74.2) 0 3), .int ((o_74.2) 0 4), .ref (p0a 6), .null, .ref (p0a 8), .ref (p0a 9), .int ((o_74.2) 0 9), .int ((o_74.2) 0 10), .int ((o_74.2) 0 11), .int ((o_74.2) 0 12)]))], wt_51] : List va_W))) H := vP_fa (vP_perm hP (bP ((((List.Perm.refl _)).cons _).trans (List.Perm.swap _ _ _))))
                      have hDx : va_D A ((List.flatten ([[(q72, .inr (16, [.int 0, .int 0, .null, .null]))]] : List va_W)) ++ (List.flatten ([[(q73, .inr (16, [.int 0, .int (1 + (o_74.1)), .null, .null]))], [((p0a 0), .inr (14, [.ref xv, .int ((o_74.2) 0 1), .int ((o_74.2) 0 2), .int ((o_74.2) 0 3), .int ((o_74.2) 0 4), .ref (p0a 6), .null, .ref (p0a 8), .ref (p0a 9), .int ((o_74.2) 0 9), .int ((o_74.2) 0 10), .int ((o_74.2) 0 11), .int ((o_74.2) 0 12)]))], wt_51] : List va_W))) := vD_fa (vD_perm hD (bP ((((List.Perm.refl _)).cons _).trans (List.Perm.swap _ _ _))))
                      have hKx : va_K (dC, dI) cls ((List.flatten ([[]] : List (List (ClassId × FieldType)))) ++ (List.flatten ([[], [], []] : List (List (ClassId × FieldType))))) s := vK_fa (vK_perm hK (bP ((((List.Perm.refl _)).cons _).trans (List.Perm.swap _ _ _))))
                      have hPc := vP_l hPx
                      have hDc := vD_l hDx
                      have hKc := vK_l hKx
                      have hFc := vfree hDx hS hA
                      refine va_callv (va_runI (As := [.int 2, .int (1 + (o_49.1)), .ref r51, .ref q73]) (rest := [.ref q72]) ⟨hx, hb, hml, hown, hts⟩ (kX14_init_rr l dC dI (p0h := q72) (p1 := 2) (p2 := (1 + (o_49.1))) (p3h := r51) (p4h := q73) (sz := _)) (cwI 4 hts (gi_z qw1576) rfl rfl rfl (hts _ qw1570) (hts _ qw1577) (hts _ qw1578) rfl (by decide +kernel) ⟨rmF (Nat.le_of_ble_eq_true rfl), rmL (Nat.le_of_ble_eq_true rfl)⟩) ⟨PRE.blind, PRE.of hE hS hFc hPc hKc hDc⟩ rfl rfl hl.1 rfl (lv_room (Nat.le_of_ble_eq_true rfl)) dX13_part_282 ⟨(show (C9 + 2) + 0 ≤ (2 * C9 + 2) from by omega), (show (4 * (C9 + 2)) + 0 ≤ 4 * (2 * C9 + 2) from by omega)⟩) hS (fun q _ h => hFc q h) hFc (fun u t H locs ht hvm hw hB hz1 hk1 hS => ?_)
                      obtain ⟨b1, b2, b3⟩ := hB
                      rw [ht] at b1
                      obtain ⟨hP, hD, hK⟩ := JOINC (wc := (List.flatten ([[(q72, .inr (16, [.int 0, .int 0, .null, .null]))]] : List va_W))) (wr := (List.flatten ([[(q73, .inr (16, [.int 0, .int (1 + (o_74.1)), .null, .null]))], [((p0a 0), .inr (14, [.ref xv, .int ((o_74.2) 0 1), .int ((o_74.2) 0 2), .int ((o_74.2) 0 3), .int ((o_74.2) 0 4), .ref (p0a 6), .null, .ref (p0a 8), .ref (p0a 9), .int ((o_74.2) 0 9), .int ((o_74.2) 0 10), .int ((o_74.2) 0 11), .int ((o_74.2) 0 12)]))], wt_51] : List va_W))) (w1 := (List.flatten ([[(q72, .inr (16, [.int 2, .int (1 + (o_49.1)), .ref r51, .ref q73]))]] : List va_W))) (t1 := (List.flatten ([[]] : List (List (ClassId × FieldType))))) hPx hDx hKx hk1 hFc b1 (va_K.moved hvm.symm b2) b3
                      have hP : va_P (dC, dI) cls (List.flatten ([[(q73, .inr (16, [.int 0, .int (1 + (o_74.1)), .null, .null]))], [(q72, .inr (16, [.int 2, .int (1 + (o_49.1)), .ref r51, .ref q73]))], [((p0a 0), .inr (14, [.ref xv, .int ((o_74.2) 0 1), .int ((o_74.2) 0 2), .int ((o_74.2) 0 3), .int ((o_74.2) 0 4), .ref (p0a 6), .null, .ref (p0a 8), .ref (p0a 9), .int ((o_74.2) 0 9), .int ((o_74.2) 0 10), .int ((o_74.2) 0 11), .int ((o_74.2) 0 12)]))], wt_51] : List va_W)) H := vP_perm (vP_fb hP) (bP ((((List.Perm.refl _)).cons _).trans (List.Perm.swap _ _ _)))
                      have hD : va_D A (List.flatten ([[(q73, .inr (16, [.int 0, .int (1 + (o_74.1)), .null, .null]))], [(q72, .inr (16, [.int 2, .int (1 + (o_49.1)), .ref r51, .ref q73]))], [((p0a 0), .inr (14, [.ref xv, .int ((o_74.2) 0 1), .int ((o_74.2) 0 2), .int ((o_74.2) 0 3), .int ((o_74.2) 0 4), .ref (p0a 6), .null, .ref (p0a 8), .ref (p0a 9), .int ((o_74.2) 0 9), .int ((o_74.2) 0 10), .int ((o_74.2) 0 11), .int ((o_74.2) 0 12)]))], wt_51] : List va_W)) := vD_perm (vD_fb hD) (bP ((((List.Perm.refl _)).cons _).trans (List.Perm.swap _ _ _)))
                      have hK : va_K (dC, dI) cls (List.flatten ([[], [], [], []] : List (List (ClassId × FieldType)))) s := vK_perm (vK_fb hK) (bP ((((List.Perm.refl _)).cons _).trans (List.Perm.swap _ _ _)))
                      have ho9 : ((pb2 2 (1 + (o_49.1)) (o_51.1) (pb0 0 (1 + (o_74.1)))), (o_74.2)) = o := Option.some.inj hrun
                      have hP : va_P (dC, dI) cls (List.flatten ([[((p0a 0), .inr (14, [.ref xv, .int ((o_74.2) 0 1), .int ((o_74.2) 0 2), .int ((o_74.2) 0 3), .int ((o_74.2) 0 4), .ref (p0a 6), .null, .ref (p0a 8), .ref (p0a 9), .int ((o_74.2) 0 9), .int ((o_74.2) 0 10), .int ((o_74.2) 0 11), .int ((o_74.2) 0 12)]))], [(q73, .inr (16, [.int 0, .int (1 + (o_74.1)), .null, .null]))], [(q72, .inr (16, [.int 2, .int (1 + (o_49.1)), .ref r51, .ref q73]))], wt_51] : List va_W)) H := vP_perm hP (bP (((((((List.Perm.refl _)).cons _).trans (List.Perm.swap _ _ _))).cons _).trans (List.Perm.swap _ _ _)))
                      have hD : va_D A (List.flatten ([[((p0a 0), .inr (14, [.ref xv, .int ((o_74.2) 0 1), .int ((o_74.2) 0 2), .int ((o_74.2) 0 3), .int ((o_74.2) 0 4), .ref (p0a 6), .null, .ref (p0a 8), .ref (p0a 9), .int ((o_74.2) 0 9), .int ((o_74.2) 0 10), .int ((o_74.2) 0 11), .int ((o_74.2) 0 12)]))], [(q73, .inr (16, [.int 0, .int (1 + (o_74.1)), .null, .null]))], [(q72, .inr (16, [.int 2, .int (1 + (o_49.1)), .ref r51, .ref q73]))], wt_51] : List va_W)) := vD_perm hD (bP (((((((List.Perm.refl _)).cons _).trans (List.Perm.swap _ _ _))).cons _).trans (List.Perm.swap _ _ _)))
                      subst ho9
                      subst hQ
                      have hph : ph9 (List.flatten ([[(q73, .inr (16, [.int 0, .int (1 + (o_74.1)), .null, .null]))], [(q72, .inr (16, [.int 2, .int (1 + (o_49.1)), .ref r51, .ref q73]))], wt_51] : List va_W)) (D9 + 1) q72 (pb2 2 (1 + (o_49.1)) (o_51.1) (pb0 0 (1 + (o_74.1)))) := (ph_2L (fl_mem 1 rfl (List.mem_singleton.mpr rfl)) hz77 (ph9_m (fun x hx => fl_mem 2 rfl hx) hph_wt_51) (fl_mem 0 rfl (List.mem_singleton.mpr rfl)) hz76)
                      refine W.widen (k := (2 * C9 + 2)) (n := 4 * (2 * C9 + 2)) (by omega) (by omega) ?_
                      exact W.aret (v := .ref q72) (rt := .object RX14) hx hb hr (Or.inl ⟨_, rfl⟩) (Or.inr ⟨_, rfl⟩) (fun t ht hW => ⟨⟨(), q72, rfl, trivial, (List.flatten ([[(q73, .inr (16, [.int 0, .int (1 + (o_74.1)), .null, .null]))], [(q72, .inr (16, [.int 2, .int (1 + (o_49.1)), .ref r51, .ref q73]))], wt_51] : List va_W)), hph, by rw [ht, fl_two]; exact hP, va_K.moved hW.alike hK, by rw [fl_two]; exact hD⟩, hS.F ht⟩) hS.2.2 dX13_part_285
                  · refine lv_icmp_ne (tgt := 237) hx hb dX13_part_226 (by decide) (fun _ => ?_) (fun c => absurd c hc65)
                    refine va_new (ci := 16) (fs := [.int 0, .int 0, .null, .null]) (C := RX14) (T := TX14) (N := 4) hx hb hts i_X14 tyX14 tyX14_ok hown (hts _ qw1568) (hts _ qw1569) (hts _ qw1570) hK hP hD hS hA rfl df_X14 (show (C9) + 1 ≤ (2 * C9 + 2) from by omega) (show (4 * (C9)) + 4 ≤ 4 * (2 * C9 + 2) from by omega) dX13_part_237 (fun q78 H hP hD hS => ?_)
                    replace hP := vP_new hP
                    replace hD := vD_new hD
                    have hP : va_P (dC, dI) cls (List.flatten ([[(q78, .inr (16, [.int 0, .int 0, .null, .null]))], [((p0a 0), .inr (14, [.ref xv, .int ((o_51.2) 0 1), .int ((o_51.2) 0 2), .int ((o_51.2) 0 3), .int ((o_51.2) 0 4), .ref (p0a 6), .null, .ref (p0a 8), .ref (p0a 9), .int ((o_51.2) 0 9), .int ((o_51.2) 0 10), .int ((o_51.2) 0 11), .int ((o_51.2) 0 12)]))], wt_51] : List va_W)) H := hP
                    have hD : va_D A (List.flatten ([[(q78, .inr (16, [.int 0, .int 0, .null, .null]))], [((p0a 0), .inr (14, [.ref xv, .int ((o_51.2) 0 1), .int ((o_51.2) 0 2), .int ((o_51.2) 0 3), .int ((o_51.2) 0 4), .ref (p0a 6), .null, .ref (p0a 8), .ref (p0a 9), .int ((o_51.2) 0 9), .int ((o_51.2) 0 10), .int ((o_51.2) 0 11), .int ((o_51.2) 0 12)]))], wt_51] : List va_W)) := hD
                    have hK : va_K (dC, dI) cls (List.flatten ([[], [], []] : List (List (ClassId × FieldType)))) s := hK
                    refine W.widen (k := (C9 + 1)) (n := (4 * (C9 + 1))) (by omega) (by omega) ?_
                    refine lv_dup hx hb dX13_part_240 rfl ?_
                    refine lv_iconst (v := 2) hx hb dX13_part_241 (by decide) ?_
                    refine lv_iload_n hx hb dX13_part_242 rfl (lv_at hl 1 rfl) ?_
                    refine lv_aload hx hb dX13_part_243 (lv_at hl 0 rfl) ?_
                    refine lv_aload_n hx hb dX13_part_245 rfl (lv_at hl 3 rfl) ?_
                    refine lv_iload_n hx hb dX13_part_246 rfl (lv_at hl 4 rfl) ?_
                    refine lv_iconst (v := 1) hx hb dX13_part_247 (by decide) ?_
                    refine lv_isub hx hb dX13_part_248 ?_
                    obtain ⟨o_79, hc_79, hrun⟩ := bnd9 hrun
                    have hPx : va_P (dC, dI) cls ((List.flatten ([[((p0a 0), .inr (14, [.ref xv, .int ((o_51.2) 0 1), .int ((o_51.2) 0 2), .int ((o_51.2) 0 3), .int ((o_51.2) 0 4), .ref (p0a 6), .null, .ref (p0a 8), .ref (p0a 9), .int ((o_51.2) 0 9), .int ((o_51.2) 0 10), .int ((o_51.2) 0 11), .int ((o_51.2) 0 12)]))]] : List va_W)) ++ (List.flatten ([[(q78, .inr (16, [.int 0, .int 0, .null, .null]))], wt_51] : List va_W))) H := vP_fa (vP_perm hP (bP ((((List.Perm.refl _)).cons _).trans (List.Perm.swap _ _ _))))
                    have hDx : va_D A ((List.flatten ([[((p0a 0), .inr (14, [.ref xv, .int ((o_51.2) 0 1), .int ((o_51.2) 0 2), .int ((o_51.2) 0 3), .int ((o_51.2) 0 4), .ref (p0a 6), .null, .ref (p0a 8), .ref (p0a 9), .int ((o_51.2) 0 9), .int ((o_51.2) 0 10), .int ((o_51.2) 0 11), .int ((o_51.2) 0 12)]))]] : List va_W)) ++ (List.flatten ([[(q78, .inr (16, [.int 0, .int 0, .null, .null]))], wt_51] : List va_W))) := vD_fa (vD_perm hD (bP ((((List.Perm.refl _)).cons _).trans (List.Perm.swap _ _ _))))
                    have hKx : va_K (dC, dI) cls ((List.flatten ([[]] : List (List (ClassId × FieldType)))) ++ (List.flatten ([[], []] : List (List (ClassId × FieldType))))) s := vK_fa (vK_perm hK (bP ((((List.Perm.refl _)).cons _).trans (List.Perm.swap _ _ _))))
                    have hPc := vP_l hPx
                    have hDc := vD_l hDx
                    have hKc := vK_l hKx
                    have hFc := vfree hDx hS hA
                    refine va_callr (va_runV (As := [.int (p1 - 1)]) (rest := [.ref r51, .int (1 + (o_49.1)), .int 2, .ref q78, .ref q78]) ⟨hx, hb, hml, hown, hts⟩ (hkk_part dC dI (p0a := p0a) (p0w := (o_51.2)) (p1 := (p1 - 1)) (sz := _) (o := o_79) (hrun := hc_79)) (cwV 1 hts (gi_V qw1580 qw1581 qw1582 qw1566 (gi_z qw1579)) rfl rfl rfl (by decide +kernel) ⟨rmF9, rmL9 (n := 24) (Nat.le_of_ble_eq_true rfl)⟩) ⟨PRE.blind, va_recv hKc hPc (ci := 14) (q0 := 0) rfl rfl, PRE.of (ENV.add hE xq9_m hro_x) hS hFc hPc hKc hDc⟩ rfl rfl hl.1 rfl (lv_room (Nat.le_of_ble_eq_true rfl)) dX13_part_249 ⟨(show (C9 + 1) + C9 ≤ (2 * C9 + 2) from by omega), (show (4 * (C9 + 1)) + 4 * C9 ≤ 4 * (2 * C9 + 2) from by omega)⟩) hS (fun q _ h => hFc q h) hFc (fun u r79 t H locs ht hvm hw hB hz1 hk1 hS => ?_)
                    obtain ⟨wt_79, hph_wt_79, hB⟩ := hB
                    obtain ⟨b1, b2, b3⟩ := hB
                    rw [ht] at b1
                    obtain ⟨hP, hD, hK⟩ := JOINC (wc := (List.flatten ([[((p0a 0), .inr (14, [.ref xv, .int ((o_51.2) 0 1), .int ((o_51.2) 0 2), .int ((o_51.2) 0 3), .int ((o_51.2) 0 4), .ref (p0a 6), .null, .ref (p0a 8), .ref (p0a 9), .int ((o_51.2) 0 9), .int ((o_51.2) 0 10), .int ((o_51.2) 0 11), .int ((o_51.2) 0 12)]))]] : List va_W))) (wr := (List.flatten ([[(q78, .inr (16, [.int 0, .int 0, .null, .null]))], wt_51] : List va_W))) (w1 := (List.flatten ([[((p0a 0), .inr (14, [.ref xv, .int ((o_79.2) 0 1), .int ((o_79.2) 0 2), .int ((o_79.2) 0 3), .int ((o_79.2) 0 4), .ref (p0a 6), .null, .ref (p0a 8), .ref (p0a 9), .int ((o_79.2) 0 9), .int ((o_79.2) 0 10), .int ((o_79.2) 0 11), .int ((o_79.2) 0 12)]))], wt_79] : List va_W))) (t1 := (List.flatten ([[], []] : List (List (ClassId × FieldType))))) hPx hDx hKx hk1 hFc b1 (va_K.moved hvm.symm b2) b3
                    have hP : va_P (dC, dI) cls (List.flatten ([[(q78, .inr (16, [.int 0, .int 0, .null, .null]))], [((p0a 0), .inr (14, [.ref xv, .int ((o_79.2) 0 1), .int ((o_79.2) 0 2), .int ((o_79.2) 0 3), .int ((o_79.2) 0 4), .ref (p0a 6), .null, .ref (p0a 8), .ref (p0a 9), .int ((o_79.2) 0 9), .int ((o_79.2) 0 10), .int ((o_79.2) 0 11), .int ((o_79.2) 0 12)]))], wt_79, wt_51] : List va_W)) H := vP_perm (vP_fb hP) (bP (((((((List.Perm.refl _)).cons _).trans (List.Perm.swap _ _ _))).cons _).trans (List.Perm.swap _ _ _)))
                    have hD : va_D A (List.flatten ([[(q78, .inr (16, [.int 0, .int 0, .null, .null]))], [((p0a 0), .inr (14, [.ref xv, .int ((o_79.2) 0 1), .int ((o_79.2) 0 2), .int ((o_79.2) 0 3), .int ((o_79.2) 0 4), .ref (p0a 6), .null, .ref (p0a 8), .ref (p0a 9), .int ((o_79.2) 0 9), .int ((o_79.2) 0 10), .int ((o_79.2) 0 11), .int ((o_79.2) 0 12)]))], wt_79, wt_51] : List va_W)) := vD_perm (vD_fb hD) (bP (((((((List.Perm.refl _)).cons _).trans (List.Perm.swap _ _ _))).cons _).trans (List.Perm.swap _ _ _)))
                    have hK : va_K (dC, dI) cls (List.flatten ([[], [], [], []] : List (List (ClassId × FieldType)))) s := vK_perm (vK_fb hK) (bP (((((((List.Perm.refl _)).cons _).trans (List.Perm.swap _ _ _))).cons _).trans (List.Perm.swap _ _ _)))
                    refine W.widen (k := (2 * C9 + 1)) (n := (4 * (2 * C9 + 1))) (by omega) (by omega) ?_
                    obtain ⟨hz80, hrun⟩ := chk9 hrun
                    have hPx : va_P (dC, dI) cls ((List.flatten ([[(q78, .inr (16, [.int 0, .int 0, .null, .null]))]] : List va_W)) ++ (List.flatten ([[((p0a 0), .inr (14, [.ref xv, .int ((o_79.2) 0 1), .int ((o_79.2) 0 2), .int ((o_79.2) 0 3), .int ((o_79.2) 0 4), .ref (p0a 6), .null, .ref (p0a 8), .ref (p0a 9), .int ((o_79.2) 0 9), .int ((o_79.2) 0 10), .int ((o_79.2) 0 11), .int ((o_79.2) 0 12)]))], wt_79, wt_51] : List va_W))) H := vP_fa (vP_perm hP (bP (List.Perm.refl _)))
                    have hDx : va_D A ((List.flatten ([[(q78, .inr (16, [.int 0, .int 0, .null, .null]))]] : List va_W)) ++ (List.flatten ([[((p0a 0), .inr (14, [.ref xv, .int ((o_79.2) 0 1), .int ((o_79.2) 0 2), .int ((o_79.2) 0 3), .int ((o_79.2) 0 4), .ref (p0a 6), .null, .ref (p0a 8), .ref (p0a 9), .int ((o_79.2) 0 9), .int ((o_79.2) 0 10), .int ((o_79.2) 0 11), .int ((o_79.2) 0 12)]))], wt_79, wt_51] : List va_W))) := vD_fa (vD_perm hD (bP (List.Perm.refl _)))
                    have hKx : va_K (dC, dI) cls ((List.flatten ([[]] : List (List (ClassId × FieldType)))) ++ (List.flatten ([[], [], []] : List (List (ClassId × FieldType))))) s := vK_fa (vK_perm hK (bP (List.Perm.refl _)))
                    have hPc := vP_l hPx
                    have hDc := vD_l hDx
                    have hKc := vK_l hKx
                    have hFc := vfree hDx hS hA
                    refine va_callv (va_runI (As := [.int 2, .int (1 + (o_49.1)), .ref r51, .ref r79]) (rest := [.ref q78]) ⟨hx, hb, hml, hown, hts⟩ (kX14_init_rr l dC dI (p0h := q78) (p1 := 2) (p2 := (1 + (o_49.1))) (p3h := r51) (p4h := r79) (sz := _)) (cwI 4 hts (gi_z qw1576) rfl rfl rfl (hts _ qw1570) (hts _ qw1577) (hts _ qw1578) rfl (by decide +kernel) ⟨rmF (Nat.le_of_ble_eq_true rfl), rmL (Nat.le_of_ble_eq_true rfl)⟩) ⟨PRE.blind, PRE.of hE hS hFc hPc hKc hDc⟩ rfl rfl hl.1 rfl (lv_room (Nat.le_of_ble_eq_true rfl)) dX13_part_252 ⟨(show (2 * C9 + 1) + 0 ≤ (2 * C9 + 2) from by omega), (show (4 * (2 * C9 + 1)) + 0 ≤ 4 * (2 * C9 + 2) from by omega)⟩) hS (fun q _ h => hFc q h) hFc (fun u t H locs ht hvm hw hB hz1 hk1 hS => ?_)
                    obtain ⟨b1, b2, b3⟩ := hB
                    rw [ht] at b1
                    obtain ⟨hP, hD, hK⟩ := JOINC (wc := (List.flatten ([[(q78, .inr (16, [.int 0, .int 0, .null, .null]))]] : List va_W))) (wr := (List.flatten ([[((p0a 0), .inr (14, [.ref xv, .int ((o_79.2) 0 1), .int ((o_79.2) 0 2), .int ((o_79.2) 0 3), .int ((o_79.2) 0 4), .ref (p0a 6), .null, .ref (p0a 8), .ref (p0a 9), .int ((o_79.2) 0 9), .int ((o_79.2) 0 10), .int ((o_79.2) 0 11), .int ((o_79.2) 0 12)]))], wt_79, wt_51] : List va_W))) (w1 := (List.flatten ([[(q78, .inr (16, [.int 2, .int (1 + (o_49.1)), .ref r51, .ref r79]))]] : List va_W))) (t1 := (List.flatten ([[]] : List (List (ClassId × FieldType))))) hPx hDx hKx hk1 hFc b1 (va_K.moved hvm.symm b2) b3
                    have hP : va_P (dC, dI) cls (List.flatten ([[(q78, .inr (16, [.int 2, .int (1 + (o_49.1)), .ref r51, .ref r79]))], [((p0a 0), .inr (14, [.ref xv, .int ((o_79.2) 0 1), .int ((o_79.2) 0 2), .int ((o_79.2) 0 3), .int ((o_79.2) 0 4), .ref (p0a 6), .null, .ref (p0a 8), .ref (p0a 9), .int ((o_79.2) 0 9), .int ((o_79.2) 0 10), .int ((o_79.2) 0 11), .int ((o_79.2) 0 12)]))], wt_79, wt_51] : List va_W)) H := vP_perm (vP_fb hP) (bP (List.Perm.refl _))
                    have hD : va_D A (List.flatten ([[(q78, .inr (16, [.int 2, .int (1 + (o_49.1)), .ref r51, .ref r79]))], [((p0a 0), .inr (14, [.ref xv, .int ((o_79.2) 0 1), .int ((o_79.2) 0 2), .int ((o_79.2) 0 3), .int ((o_79.2) 0 4), .ref (p0a 6), .null, .ref (p0a 8), .ref (p0a 9), .int ((o_79.2) 0 9), .int ((o_79.2) 0 10), .int ((o_79.2) 0 11), .int ((o_79.2) 0 12)]))], wt_79, wt_51] : List va_W)) := vD_perm (vD_fb hD) (bP (List.Perm.refl _))
                    have hK : va_K (dC, dI) cls (List.flatten ([[], [], [], []] : List (List (ClassId × FieldType)))) s := vK_perm (vK_fb hK) (bP (List.Perm.refl _))
                    have ho9 : ((pb2 2 (1 + (o_49.1)) (o_51.1) (o_79.1)), (o_79.2)) = o := Option.some.inj hrun
                    have hP : va_P (dC, dI) cls (List.flatten ([[((p0a 0), .inr (14, [.ref xv, .int ((o_79.2) 0 1), .int ((o_79.2) 0 2), .int ((o_79.2) 0 3), .int ((o_79.2) 0 4), .ref (p0a 6), .null, .ref (p0a 8), .ref (p0a 9), .int ((o_79.2) 0 9), .int ((o_79.2) 0 10), .int ((o_79.2) 0 11), .int ((o_79.2) 0 12)]))], [(q78, .inr (16, [.int 2, .int (1 + (o_49.1)), .ref r51, .ref r79]))], wt_79, wt_51] : List va_W)) H := vP_perm hP (bP ((((List.Perm.refl _)).cons _).trans (List.Perm.swap _ _ _)))
                    have hD : va_D A (List.flatten ([[((p0a 0), .inr (14, [.ref xv, .int ((o_79.2) 0 1), .int ((o_79.2) 0 2), .int ((o_79.2) 0 3), .int ((o_79.2) 0 4), .ref (p0a 6), .null, .ref (p0a 8), .ref (p0a 9), .int ((o_79.2) 0 9), .int ((o_79.2) 0 10), .int ((o_79.2) 0 11), .int ((o_79.2) 0 12)]))], [(q78, .inr (16, [.int 2, .int (1 + (o_49.1)), .ref r51, .ref r79]))], wt_79, wt_51] : List va_W)) := vD_perm hD (bP ((((List.Perm.refl _)).cons _).trans (List.Perm.swap _ _ _)))
                    subst ho9
                    subst hQ
                    have hph : ph9 (List.flatten ([[(q78, .inr (16, [.int 2, .int (1 + (o_49.1)), .ref r51, .ref r79]))], wt_79, wt_51] : List va_W)) (D9 + 1) q78 (pb2 2 (1 + (o_49.1)) (o_51.1) (o_79.1)) := (ph_2 (fl_mem 0 rfl (List.mem_singleton.mpr rfl)) hz80 (ph9_m (fun x hx => fl_mem 2 rfl hx) hph_wt_51) (ph9_m (fun x hx => fl_mem 1 rfl hx) hph_wt_79))
                    refine W.widen (k := (2 * C9 + 2)) (n := 4 * (2 * C9 + 2)) (by omega) (by omega) ?_
                    exact W.aret (v := .ref q78) (rt := .object RX14) hx hb hr (Or.inl ⟨_, rfl⟩) (Or.inr ⟨_, rfl⟩) (fun t ht hW => ⟨⟨(), q78, rfl, trivial, (List.flatten ([[(q78, .inr (16, [.int 2, .int (1 + (o_49.1)), .ref r51, .ref r79]))], wt_79, wt_51] : List va_W)), hph, by rw [ht, fl_two]; exact hP, va_K.moved hW.alike hK, by rw [fl_two]; exact hD⟩, hS.F ht⟩) hS.2.2 dX13_part_255
              · refine lv_icmp_ge (tgt := 201) hx hb dX13_part_156 (by decide) (fun c => absurd c hc48) (fun _ => ?_)
                refine lv_aload_n hx hb dX13_part_159 rfl (lv_at hl 1 rfl) ?_
                refine lv_dup hx hb dX13_part_160 rfl ?_
                refine va_get (D := (dC, dI)) (ci := 14) (v := .int (w3 0 4)) (C := RX13) (T := TX13) (N := 13) hx hb hts i_X13 hown hK hP 0 rfl rfl 4 (by decide) (hts _ qw1583) (fun _ h9 => h9) rfl dX13_part_161 ?_
                refine lv_iconst (v := 1) hx hb dX13_part_164 (by decide) ?_
                refine lv_iadd hx hb dX13_part_165 ?_
                refine va_put (D := (dC, dI)) (ci := 14) (v := .int ((w3 0 4) + 1)) (ty := .int) (C := RX13) (T := TX13) (N := 13) hx hb hts i_X13 tyX13 tyX13_ok nmX13 hown hK hP hD hS 0 rfl rfl 4 (by decide) (hts _ qw1583) (fun _ h9 => h9) rfl (by decide +kernel) rfl rfl (Nat.le_of_ble_eq_true rfl) dX13_part_166 (fun H locs hP hD hS => ?_)
                have hP : va_P (dC, dI) cls (List.flatten ([[((p0a 0), .inr (14, [.ref xv, .int ((upw w3 0 4 ((w3 0 4) + 1)) 0 1), .int ((upw w3 0 4 ((w3 0 4) + 1)) 0 2), .int ((upw w3 0 4 ((w3 0 4) + 1)) 0 3), .int ((upw w3 0 4 ((w3 0 4) + 1)) 0 4), .ref (p0a 6), .null, .ref (p0a 8), .ref (p0a 9), .int ((upw w3 0 4 ((w3 0 4) + 1)) 0 9), .int ((upw w3 0 4 ((w3 0 4) + 1)) 0 10), .int ((upw w3 0 4 ((w3 0 4) + 1)) 0 11), .int ((upw w3 0 4 ((w3 0 4) + 1)) 0 12)]))]] : List va_W)) H := hP
                have hD : va_D A (List.flatten ([[((p0a 0), .inr (14, [.ref xv, .int ((upw w3 0 4 ((w3 0 4) + 1)) 0 1), .int ((upw w3 0 4 ((w3 0 4) + 1)) 0 2), .int ((upw w3 0 4 ((w3 0 4) + 1)) 0 3), .int ((upw w3 0 4 ((w3 0 4) + 1)) 0 4), .ref (p0a 6), .null, .ref (p0a 8), .ref (p0a 9), .int ((upw w3 0 4 ((w3 0 4) + 1)) 0 9), .int ((upw w3 0 4 ((w3 0 4) + 1)) 0 10), .int ((upw w3 0 4 ((w3 0 4) + 1)) 0 11), .int ((upw w3 0 4 ((w3 0 4) + 1)) 0 12)]))]] : List va_W)) := hD
                obtain ⟨w81, ew81, hrun⟩ := let9 hrun
                rw [← ew81] at hP hD
                refine lv_aload_n hx hb dX13_part_169 rfl (lv_at hl 1 rfl) ?_
                refine lv_iload_n hx hb dX13_part_170 rfl (lv_at hl 2 rfl) ?_
                refine lv_iconst (v := 1) hx hb dX13_part_171 (by decide) ?_
                refine lv_isub hx hb dX13_part_172 ?_
                obtain ⟨o_82, hc_82, hrun⟩ := bnd9 hrun
                have hPx : va_P (dC, dI) cls ((List.flatten ([[((p0a 0), .inr (14, [.ref xv, .int (w81 0 1), .int (w81 0 2), .int (w81 0 3), .int (w81 0 4), .ref (p0a 6), .null, .ref (p0a 8), .ref (p0a 9), .int (w81 0 9), .int (w81 0 10), .int (w81 0 11), .int (w81 0 12)]))]] : List va_W)) ++ (List.flatten ([] : List va_W))) H := vP_fa (vP_perm hP (bP (List.Perm.refl _)))
                have hDx : va_D A ((List.flatten ([[((p0a 0), .inr (14, [.ref xv, .int (w81 0 1), .int (w81 0 2), .int (w81 0 3), .int (w81 0 4), .ref (p0a 6), .null, .ref (p0a 8), .ref (p0a 9), .int (w81 0 9), .int (w81 0 10), .int (w81 0 11), .int (w81 0 12)]))]] : List va_W)) ++ (List.flatten ([] : List va_W))) := vD_fa (vD_perm hD (bP (List.Perm.refl _)))
                have hKx : va_K (dC, dI) cls ((List.flatten ([[]] : List (List (ClassId × FieldType)))) ++ (List.flatten ([] : List (List (ClassId × FieldType))))) s := vK_fa (vK_perm hK (bP (List.Perm.refl _)))
                have hPc := vP_l hPx
                have hDc := vD_l hDx
                have hKc := vK_l hKx
                have hFc := vfree hDx hS hA
                refine va_callr (va_runV (As := [.int (p1 - 1)]) (rest := []) ⟨hx, hb, hml, hown, hts⟩ (hkk_part dC dI (p0a := p0a) (p0w := w81) (p1 := (p1 - 1)) (sz := _) (o := o_82) (hrun := hc_82)) (cwV 1 hts (gi_V qw1580 qw1581 qw1582 qw1566 (gi_z qw1579)) rfl rfl rfl (by decide +kernel) ⟨rmF9, rmL9 (n := 24) (Nat.le_of_ble_eq_true rfl)⟩) ⟨PRE.blind, va_recv hKc hPc (ci := 14) (q0 := 0) rfl rfl, PRE.of (ENV.add hE xq9_m hro_x) hS hFc hPc hKc hDc⟩ rfl rfl hl.1 rfl (lv_room (Nat.le_of_ble_eq_true rfl)) dX13_part_173 ⟨(show 0 + C9 ≤ (2 * C9 + 2) from by omega), (show 0 + 4 * C9 ≤ 4 * (2 * C9 + 2) from by omega)⟩) hS (fun q _ h => hFc q h) hFc (fun u r82 t H locs ht hvm hw hB hz1 hk1 hS => ?_)
                obtain ⟨wt_82, hph_wt_82, hB⟩ := hB
                obtain ⟨b1, b2, b3⟩ := hB
                rw [ht] at b1
                obtain ⟨hP, hD, hK⟩ := JOINC (wc := (List.flatten ([[((p0a 0), .inr (14, [.ref xv, .int (w81 0 1), .int (w81 0 2), .int (w81 0 3), .int (w81 0 4), .ref (p0a 6), .null, .ref (p0a 8), .ref (p0a 9), .int (w81 0 9), .int (w81 0 10), .int (w81 0 11), .int (w81 0 12)]))]] : List va_W))) (wr := (List.flatten ([] : List va_W))) (w1 := (List.flatten ([[((p0a 0), .inr (14, [.ref xv, .int ((o_82.2) 0 1), .int ((o_82.2) 0 2), .int ((o_82.2) 0 3), .int ((o_82.2) 0 4), .ref (p0a 6), .null, .ref (p0a 8), .ref (p0a 9), .int ((o_82.2) 0 9), .int ((o_82.2) 0 10), .int ((o_82.2) 0 11), .int ((o_82.2) 0 12)]))], wt_82] : List va_W))) (t1 := (List.flatten ([[], []] : List (List (ClassId × FieldType))))) hPx hDx hKx hk1 hFc b1 (va_K.moved hvm.symm b2) b3
                have hP : va_P (dC, dI) cls (List.flatten ([[((p0a 0), .inr (14, [.ref xv, .int ((o_82.2) 0 1), .int ((o_82.2) 0 2), .int ((o_82.2) 0 3), .int ((o_82.2) 0 4), .ref (p0a 6), .null, .ref (p0a 8), .ref (p0a 9), .int ((o_82.2) 0 9), .int ((o_82.2) 0 10), .int ((o_82.2) 0 11), .int ((o_82.2) 0 12)]))], wt_82] : List va_W)) H := vP_perm (vP_fb hP) (bP (List.Perm.refl _))
                have hD : va_D A (List.flatten ([[((p0a 0), .inr (14, [.ref xv, .int ((o_82.2) 0 1), .int ((o_82.2) 0 2), .int ((o_82.2) 0 3), .int ((o_82.2) 0 4), .ref (p0a 6), .null, .ref (p0a 8), .ref (p0a 9), .int ((o_82.2) 0 9), .int ((o_82.2) 0 10), .int ((o_82.2) 0 11), .int ((o_82.2) 0 12)]))], wt_82] : List va_W)) := vD_perm (vD_fb hD) (bP (List.Perm.refl _))
                have hK : va_K (dC, dI) cls (List.flatten ([[], []] : List (List (ClassId × FieldType)))) s := vK_perm (vK_fb hK) (bP (List.Perm.refl _))
                refine W.widen (k := (C9)) (n := (4 * (C9))) (by omega) (by omega) ?_
                refine lv_astore_n (lv' := [(3, .ref r82), (2, .int (o_1.1)), (0, .ref (p0a 0)), (1, .int p1)]) hx hb dX13_part_176 rfl hl (by decide) rfl (fun ls hl => ?_)
                refine va_new (ci := 16) (fs := [.int 0, .int 0, .null, .null]) (C := RX14) (T := TX14) (N := 4) hx hb hts i_X14 tyX14 tyX14_ok hown (hts _ qw1568) (hts _ qw1569) (hts _ qw1570) hK hP hD hS hA rfl df_X14 (show (C9) + 1 ≤ (2 * C9 + 2) from by omega) (show (4 * (C9)) + 4 ≤ 4 * (2 * C9 + 2) from by omega) dX13_part_177 (fun q83 H hP hD hS => ?_)
                replace hP := vP_new hP
                replace hD := vD_new hD
                have hP : va_P (dC, dI) cls (List.flatten ([[(q83, .inr (16, [.int 0, .int 0, .null, .null]))], [((p0a 0), .inr (14, [.ref xv, .int ((o_82.2) 0 1), .int ((o_82.2) 0 2), .int ((o_82.2) 0 3), .int ((o_82.2) 0 4), .ref (p0a 6), .null, .ref (p0a 8), .ref (p0a 9), .int ((o_82.2) 0 9), .int ((o_82.2) 0 10), .int ((o_82.2) 0 11), .int ((o_82.2) 0 12)]))], wt_82] : List va_W)) H := hP
                have hD : va_D A (List.flatten ([[(q83, .inr (16, [.int 0, .int 0, .null, .null]))], [((p0a 0), .inr (14, [.ref xv, .int ((o_82.2) 0 1), .int ((o_82.2) 0 2), .int ((o_82.2) 0 3), .int ((o_82.2) 0 4), .ref (p0a 6), .null, .ref (p0a 8), .ref (p0a 9), .int ((o_82.2) 0 9), .int ((o_82.2) 0 10), .int ((o_82.2) 0 11), .int ((o_82.2) 0 12)]))], wt_82] : List va_W)) := hD
                have hK : va_K (dC, dI) cls (List.flatten ([[], [], []] : List (List (ClassId × FieldType)))) s := hK
                refine W.widen (k := (C9 + 1)) (n := (4 * (C9 + 1))) (by omega) (by omega) ?_
                refine lv_dup hx hb dX13_part_180 rfl ?_
                refine lv_iconst (v := 5) hx hb dX13_part_181 (by decide) ?_
                refine lv_aload_n hx hb dX13_part_182 rfl (lv_at hl 2 rfl) ?_
                refine lv_iconst (v := 2) hx hb dX13_part_183 (by decide) ?_
                obtain ⟨o_84, hc_84, hrun⟩ := bnd9 hrun
                have hPx : va_P (dC, dI) cls ((List.flatten ([[((p0a 0), .inr (14, [.ref xv, .int ((o_82.2) 0 1), .int ((o_82.2) 0 2), .int ((o_82.2) 0 3), .int ((o_82.2) 0 4), .ref (p0a 6), .null, .ref (p0a 8), .ref (p0a 9), .int ((o_82.2) 0 9), .int ((o_82.2) 0 10), .int ((o_82.2) 0 11), .int ((o_82.2) 0 12)]))]] : List va_W)) ++ (List.flatten ([[(q83, .inr (16, [.int 0, .int 0, .null, .null]))], wt_82] : List va_W))) H := vP_fa (vP_perm hP (bP ((((List.Perm.refl _)).cons _).trans (List.Perm.swap _ _ _))))
                have hDx : va_D A ((List.flatten ([[((p0a 0), .inr (14, [.ref xv, .int ((o_82.2) 0 1), .int ((o_82.2) 0 2), .int ((o_82.2) 0 3), .int ((o_82.2) 0 4), .ref (p0a 6), .null, .ref (p0a 8), .ref (p0a 9), .int ((o_82.2) 0 9), .int ((o_82.2) 0 10), .int ((o_82.2) 0 11), .int ((o_82.2) 0 12)]))]] : List va_W)) ++ (List.flatten ([[(q83, .inr (16, [.int 0, .int 0, .null, .null]))], wt_82] : List va_W))) := vD_fa (vD_perm hD (bP ((((List.Perm.refl _)).cons _).trans (List.Perm.swap _ _ _))))
                have hKx : va_K (dC, dI) cls ((List.flatten ([[]] : List (List (ClassId × FieldType)))) ++ (List.flatten ([[], []] : List (List (ClassId × FieldType))))) s := vK_fa (vK_perm hK (bP ((((List.Perm.refl _)).cons _).trans (List.Perm.swap _ _ _))))
                have hPc := vP_l hPx
                have hDc := vD_l hDx
                have hKc := vK_l hKx
                have hFc := vfree hDx hS hA
                refine va_calli (va_runV (As := [.int 2]) (rest := [.int 5, .ref q83, .ref q83]) ⟨hx, hb, hml, hown, hts⟩ (kX13_draw l dC dI (p0a := (st0 (p0a 0) (st1 p0a 1 xv))) (p0w := (o_82.2)) (p1 := 2) (xv := xv) (xm := xm) (xf := xf) (sz := _) (o := o_84) (hrun := hc_84)) (cwV 1 hts (gi_V qw1563 qw1564 qw1565 qw1566 (gi_z qw1562)) rfl rfl rfl (by decide +kernel) ⟨rmF (Nat.le_of_ble_eq_true rfl), rmL (Nat.le_of_ble_eq_true rfl)⟩) ⟨PRE.blind, va_recv hKc hPc (ci := 14) (q0 := 0) rfl rfl, PRE.of (ENV.add hE xq9_m hro_x) hS hFc hPc hKc hDc⟩ rfl rfl hl.1 rfl (lv_room (Nat.le_of_ble_eq_true rfl)) dX13_part_184 ⟨(show (C9 + 1) + 0 ≤ (2 * C9 + 2) from by omega), (show (4 * (C9 + 1)) + 0 ≤ 4 * (2 * C9 + 2) from by omega)⟩) hS (fun q _ h => hFc q h) hFc (fun r85 u t H locs ht hvm hw hB hz1 hk1 hS => ?_)
                obtain ⟨b1, b2, b3⟩ := hB
                rw [ht] at b1
                obtain ⟨hP, hD, hK⟩ := JOINC (wc := (List.flatten ([[((p0a 0), .inr (14, [.ref xv, .int ((o_82.2) 0 1), .int ((o_82.2) 0 2), .int ((o_82.2) 0 3), .int ((o_82.2) 0 4), .ref (p0a 6), .null, .ref (p0a 8), .ref (p0a 9), .int ((o_82.2) 0 9), .int ((o_82.2) 0 10), .int ((o_82.2) 0 11), .int ((o_82.2) 0 12)]))]] : List va_W))) (wr := (List.flatten ([[(q83, .inr (16, [.int 0, .int 0, .null, .null]))], wt_82] : List va_W))) (w1 := (List.flatten ([[((p0a 0), .inr (14, [.ref xv, .int ((o_84.2) 0 1), .int ((o_84.2) 0 2), .int ((o_84.2) 0 3), .int ((o_84.2) 0 4), .ref (p0a 6), .null, .ref (p0a 8), .ref (p0a 9), .int ((o_84.2) 0 9), .int ((o_84.2) 0 10), .int ((o_84.2) 0 11), .int ((o_84.2) 0 12)]))]] : List va_W))) (t1 := (List.flatten ([[]] : List (List (ClassId × FieldType))))) hPx hDx hKx hk1 hFc b1 (va_K.moved hvm.symm b2) b3
                have hP : va_P (dC, dI) cls (List.flatten ([[(q83, .inr (16, [.int 0, .int 0, .null, .null]))], [((p0a 0), .inr (14, [.ref xv, .int ((o_84.2) 0 1), .int ((o_84.2) 0 2), .int ((o_84.2) 0 3), .int ((o_84.2) 0 4), .ref (p0a 6), .null, .ref (p0a 8), .ref (p0a 9), .int ((o_84.2) 0 9), .int ((o_84.2) 0 10), .int ((o_84.2) 0 11), .int ((o_84.2) 0 12)]))], wt_82] : List va_W)) H := vP_perm (vP_fb hP) (bP ((((List.Perm.refl _)).cons _).trans (List.Perm.swap _ _ _)))
                have hD : va_D A (List.flatten ([[(q83, .inr (16, [.int 0, .int 0, .null, .null]))], [((p0a 0), .inr (14, [.ref xv, .int ((o_84.2) 0 1), .int ((o_84.2) 0 2), .int ((o_84.2) 0 3), .int ((o_84.2) 0 4), .ref (p0a 6), .null, .ref (p0a 8), .ref (p0a 9), .int ((o_84.2) 0 9), .int ((o_84.2) 0 10), .int ((o_84.2) 0 11), .int ((o_84.2) 0 12)]))], wt_82] : List va_W)) := vD_perm (vD_fb hD) (bP ((((List.Perm.refl _)).cons _).trans (List.Perm.swap _ _ _)))
                have hK : va_K (dC, dI) cls (List.flatten ([[], [], []] : List (List (ClassId × FieldType)))) s := vK_perm (vK_fb hK) (bP ((((List.Perm.refl _)).cons _).trans (List.Perm.swap _ _ _)))
                obtain rfl : r85 = (o_84.1) := hw
                refine lv_iadd hx hb dX13_part_187 ?_
                refine lv_iconst (v := 0) hx hb dX13_part_188 (by decide) ?_
                refine lv_aload_n hx hb dX13_part_189 rfl (lv_at hl 0 rfl) ?_
                refine lv_aload_n hx hb dX13_part_190 rfl (lv_at hl 2 rfl) ?_
                refine lv_iload_n hx hb dX13_part_191 rfl (lv_at hl 3 rfl) ?_
                refine lv_iconst (v := 1) hx hb dX13_part_192 (by decide) ?_
                refine lv_isub hx hb dX13_part_193 ?_
                obtain ⟨o_86, hc_86, hrun⟩ := bnd9 hrun
                have hPx : va_P (dC, dI) cls ((List.flatten ([[((p0a 0), .inr (14, [.ref xv, .int ((o_84.2) 0 1), .int ((o_84.2) 0 2), .int ((o_84.2) 0 3), .int ((o_84.2) 0 4), .ref (p0a 6), .null, .ref (p0a 8), .ref (p0a 9), .int ((o_84.2) 0 9), .int ((o_84.2) 0 10), .int ((o_84.2) 0 11), .int ((o_84.2) 0 12)]))]] : List va_W)) ++ (List.flatten ([[(q83, .inr (16, [.int 0, .int 0, .null, .null]))], wt_82] : List va_W))) H := vP_fa (vP_perm hP (bP ((((List.Perm.refl _)).cons _).trans (List.Perm.swap _ _ _))))
                have hDx : va_D A ((List.flatten ([[((p0a 0), .inr (14, [.ref xv, .int ((o_84.2) 0 1), .int ((o_84.2) 0 2), .int ((o_84.2) 0 3), .int ((o_84.2) 0 4), .ref (p0a 6), .null, .ref (p0a 8), .ref (p0a 9), .int ((o_84.2) 0 9), .int ((o_84.2) 0 10), .int ((o_84.2) 0 11), .int ((o_84.2) 0 12)]))]] : List va_W)) ++ (List.flatten ([[(q83, .inr (16, [.int 0, .int 0, .null, .null]))], wt_82] : List va_W))) := vD_fa (vD_perm hD (bP ((((List.Perm.refl _)).cons _).trans (List.Perm.swap _ _ _))))
                have hKx : va_K (dC, dI) cls ((List.flatten ([[]] : List (List (ClassId × FieldType)))) ++ (List.flatten ([[], []] : List (List (ClassId × FieldType))))) s := vK_fa (vK_perm hK (bP ((((List.Perm.refl _)).cons _).trans (List.Perm.swap _ _ _))))
                have hPc := vP_l hPx
                have hDc := vD_l hDx
                have hKc := vK_l hKx
                have hFc := vfree hDx hS hA
                refine va_callr (va_runV (As := [.int (p1 - 1)]) (rest := [.ref r82, .int 0, .int (5 + (o_84.1)), .ref q83, .ref q83]) ⟨hx, hb, hml, hown, hts⟩ (hkk_part dC dI (p0a := p0a) (p0w := (o_84.2)) (p1 := (p1 - 1)) (sz := _) (o := o_86) (hrun := hc_86)) (cwV 1 hts (gi_V qw1580 qw1581 qw1582 qw1566 (gi_z qw1579)) rfl rfl rfl (by decide +kernel) ⟨rmF9, rmL9 (n := 24) (Nat.le_of_ble_eq_true rfl)⟩) ⟨PRE.blind, va_recv hKc hPc (ci := 14) (q0 := 0) rfl rfl, PRE.of (ENV.add hE xq9_m hro_x) hS hFc hPc hKc hDc⟩ rfl rfl hl.1 rfl (lv_room (Nat.le_of_ble_eq_true rfl)) dX13_part_194 ⟨(show (C9 + 1) + C9 ≤ (2 * C9 + 2) from by omega), (show (4 * (C9 + 1)) + 4 * C9 ≤ 4 * (2 * C9 + 2) from by omega)⟩) hS (fun q _ h => hFc q h) hFc (fun u r86 t H locs ht hvm hw hB hz1 hk1 hS => ?_)
                obtain ⟨wt_86, hph_wt_86, hB⟩ := hB
                obtain ⟨b1, b2, b3⟩ := hB
                rw [ht] at b1
                obtain ⟨hP, hD, hK⟩ := JOINC (wc := (List.flatten ([[((p0a 0), .inr (14, [.ref xv, .int ((o_84.2) 0 1), .int ((o_84.2) 0 2), .int ((o_84.2) 0 3), .int ((o_84.2) 0 4), .ref (p0a 6), .null, .ref (p0a 8), .ref (p0a 9), .int ((o_84.2) 0 9), .int ((o_84.2) 0 10), .int ((o_84.2) 0 11), .int ((o_84.2) 0 12)]))]] : List va_W))) (wr := (List.flatten ([[(q83, .inr (16, [.int 0, .int 0, .null, .null]))], wt_82] : List va_W))) (w1 := (List.flatten ([[((p0a 0), .inr (14, [.ref xv, .int ((o_86.2) 0 1), .int ((o_86.2) 0 2), .int ((o_86.2) 0 3), .int ((o_86.2) 0 4), .ref (p0a 6), .null, .ref (p0a 8), .ref (p0a 9), .int ((o_86.2) 0 9), .int ((o_86.2) 0 10), .int ((o_86.2) 0 11), .int ((o_86.2) 0 12)]))], wt_86] : List va_W))) (t1 := (List.flatten ([[], []] : List (List (ClassId × FieldType))))) hPx hDx hKx hk1 hFc b1 (va_K.moved hvm.symm b2) b3
                have hP : va_P (dC, dI) cls (List.flatten ([[(q83, .inr (16, [.int 0, .int 0, .null, .null]))], [((p0a 0), .inr (14, [.ref xv, .int ((o_86.2) 0 1), .int ((o_86.2) 0 2), .int ((o_86.2) 0 3), .int ((o_86.2) 0 4), .ref (p0a 6), .null, .ref (p0a 8), .ref (p0a 9), .int ((o_86.2) 0 9), .int ((o_86.2) 0 10), .int ((o_86.2) 0 11), .int ((o_86.2) 0 12)]))], wt_86, wt_82] : List va_W)) H := vP_perm (vP_fb hP) (bP (((((((List.Perm.refl _)).cons _).trans (List.Perm.swap _ _ _))).cons _).trans (List.Perm.swap _ _ _)))
                have hD : va_D A (List.flatten ([[(q83, .inr (16, [.int 0, .int 0, .null, .null]))], [((p0a 0), .inr (14, [.ref xv, .int ((o_86.2) 0 1), .int ((o_86.2) 0 2), .int ((o_86.2) 0 3), .int ((o_86.2) 0 4), .ref (p0a 6), .null, .ref (p0a 8), .ref (p0a 9), .int ((o_86.2) 0 9), .int ((o_86.2) 0 10), .int ((o_86.2) 0 11), .int ((o_86.2) 0 12)]))], wt_86, wt_82] : List va_W)) := vD_perm (vD_fb hD) (bP (((((((List.Perm.refl _)).cons _).trans (List.Perm.swap _ _ _))).cons _).trans (List.Perm.swap _ _ _)))
                have hK : va_K (dC, dI) cls (List.flatten ([[], [], [], []] : List (List (ClassId × FieldType)))) s := vK_perm (vK_fb hK) (bP (((((((List.Perm.refl _)).cons _).trans (List.Perm.swap _ _ _))).cons _).trans (List.Perm.swap _ _ _)))
                refine W.widen (k := (2 * C9 + 1)) (n := (4 * (2 * C9 + 1))) (by omega) (by omega) ?_
                obtain ⟨hz87, hrun⟩ := chk9 hrun
                have hPx : va_P (dC, dI) cls ((List.flatten ([[(q83, .inr (16, [.int 0, .int 0, .null, .null]))]] : List va_W)) ++ (List.flatten ([[((p0a 0), .inr (14, [.ref xv, .int ((o_86.2) 0 1), .int ((o_86.2) 0 2), .int ((o_86.2) 0 3), .int ((o_86.2) 0 4), .ref (p0a 6), .null, .ref (p0a 8), .ref (p0a 9), .int ((o_86.2) 0 9), .int ((o_86.2) 0 10), .int ((o_86.2) 0 11), .int ((o_86.2) 0 12)]))], wt_86, wt_82] : List va_W))) H := vP_fa (vP_perm hP (bP (List.Perm.refl _)))
                have hDx : va_D A ((List.flatten ([[(q83, .inr (16, [.int 0, .int 0, .null, .null]))]] : List va_W)) ++ (List.flatten ([[((p0a 0), .inr (14, [.ref xv, .int ((o_86.2) 0 1), .int ((o_86.2) 0 2), .int ((o_86.2) 0 3), .int ((o_86.2) 0 4), .ref (p0a 6), .null, .ref (p0a 8), .ref (p0a 9), .int ((o_86.2) 0 9), .int ((o_86.2) 0 10), .int ((o_86.2) 0 11), .int ((o_86.2) 0 12)]))], wt_86, wt_82] : List va_W))) := vD_fa (vD_perm hD (bP (List.Perm.refl _)))
                have hKx : va_K (dC, dI) cls ((List.flatten ([[]] : List (List (ClassId × FieldType)))) ++ (List.flatten ([[], [], []] : List (List (ClassId × FieldType))))) s := vK_fa (vK_perm hK (bP (List.Perm.refl _)))
                have hPc := vP_l hPx
                have hDc := vD_l hDx
                have hKc := vK_l hKx
                have hFc := vfree hDx hS hA
                refine va_callv (va_runI (As := [.int (5 + (o_84.1)), .int 0, .ref r82, .ref r86]) (rest := [.ref q83]) ⟨hx, hb, hml, hown, hts⟩ (kX14_init_rr l dC dI (p0h := q83) (p1 := (5 + (o_84.1))) (p2 := 0) (p3h := r82) (p4h := r86) (sz := _)) (cwI 4 hts (gi_z qw1576) rfl rfl rfl (hts _ qw1570) (hts _ qw1577) (hts _ qw1578) rfl (by decide +kernel) ⟨rmF (Nat.le_of_ble_eq_true rfl), rmL (Nat.le_of_ble_eq_true rfl)⟩) ⟨PRE.blind, PRE.of hE hS hFc hPc hKc hDc⟩ rfl rfl hl.1 rfl (lv_room (Nat.le_of_ble_eq_true rfl)) dX13_part_197 ⟨(show (2 * C9 + 1) + 0 ≤ (2 * C9 + 2) from by omega), (show (4 * (2 * C9 + 1)) + 0 ≤ 4 * (2 * C9 + 2) from by omega)⟩) hS (fun q _ h => hFc q h) hFc (fun u t H locs ht hvm hw hB hz1 hk1 hS => ?_)
                obtain ⟨b1, b2, b3⟩ := hB
                rw [ht] at b1
                obtain ⟨hP, hD, hK⟩ := JOINC (wc := (List.flatten ([[(q83, .inr (16, [.int 0, .int 0, .null, .null]))]] : List va_W))) (wr := (List.flatten ([[((p0a 0), .inr (14, [.ref xv, .int ((o_86.2) 0 1), .int ((o_86.2) 0 2), .int ((o_86.2) 0 3), .int ((o_86.2) 0 4), .ref (p0a 6), .null, .ref (p0a 8), .ref (p0a 9), .int ((o_86.2) 0 9), .int ((o_86.2) 0 10), .int ((o_86.2) 0 11), .int ((o_86.2) 0 12)]))], wt_86, wt_82] : List va_W))) (w1 := (List.flatten ([[(q83, .inr (16, [.int (5 + (o_84.1)), .int 0, .ref r82, .ref r86]))]] : List va_W))) (t1 := (List.flatten ([[]] : List (List (ClassId × FieldType))))) hPx hDx hKx hk1 hFc b1 (va_K.moved hvm.symm b2) b3
                have hP : va_P (dC, dI) cls (List.flatten ([[(q83, .inr (16, [.int (5 + (o_84.1)), .int 0, .ref r82, .ref r86]))], [((p0a 0), .inr (14, [.ref xv, .int ((o_86.2) 0 1), .int ((o_86.2) 0 2), .int ((o_86.2) 0 3), .int ((o_86.2) 0 4), .ref (p0a 6), .null, .ref (p0a 8), .ref (p0a 9), .int ((o_86.2) 0 9), .int ((o_86.2) 0 10), .int ((o_86.2) 0 11), .int ((o_86.2) 0 12)]))], wt_86, wt_82] : List va_W)) H := vP_perm (vP_fb hP) (bP (List.Perm.refl _))
                have hD : va_D A (List.flatten ([[(q83, .inr (16, [.int (5 + (o_84.1)), .int 0, .ref r82, .ref r86]))], [((p0a 0), .inr (14, [.ref xv, .int ((o_86.2) 0 1), .int ((o_86.2) 0 2), .int ((o_86.2) 0 3), .int ((o_86.2) 0 4), .ref (p0a 6), .null, .ref (p0a 8), .ref (p0a 9), .int ((o_86.2) 0 9), .int ((o_86.2) 0 10), .int ((o_86.2) 0 11), .int ((o_86.2) 0 12)]))], wt_86, wt_82] : List va_W)) := vD_perm (vD_fb hD) (bP (List.Perm.refl _))
                have hK : va_K (dC, dI) cls (List.flatten ([[], [], [], []] : List (List (ClassId × FieldType)))) s := vK_perm (vK_fb hK) (bP (List.Perm.refl _))
                have ho9 : ((pb2 (5 + (o_84.1)) 0 (o_82.1) (o_86.1)), (o_86.2)) = o := Option.some.inj hrun
                have hP : va_P (dC, dI) cls (List.flatten ([[((p0a 0), .inr (14, [.ref xv, .int ((o_86.2) 0 1), .int ((o_86.2) 0 2), .int ((o_86.2) 0 3), .int ((o_86.2) 0 4), .ref (p0a 6), .null, .ref (p0a 8), .ref (p0a 9), .int ((o_86.2) 0 9), .int ((o_86.2) 0 10), .int ((o_86.2) 0 11), .int ((o_86.2) 0 12)]))], [(q83, .inr (16, [.int (5 + (o_84.1)), .int 0, .ref r82, .ref r86]))], wt_86, wt_82] : List va_W)) H := vP_perm hP (bP ((((List.Perm.refl _)).cons _).trans (List.Perm.swap _ _ _)))
                have hD : va_D A (List.flatten ([[((p0a 0), .inr (14, [.ref xv, .int ((o_86.2) 0 1), .int ((o_86.2) 0 2), .int ((o_86.2) 0 3), .int ((o_86.2) 0 4), .ref (p0a 6), .null, .ref (p0a 8), .ref (p0a 9), .int ((o_86.2) 0 9), .int ((o_86.2) 0 10), .int ((o_86.2) 0 11), .int ((o_86.2) 0 12)]))], [(q83, .inr (16, [.int (5 + (o_84.1)), .int 0, .ref r82, .ref r86]))], wt_86, wt_82] : List va_W)) := vD_perm hD (bP ((((List.Perm.refl _)).cons _).trans (List.Perm.swap _ _ _)))
                subst ho9
                subst hQ
                have hph : ph9 (List.flatten ([[(q83, .inr (16, [.int (5 + (o_84.1)), .int 0, .ref r82, .ref r86]))], wt_86, wt_82] : List va_W)) (D9 + 1) q83 (pb2 (5 + (o_84.1)) 0 (o_82.1) (o_86.1)) := (ph_2 (fl_mem 0 rfl (List.mem_singleton.mpr rfl)) hz87 (ph9_m (fun x hx => fl_mem 2 rfl hx) hph_wt_82) (ph9_m (fun x hx => fl_mem 1 rfl hx) hph_wt_86))
                refine W.widen (k := (2 * C9 + 2)) (n := 4 * (2 * C9 + 2)) (by omega) (by omega) ?_
                exact W.aret (v := .ref q83) (rt := .object RX14) hx hb hr (Or.inl ⟨_, rfl⟩) (Or.inr ⟨_, rfl⟩) (fun t ht hW => ⟨⟨(), q83, rfl, trivial, (List.flatten ([[(q83, .inr (16, [.int (5 + (o_84.1)), .int 0, .ref r82, .ref r86]))], wt_86, wt_82] : List va_W)), hph, by rw [ht, fl_two]; exact hP, va_K.moved hW.alike hK, by rw [fl_two]; exact hD⟩, hS.F ht⟩) hS.2.2 dX13_part_200
            · refine lv_icmp_ne (tgt := 201) hx hb dX13_part_147 (by decide) (fun _ => ?_) (fun c => absurd c hc47)
              refine lv_iconst (v := 1) hx hb dX13_part_201 (by decide) ?_
              refine lv_aload_n hx hb dX13_part_202 rfl (lv_at hl 1 rfl) ?_
              refine lv_bipush (v := 16) hx hb dX13_part_203 (by decide) ?_
              obtain ⟨o_88, hc_88, hrun⟩ := bnd9 hrun
              have hPx : va_P (dC, dI) cls ((List.flatten ([[((p0a 0), .inr (14, [.ref xv, .int (w3 0 1), .int (w3 0 2), .int (w3 0 3), .int (w3 0 4), .ref (p0a 6), .null, .ref (p0a 8), .ref (p0a 9), .int (w3 0 9), .int (w3 0 10), .int (w3 0 11), .int (w3 0 12)]))]] : List va_W)) ++ (List.flatten ([] : List va_W))) H := vP_fa (vP_perm hP (bP (List.Perm.refl _)))
              have hDx : va_D A ((List.flatten ([[((p0a 0), .inr (14, [.ref xv, .int (w3 0 1), .int (w3 0 2), .int (w3 0 3), .int (w3 0 4), .ref (p0a 6), .null, .ref (p0a 8), .ref (p0a 9), .int (w3 0 9), .int (w3 0 10), .int (w3 0 11), .int (w3 0 12)]))]] : List va_W)) ++ (List.flatten ([] : List va_W))) := vD_fa (vD_perm hD (bP (List.Perm.refl _)))
              have hKx : va_K (dC, dI) cls ((List.flatten ([[]] : List (List (ClassId × FieldType)))) ++ (List.flatten ([] : List (List (ClassId × FieldType))))) s := vK_fa (vK_perm hK (bP (List.Perm.refl _)))
              have hPc := vP_l hPx
              have hDc := vD_l hDx
              have hKc := vK_l hKx
              have hFc := vfree hDx hS hA
              refine va_calli (va_runV (As := [.int 16]) (rest := [.int 1]) ⟨hx, hb, hml, hown, hts⟩ (kX13_draw l dC dI (p0a := (st0 (p0a 0) (st1 p0a 1 xv))) (p0w := w3) (p1 := 16) (xv := xv) (xm := xm) (xf := xf) (sz := _) (o := o_88) (hrun := hc_88)) (cwV 1 hts (gi_V qw1563 qw1564 qw1565 qw1566 (gi_z qw1562)) rfl rfl rfl (by decide +kernel) ⟨rmF (Nat.le_of_ble_eq_true rfl), rmL (Nat.le_of_ble_eq_true rfl)⟩) ⟨PRE.blind, va_recv hKc hPc (ci := 14) (q0 := 0) rfl rfl, PRE.of (ENV.add hE xq9_m hro_x) hS hFc hPc hKc hDc⟩ rfl rfl hl.1 rfl (lv_room (Nat.le_of_ble_eq_true rfl)) dX13_part_205 ⟨(show 0 + 0 ≤ (2 * C9 + 2) from by omega), (show 0 + 0 ≤ 4 * (2 * C9 + 2) from by omega)⟩) hS (fun q _ h => hFc q h) hFc (fun r89 u t H locs ht hvm hw hB hz1 hk1 hS => ?_)
              obtain ⟨b1, b2, b3⟩ := hB
              rw [ht] at b1
              obtain ⟨hP, hD, hK⟩ := JOINC (wc := (List.flatten ([[((p0a 0), .inr (14, [.ref xv, .int (w3 0 1), .int (w3 0 2), .int (w3 0 3), .int (w3 0 4), .ref (p0a 6), .null, .ref (p0a 8), .ref (p0a 9), .int (w3 0 9), .int (w3 0 10), .int (w3 0 11), .int (w3 0 12)]))]] : List va_W))) (wr := (List.flatten ([] : List va_W))) (w1 := (List.flatten ([[((p0a 0), .inr (14, [.ref xv, .int ((o_88.2) 0 1), .int ((o_88.2) 0 2), .int ((o_88.2) 0 3), .int ((o_88.2) 0 4), .ref (p0a 6), .null, .ref (p0a 8), .ref (p0a 9), .int ((o_88.2) 0 9), .int ((o_88.2) 0 10), .int ((o_88.2) 0 11), .int ((o_88.2) 0 12)]))]] : List va_W))) (t1 := (List.flatten ([[]] : List (List (ClassId × FieldType))))) hPx hDx hKx hk1 hFc b1 (va_K.moved hvm.symm b2) b3
              have hP : va_P (dC, dI) cls (List.flatten ([[((p0a 0), .inr (14, [.ref xv, .int ((o_88.2) 0 1), .int ((o_88.2) 0 2), .int ((o_88.2) 0 3), .int ((o_88.2) 0 4), .ref (p0a 6), .null, .ref (p0a 8), .ref (p0a 9), .int ((o_88.2) 0 9), .int ((o_88.2) 0 10), .int ((o_88.2) 0 11), .int ((o_88.2) 0 12)]))]] : List va_W)) H := vP_perm (vP_fb hP) (bP (List.Perm.refl _))
              have hD : va_D A (List.flatten ([[((p0a 0), .inr (14, [.ref xv, .int ((o_88.2) 0 1), .int ((o_88.2) 0 2), .int ((o_88.2) 0 3), .int ((o_88.2) 0 4), .ref (p0a 6), .null, .ref (p0a 8), .ref (p0a 9), .int ((o_88.2) 0 9), .int ((o_88.2) 0 10), .int ((o_88.2) 0 11), .int ((o_88.2) 0 12)]))]] : List va_W)) := vD_perm (vD_fb hD) (bP (List.Perm.refl _))
              have hK : va_K (dC, dI) cls (List.flatten ([[]] : List (List (ClassId × FieldType)))) s := vK_perm (vK_fb hK) (bP (List.Perm.refl _))
              obtain rfl : r89 = (o_88.1) := hw
              refine lv_iadd hx hb dX13_part_208 ?_
              refine lv_istore_n (lv' := [(3, .int (1 + (o_88.1))), (2, .int (o_1.1)), (0, .ref (p0a 0)), (1, .int p1)]) hx hb dX13_part_209 rfl hl (by decide) rfl (fun ls hl => ?_)
              refine lv_aload_n hx hb dX13_part_210 rfl (lv_at hl 2 rfl) ?_
              refine lv_iload_n hx hb dX13_part_211 rfl (lv_at hl 3 rfl) ?_
              refine lv_iconst (v := 1) hx hb dX13_part_212 (by decide) ?_
              refine lv_isub hx hb dX13_part_213 ?_
              obtain ⟨o_90, hc_90, hrun⟩ := bnd9 hrun
              have hPx : va_P (dC, dI) cls ((List.flatten ([[((p0a 0), .inr (14, [.ref xv, .int ((o_88.2) 0 1), .int ((o_88.2) 0 2), .int ((o_88.2) 0 3), .int ((o_88.2) 0 4), .ref (p0a 6), .null, .ref (p0a 8), .ref (p0a 9), .int ((o_88.2) 0 9), .int ((o_88.2) 0 10), .int ((o_88.2) 0 11), .int ((o_88.2) 0 12)]))]] : List va_W)) ++ (List.flatten ([] : List va_W))) H := vP_fa (vP_perm hP (bP (List.Perm.refl _)))
              have hDx : va_D A ((List.flatten ([[((p0a 0), .inr (14, [.ref xv, .int ((o_88.2) 0 1), .int ((o_88.2) 0 2), .int ((o_88.2) 0 3), .int ((o_88.2) 0 4), .ref (p0a 6), .null, .ref (p0a 8), .ref (p0a 9), .int ((o_88.2) 0 9), .int ((o_88.2) 0 10), .int ((o_88.2) 0 11), .int ((o_88.2) 0 12)]))]] : List va_W)) ++ (List.flatten ([] : List va_W))) := vD_fa (vD_perm hD (bP (List.Perm.refl _)))
              have hKx : va_K (dC, dI) cls ((List.flatten ([[]] : List (List (ClassId × FieldType)))) ++ (List.flatten ([] : List (List (ClassId × FieldType))))) s := vK_fa (vK_perm hK (bP (List.Perm.refl _)))
              have hPc := vP_l hPx
              have hDc := vD_l hDx
              have hKc := vK_l hKx
              have hFc := vfree hDx hS hA
              refine va_callr (va_runV (As := [.int (p1 - 1)]) (rest := []) ⟨hx, hb, hml, hown, hts⟩ (hkk_part dC dI (p0a := p0a) (p0w := (o_88.2)) (p1 := (p1 - 1)) (sz := _) (o := o_90) (hrun := hc_90)) (cwV 1 hts (gi_V qw1580 qw1581 qw1582 qw1566 (gi_z qw1579)) rfl rfl rfl (by decide +kernel) ⟨rmF9, rmL9 (n := 24) (Nat.le_of_ble_eq_true rfl)⟩) ⟨PRE.blind, va_recv hKc hPc (ci := 14) (q0 := 0) rfl rfl, PRE.of (ENV.add hE xq9_m hro_x) hS hFc hPc hKc hDc⟩ rfl rfl hl.1 rfl (lv_room (Nat.le_of_ble_eq_true rfl)) dX13_part_214 ⟨(show 0 + C9 ≤ (2 * C9 + 2) from by omega), (show 0 + 4 * C9 ≤ 4 * (2 * C9 + 2) from by omega)⟩) hS (fun q _ h => hFc q h) hFc (fun u r90 t H locs ht hvm hw hB hz1 hk1 hS => ?_)
              obtain ⟨wt_90, hph_wt_90, hB⟩ := hB
              obtain ⟨b1, b2, b3⟩ := hB
              rw [ht] at b1
              obtain ⟨hP, hD, hK⟩ := JOINC (wc := (List.flatten ([[((p0a 0), .inr (14, [.ref xv, .int ((o_88.2) 0 1), .int ((o_88.2) 0 2), .int ((o_88.2) 0 3), .int ((o_88.2) 0 4), .ref (p0a 6), .null, .ref (p0a 8), .ref (p0a 9), .int ((o_88.2) 0 9), .int ((o_88.2) 0 10), .int ((o_88.2) 0 11), .int ((o_88.2) 0 12)]))]] : List va_W))) (wr := (List.flatten ([] : List va_W))) (w1 := (List.flatten ([[((p0a 0), .inr (14, [.ref xv, .int ((o_90.2) 0 1), .int ((o_90.2) 0 2), .int ((o_90.2) 0 3), .int ((o_90.2) 0 4), .ref (p0a 6), .null, .ref (p0a 8), .ref (p0a 9), .int ((o_90.2) 0 9), .int ((o_90.2) 0 10), .int ((o_90.2) 0 11), .int ((o_90.2) 0 12)]))], wt_90] : List va_W))) (t1 := (List.flatten ([[], []] : List (List (ClassId × FieldType))))) hPx hDx hKx hk1 hFc b1 (va_K.moved hvm.symm b2) b3
              have hP : va_P (dC, dI) cls (List.flatten ([[((p0a 0), .inr (14, [.ref xv, .int ((o_90.2) 0 1), .int ((o_90.2) 0 2), .int ((o_90.2) 0 3), .int ((o_90.2) 0 4), .ref (p0a 6), .null, .ref (p0a 8), .ref (p0a 9), .int ((o_90.2) 0 9), .int ((o_90.2) 0 10), .int ((o_90.2) 0 11), .int ((o_90.2) 0 12)]))], wt_90] : List va_W)) H := vP_perm (vP_fb hP) (bP (List.Perm.refl _))
              have hD : va_D A (List.flatten ([[((p0a 0), .inr (14, [.ref xv, .int ((o_90.2) 0 1), .int ((o_90.2) 0 2), .int ((o_90.2) 0 3), .int ((o_90.2) 0 4), .ref (p0a 6), .null, .ref (p0a 8), .ref (p0a 9), .int ((o_90.2) 0 9), .int ((o_90.2) 0 10), .int ((o_90.2) 0 11), .int ((o_90.2) 0 12)]))], wt_90] : List va_W)) := vD_perm (vD_fb hD) (bP (List.Perm.refl _))
              have hK : va_K (dC, dI) cls (List.flatten ([[], []] : List (List (ClassId × FieldType)))) s := vK_perm (vK_fb hK) (bP (List.Perm.refl _))
              refine W.widen (k := (C9)) (n := (4 * (C9))) (by omega) (by omega) ?_
              refine lv_astore (lv' := [(4, .ref r90), (3, .int (1 + (o_88.1))), (2, .int (o_1.1)), (0, .ref (p0a 0)), (1, .int p1)]) hx hb dX13_part_217 hl (by decide) rfl (fun ls hl => ?_)
              refine lv_iload_n hx hb dX13_part_219 rfl (lv_at hl 1 rfl) ?_
              refine lv_iconst (v := 4) hx hb dX13_part_220 (by decide) ?_
              rcases br9 hrun with ⟨hc91, hrun⟩ | ⟨hc91, hrun⟩
              · refine lv_icmp_eq (tgt := 229) hx hb dX13_part_221 (by decide) (fun _ => ?_) (fun c => absurd hc91 c)
                refine lv_aload_n hx hb dX13_part_229 rfl (lv_at hl 3 rfl) ?_
                refine lv_iconst (v := 5) hx hb dX13_part_230 (by decide) ?_
                obtain ⟨o_92, hc_92, hrun⟩ := bnd9 hrun
                have hPx : va_P (dC, dI) cls ((List.flatten ([[((p0a 0), .inr (14, [.ref xv, .int ((o_90.2) 0 1), .int ((o_90.2) 0 2), .int ((o_90.2) 0 3), .int ((o_90.2) 0 4), .ref (p0a 6), .null, .ref (p0a 8), .ref (p0a 9), .int ((o_90.2) 0 9), .int ((o_90.2) 0 10), .int ((o_90.2) 0 11), .int ((o_90.2) 0 12)]))]] : List va_W)) ++ (List.flatten ([wt_90] : List va_W))) H := vP_fa (vP_perm hP (bP (List.Perm.refl _)))
                have hDx : va_D A ((List.flatten ([[((p0a 0), .inr (14, [.ref xv, .int ((o_90.2) 0 1), .int ((o_90.2) 0 2), .int ((o_90.2) 0 3), .int ((o_90.2) 0 4), .ref (p0a 6), .null, .ref (p0a 8), .ref (p0a 9), .int ((o_90.2) 0 9), .int ((o_90.2) 0 10), .int ((o_90.2) 0 11), .int ((o_90.2) 0 12)]))]] : List va_W)) ++ (List.flatten ([wt_90] : List va_W))) := vD_fa (vD_perm hD (bP (List.Perm.refl _)))
                have hKx : va_K (dC, dI) cls ((List.flatten ([[]] : List (List (ClassId × FieldType)))) ++ (List.flatten ([[]] : List (List (ClassId × FieldType))))) s := vK_fa (vK_perm hK (bP (List.Perm.refl _)))
                have hPc := vP_l hPx
                have hDc := vD_l hDx
                have hKc := vK_l hKx
                have hFc := vfree hDx hS hA
                refine va_calli (va_runV (As := [.int 5]) (rest := []) ⟨hx, hb, hml, hown, hts⟩ (kX13_draw l dC dI (p0a := (st0 (p0a 0) (st1 p0a 1 xv))) (p0w := (o_90.2)) (p1 := 5) (xv := xv) (xm := xm) (xf := xf) (sz := _) (o := o_92) (hrun := hc_92)) (cwV 1 hts (gi_V qw1563 qw1564 qw1565 qw1566 (gi_z qw1562)) rfl rfl rfl (by decide +kernel) ⟨rmF (Nat.le_of_ble_eq_true rfl), rmL (Nat.le_of_ble_eq_true rfl)⟩) ⟨PRE.blind, va_recv hKc hPc (ci := 14) (q0 := 0) rfl rfl, PRE.of (ENV.add hE xq9_m hro_x) hS hFc hPc hKc hDc⟩ rfl rfl hl.1 rfl (lv_room (Nat.le_of_ble_eq_true rfl)) dX13_part_231 ⟨(show (C9) + 0 ≤ (2 * C9 + 2) from by omega), (show (4 * (C9)) + 0 ≤ 4 * (2 * C9 + 2) from by omega)⟩) hS (fun q _ h => hFc q h) hFc (fun r93 u t H locs ht hvm hw hB hz1 hk1 hS => ?_)
                obtain ⟨b1, b2, b3⟩ := hB
                rw [ht] at b1
                obtain ⟨hP, hD, hK⟩ := JOINC (wc := (List.flatten ([[((p0a 0), .inr (14, [.ref xv, .int ((o_90.2) 0 1), .int ((o_90.2) 0 2), .int ((o_90.2) 0 3), .int ((o_90.2) 0 4), .ref (p0a 6), .null, .ref (p0a 8), .ref (p0a 9), .int ((o_90.2) 0 9), .int ((o_90.2) 0 10), .int ((o_90.2) 0 11), .int ((o_90.2) 0 12)]))]] : List va_W))) (wr := (List.flatten ([wt_90] : List va_W))) (w1 := (List.flatten ([[((p0a 0), .inr (14, [.ref xv, .int ((o_92.2) 0 1), .int ((o_92.2) 0 2), .int ((o_92.2) 0 3), .int ((o_92.2) 0 4), .ref (p0a 6), .null, .ref (p0a 8), .ref (p0a 9), .int ((o_92.2) 0 9), .int ((o_92.2) 0 10), .int ((o_92.2) 0 11), .int ((o_92.2) 0 12)]))]] : List va_W))) (t1 := (List.flatten ([[]] : List (List (ClassId × FieldType))))) hPx hDx hKx hk1 hFc b1 (va_K.moved hvm.symm b2) b3
                have hP : va_P (dC, dI) cls (List.flatten ([[((p0a 0), .inr (14, [.ref xv, .int ((o_92.2) 0 1), .int ((o_92.2) 0 2), .int ((o_92.2) 0 3), .int ((o_92.2) 0 4), .ref (p0a 6), .null, .ref (p0a 8), .ref (p0a 9), .int ((o_92.2) 0 9), .int ((o_92.2) 0 10), .int ((o_92.2) 0 11), .int ((o_92.2) 0 12)]))], wt_90] : List va_W)) H := vP_perm (vP_fb hP) (bP (List.Perm.refl _))
                have hD : va_D A (List.flatten ([[((p0a 0), .inr (14, [.ref xv, .int ((o_92.2) 0 1), .int ((o_92.2) 0 2), .int ((o_92.2) 0 3), .int ((o_92.2) 0 4), .ref (p0a 6), .null, .ref (p0a 8), .ref (p0a 9), .int ((o_92.2) 0 9), .int ((o_92.2) 0 10), .int ((o_92.2) 0 11), .int ((o_92.2) 0 12)]))], wt_90] : List va_W)) := vD_perm (vD_fb hD) (bP (List.Perm.refl _))
                have hK : va_K (dC, dI) cls (List.flatten ([[], []] : List (List (ClassId × FieldType)))) s := vK_perm (vK_fb hK) (bP (List.Perm.refl _))
                obtain rfl : r93 = (o_92.1) := hw
                rcases br9 hrun with ⟨hc94, hrun⟩ | ⟨hc94, hrun⟩
                · refine lv_if_ne (tgt := 256) hx hb dX13_part_234 (by decide) (fun c => absurd hc94 c) (fun _ => ?_)
                  refine va_new (ci := 16) (fs := [.int 0, .int 0, .null, .null]) (C := RX14) (T := TX14) (N := 4) hx hb hts i_X14 tyX14 tyX14_ok hown (hts _ qw1568) (hts _ qw1569) (hts _ qw1570) hK hP hD hS hA rfl df_X14 (show (C9) + 1 ≤ (2 * C9 + 2) from by omega) (show (4 * (C9)) + 4 ≤ 4 * (2 * C9 + 2) from by omega) dX13_part_237 (fun q95 H hP hD hS => ?_)
                  replace hP := vP_new hP
                  replace hD := vD_new hD
                  have hP : va_P (dC, dI) cls (List.flatten ([[(q95, .inr (16, [.int 0, .int 0, .null, .null]))], [((p0a 0), .inr (14, [.ref xv, .int ((o_92.2) 0 1), .int ((o_92.2) 0 2), .int ((o_92.2) 0 3), .int ((o_92.2) 0 4), .ref (p0a 6), .null, .ref (p0a 8), .ref (p0a 9), .int ((o_92.2) 0 9), .int ((o_92.2) 0 10), .int ((o_92.2) 0 11), .int ((o_92.2) 0 12)]))], wt_90] : List va_W)) H := hP
                  have hD : va_D A (List.flatten ([[(q95, .inr (16, [.int 0, .int 0, .null, .null]))], [((p0a 0), .inr (14, [.ref xv, .int ((o_92.2) 0 1), .int ((o_92.2) 0 2), .int ((o_92.2) 0 3), .int ((o_92.2) 0 4), .ref (p0a 6), .null, .ref (p0a 8), .ref (p0a 9), .int ((o_92.2) 0 9), .int ((o_92.2) 0 10), .int ((o_92.2) 0 11), .int ((o_92.2) 0 12)]))], wt_90] : List va_W)) := hD
                  have hK : va_K (dC, dI) cls (List.flatten ([[], [], []] : List (List (ClassId × FieldType)))) s := hK
                  refine W.widen (k := (C9 + 1)) (n := (4 * (C9 + 1))) (by omega) (by omega) ?_
                  refine lv_dup hx hb dX13_part_240 rfl ?_
                  refine lv_iconst (v := 2) hx hb dX13_part_241 (by decide) ?_
                  refine lv_iload_n hx hb dX13_part_242 rfl (lv_at hl 1 rfl) ?_
                  refine lv_aload hx hb dX13_part_243 (lv_at hl 0 rfl) ?_
                  refine lv_aload_n hx hb dX13_part_245 rfl (lv_at hl 3 rfl) ?_
                  refine lv_iload_n hx hb dX13_part_246 rfl (lv_at hl 4 rfl) ?_
                  refine lv_iconst (v := 1) hx hb dX13_part_247 (by decide) ?_
                  refine lv_isub hx hb dX13_part_248 ?_
                  obtain ⟨o_96, hc_96, hrun⟩ := bnd9 hrun
                  have hPx : va_P (dC, dI) cls ((List.flatten ([[((p0a 0), .inr (14, [.ref xv, .int ((o_92.2) 0 1), .int ((o_92.2) 0 2), .int ((o_92.2) 0 3), .int ((o_92.2) 0 4), .ref (p0a 6), .null, .ref (p0a 8), .ref (p0a 9), .int ((o_92.2) 0 9), .int ((o_92.2) 0 10), .int ((o_92.2) 0 11), .int ((o_92.2) 0 12)]))]] : List va_W)) ++ (List.flatten ([[(q95, .inr (16, [.int 0, .int 0, .null, .null]))], wt_90] : List va_W))) H := vP_fa (vP_perm hP (bP ((((List.Perm.refl _)).cons _).trans (List.Perm.swap _ _ _))))
                  have hDx : va_D A ((List.flatten ([[((p0a 0), .inr (14, [.ref xv, .int ((o_92.2) 0 1), .int ((o_92.2) 0 2), .int ((o_92.2) 0 3), .int ((o_92.2) 0 4), .ref (p0a 6), .null, .ref (p0a 8), .ref (p0a 9), .int ((o_92.2) 0 9), .int ((o_92.2) 0 10), .int ((o_92.2) 0 11), .int ((o_92.2) 0 12)]))]] : List va_W)) ++ (List.flatten ([[(q95, .inr (16, [.int 0, .int 0, .null, .null]))], wt_90] : List va_W))) := vD_fa (vD_perm hD (bP ((((List.Perm.refl _)).cons _).trans (List.Perm.swap _ _ _))))
                  have hKx : va_K (dC, dI) cls ((List.flatten ([[]] : List (List (ClassId × FieldType)))) ++ (List.flatten ([[], []] : List (List (ClassId × FieldType))))) s := vK_fa (vK_perm hK (bP ((((List.Perm.refl _)).cons _).trans (List.Perm.swap _ _ _))))
                  have hPc := vP_l hPx
                  have hDc := vD_l hDx
                  have hKc := vK_l hKx
                  have hFc := vfree hDx hS hA
                  refine va_callr (va_runV (As := [.int (p1 - 1)]) (rest := [.ref r90, .int (1 + (o_88.1)), .int 2, .ref q95, .ref q95]) ⟨hx, hb, hml, hown, hts⟩ (hkk_part dC dI (p0a := p0a) (p0w := (o_92.2)) (p1 := (p1 - 1)) (sz := _) (o := o_96) (hrun := hc_96)) (cwV 1 hts (gi_V qw1580 qw1581 qw1582 qw1566 (gi_z qw1579)) rfl rfl rfl (by decide +kernel) ⟨rmF9, rmL9 (n := 24) (Nat.le_of_ble_eq_true rfl)⟩) ⟨PRE.blind, va_recv hKc hPc (ci := 14) (q0 := 0) rfl rfl, PRE.of (ENV.add hE xq9_m hro_x) hS hFc hPc hKc hDc⟩ rfl rfl hl.1 rfl (lv_room (Nat.le_of_ble_eq_true rfl)) dX13_part_249 ⟨(show (C9 + 1) + C9 ≤ (2 * C9 + 2) from by omega), (show (4 * (C9 + 1)) + 4 * C9 ≤ 4 * (2 * C9 + 2) from by omega)⟩) hS (fun q _ h => hFc q h) hFc (fun u r96 t H locs ht hvm hw hB hz1 hk1 hS => ?_)
                  obtain ⟨wt_96, hph_wt_96, hB⟩ := hB
                  obtain ⟨b1, b2, b3⟩ := hB
                  rw [ht] at b1
                  obtain ⟨hP, hD, hK⟩ := JOINC (wc := (List.flatten ([[((p0a 0), .inr (14, [.ref xv, .int ((o_92.2) 0 1), .int ((o_92.2) 0 2), .int ((o_92.2) 0 3), .int ((o_92.2) 0 4), .ref (p0a 6), .null, .ref (p0a 8), .ref (p0a 9), .int ((o_92.2) 0 9), .int ((o_92.2) 0 10), .int ((o_92.2) 0 11), .int ((o_92.2) 0 12)]))]] : List va_W))) (wr := (List.flatten ([[(q95, .inr (16, [.int 0, .int 0, .null, .null]))], wt_90] : List va_W))) (w1 := (List.flatten ([[((p0a 0), .inr (14, [.ref xv, .int ((o_96.2) 0 1), .int ((o_96.2) 0 2), .int ((o_96.2) 0 3), .int ((o_96.2) 0 4), .ref (p0a 6), .null, .ref (p0a 8), .ref (p0a 9), .int ((o_96.2) 0 9), .int ((o_96.2) 0 10), .int ((o_96.2) 0 11), .int ((o_96.2) 0 12)]))], wt_96] : List va_W))) (t1 := (List.flatten ([[], []] : List (List (ClassId × FieldType))))) hPx hDx hKx hk1 hFc b1 (va_K.moved hvm.symm b2) b3
                  have hP : va_P (dC, dI) cls (List.flatten ([[(q95, .inr (16, [.int 0, .int 0, .null, .null]))], [((p0a 0), .inr (14, [.ref xv, .int ((o_96.2) 0 1), .int ((o_96.2) 0 2), .int ((o_96.2) 0 3), .int ((o_96.2) 0 4), .ref (p0a 6), .null, .ref (p0a 8), .ref (p0a 9), .int ((o_96.2) 0 9), .int ((o_96.2) 0 10), .int ((o_96.2) 0 11), .int ((o_96.2) 0 12)]))], wt_96, wt_90] : List va_W)) H := vP_perm (vP_fb hP) (bP (((((((List.Perm.refl _)).cons _).trans (List.Perm.swap _ _ _))).cons _).trans (List.Perm.swap _ _ _)))
                  have hD : va_D A (List.flatten ([[(q95, .inr (16, [.int 0, .int 0, .null, .null]))], [((p0a 0), .inr (14, [.ref xv, .int ((o_96.2) 0 1), .int ((o_96.2) 0 2), .int ((o_96.2) 0 3), .int ((o_96.2) 0 4), .ref (p0a 6), .null, .ref (p0a 8), .ref (p0a 9), .int ((o_96.2) 0 9), .int ((o_96.2) 0 10), .int ((o_96.2) 0 11), .int ((o_96.2) 0 12)]))], wt_96, wt_90] : List va_W)) := vD_perm (vD_fb hD) (bP (((((((List.Perm.refl _)).cons _).trans (List.Perm.swap _ _ _))).cons _).trans (List.Perm.swap _ _ _)))
                  have hK : va_K (dC, dI) cls (List.flatten ([[], [], [], []] : List (List (ClassId × FieldType)))) s := vK_perm (vK_fb hK) (bP (((((((List.Perm.refl _)).cons _).trans (List.Perm.swap _ _ _))).cons _).trans (List.Perm.swap _ _ _)))
                  refine W.widen (k := (2 * C9 + 1)) (n := (4 * (2 * C9 + 1))) (by omega) (by omega) ?_
                  obtain ⟨hz97, hrun⟩ := chk9 hrun
                  have hPx : va_P (dC, dI) cls ((List.flatten ([[(q95, .inr (16, [.int 0, .int 0, .null, .null]))]] : List va_W)) ++ (List.flatten ([[((p0a 0), .inr (14, [.ref xv, .int ((o_96.2) 0 1), .int ((o_96.2) 0 2), .int ((o_96.2) 0 3), .int ((o_96.2) 0 4), .ref (p0a 6), .null, .ref (p0a 8), .ref (p0a 9), .int ((o_96.2) 0 9), .int ((o_96.2) 0 10), .int ((o_96.2) 0 11), .int ((o_96.2) 0 12)]))], wt_96, wt_90] : List va_W))) H := vP_fa (vP_perm hP (bP (List.Perm.refl _)))
                  have hDx : va_D A ((List.flatten ([[(q95, .inr (16, [.int 0, .int 0, .null, .null]))]] : List va_W)) ++ (List.flatten ([[((p0a 0), .inr (14, [.ref xv, .int ((o_96.2) 0 1), .int ((o_96.2) 0 2), .int ((o_96.2) 0 3), .int ((o_96.2) 0 4), .ref (p0a 6), .null, .ref (p0a 8), .ref (p0a 9), .int ((o_96.2) 0 9), .int ((o_96.2) 0 10), .int ((o_96.2) 0 11), .int ((o_96.2) 0 12)]))], wt_96, wt_90] : List va_W))) := vD_fa (vD_perm hD (bP (List.Perm.refl _)))
                  have hKx : va_K (dC, dI) cls ((List.flatten ([[]] : List (List (ClassId × FieldType)))) ++ (List.flatten ([[], [], []] : List (List (ClassId × FieldType))))) s := vK_fa (vK_perm hK (bP (List.Perm.refl _)))
                  have hPc := vP_l hPx
                  have hDc := vD_l hDx
                  have hKc := vK_l hKx
                  have hFc := vfree hDx hS hA
                  refine va_callv (va_runI (As := [.int 2, .int (1 + (o_88.1)), .ref r90, .ref r96]) (rest := [.ref q95]) ⟨hx, hb, hml, hown, hts⟩ (kX14_init_rr l dC dI (p0h := q95) (p1 := 2) (p2 := (1 + (o_88.1))) (p3h := r90) (p4h := r96) (sz := _)) (cwI 4 hts (gi_z qw1576) rfl rfl rfl (hts _ qw1570) (hts _ qw1577) (hts _ qw1578) rfl (by decide +kernel) ⟨rmF (Nat.le_of_ble_eq_true rfl), rmL (Nat.le_of_ble_eq_true rfl)⟩) ⟨PRE.blind, PRE.of hE hS hFc hPc hKc hDc⟩ rfl rfl hl.1 rfl (lv_room (Nat.le_of_ble_eq_true rfl)) dX13_part_252 ⟨(show (2 * C9 + 1) + 0 ≤ (2 * C9 + 2) from by omega), (show (4 * (2 * C9 + 1)) + 0 ≤ 4 * (2 * C9 + 2) from by omega)⟩) hS (fun q _ h => hFc q h) hFc (fun u t H locs ht hvm hw hB hz1 hk1 hS => ?_)
                  obtain ⟨b1, b2, b3⟩ := hB
                  rw [ht] at b1
                  obtain ⟨hP, hD, hK⟩ := JOINC (wc := (List.flatten ([[(q95, .inr (16, [.int 0, .int 0, .null, .null]))]] : List va_W))) (wr := (List.flatten ([[((p0a 0), .inr (14, [.ref xv, .int ((o_96.2) 0 1), .int ((o_96.2) 0 2), .int ((o_96.2) 0 3), .int ((o_96.2) 0 4), .ref (p0a 6), .null, .ref (p0a 8), .ref (p0a 9), .int ((o_96.2) 0 9), .int ((o_96.2) 0 10), .int ((o_96.2) 0 11), .int ((o_96.2) 0 12)]))], wt_96, wt_90] : List va_W))) (w1 := (List.flatten ([[(q95, .inr (16, [.int 2, .int (1 + (o_88.1)), .ref r90, .ref r96]))]] : List va_W))) (t1 := (List.flatten ([[]] : List (List (ClassId × FieldType))))) hPx hDx hKx hk1 hFc b1 (va_K.moved hvm.symm b2) b3
                  have hP : va_P (dC, dI) cls (List.flatten ([[(q95, .inr (16, [.int 2, .int (1 + (o_88.1)), .ref r90, .ref r96]))], [((p0a 0), .inr (14, [.ref xv, .int ((o_96.2) 0 1), .int ((o_96.2) 0 2), .int ((o_96.2) 0 3), .int ((o_96.2) 0 4), .ref (p0a 6), .null, .ref (p0a 8), .ref (p0a 9), .int ((o_96.2) 0 9), .int ((o_96.2) 0 10), .int ((o_96.2) 0 11), .int ((o_96.2) 0 12)]))], wt_96, wt_90] : List va_W)) H := vP_perm (vP_fb hP) (bP (List.Perm.refl _))
                  have hD : va_D A (List.flatten ([[(q95, .inr (16, [.int 2, .int (1 + (o_88.1)), .ref r90, .ref r96]))], [((p0a 0), .inr (14, [.ref xv, .int ((o_96.2) 0 1), .int ((o_96.2) 0 2), .int ((o_96.2) 0 3), .int ((o_96.2) 0 4), .ref (p0a 6), .null, .ref (p0a 8), .ref (p0a 9), .int ((o_96.2) 0 9), .int ((o_96.2) 0 10), .int ((o_96.2) 0 11), .int ((o_96.2) 0 12)]))], wt_96, wt_90] : List va_W)) := vD_perm (vD_fb hD) (bP (List.Perm.refl _))
                  have hK : va_K (dC, dI) cls (List.flatten ([[], [], [], []] : List (List (ClassId × FieldType)))) s := vK_perm (vK_fb hK) (bP (List.Perm.refl _))
                  have ho9 : ((pb2 2 (1 + (o_88.1)) (o_90.1) (o_96.1)), (o_96.2)) = o := Option.some.inj hrun
                  have hP : va_P (dC, dI) cls (List.flatten ([[((p0a 0), .inr (14, [.ref xv, .int ((o_96.2) 0 1), .int ((o_96.2) 0 2), .int ((o_96.2) 0 3), .int ((o_96.2) 0 4), .ref (p0a 6), .null, .ref (p0a 8), .ref (p0a 9), .int ((o_96.2) 0 9), .int ((o_96.2) 0 10), .int ((o_96.2) 0 11), .int ((o_96.2) 0 12)]))], [(q95, .inr (16, [.int 2, .int (1 + (o_88.1)), .ref r90, .ref r96]))], wt_96, wt_90] : List va_W)) H := vP_perm hP (bP ((((List.Perm.refl _)).cons _).trans (List.Perm.swap _ _ _)))
                  have hD : va_D A (List.flatten ([[((p0a 0), .inr (14, [.ref xv, .int ((o_96.2) 0 1), .int ((o_96.2) 0 2), .int ((o_96.2) 0 3), .int ((o_96.2) 0 4), .ref (p0a 6), .null, .ref (p0a 8), .ref (p0a 9), .int ((o_96.2) 0 9), .int ((o_96.2) 0 10), .int ((o_96.2) 0 11), .int ((o_96.2) 0 12)]))], [(q95, .inr (16, [.int 2, .int (1 + (o_88.1)), .ref r90, .ref r96]))], wt_96, wt_90] : List va_W)) := vD_perm hD (bP ((((List.Perm.refl _)).cons _).trans (List.Perm.swap _ _ _)))
                  subst ho9
                  subst hQ
                  have hph : ph9 (List.flatten ([[(q95, .inr (16, [.int 2, .int (1 + (o_88.1)), .ref r90, .ref r96]))], wt_96, wt_90] : List va_W)) (D9 + 1) q95 (pb2 2 (1 + (o_88.1)) (o_90.1) (o_96.1)) := (ph_2 (fl_mem 0 rfl (List.mem_singleton.mpr rfl)) hz97 (ph9_m (fun x hx => fl_mem 2 rfl hx) hph_wt_90) (ph9_m (fun x hx => fl_mem 1 rfl hx) hph_wt_96))
                  refine W.widen (k := (2 * C9 + 2)) (n := 4 * (2 * C9 + 2)) (by omega) (by omega) ?_
                  exact W.aret (v := .ref q95) (rt := .object RX14) hx hb hr (Or.inl ⟨_, rfl⟩) (Or.inr ⟨_, rfl⟩) (fun t ht hW => ⟨⟨(), q95, rfl, trivial, (List.flatten ([[(q95, .inr (16, [.int 2, .int (1 + (o_88.1)), .ref r90, .ref r96]))], wt_96, wt_90] : List va_W)), hph, by rw [ht, fl_two]; exact hP, va_K.moved hW.alike hK, by rw [fl_two]; exact hD⟩, hS.F ht⟩) hS.2.2 dX13_part_255
                · refine lv_if_ne (tgt := 256) hx hb dX13_part_234 (by decide) (fun _ => ?_) (fun c => absurd c hc94)
                  refine va_new (ci := 16) (fs := [.int 0, .int 0, .null, .null]) (C := RX14) (T := TX14) (N := 4) hx hb hts i_X14 tyX14 tyX14_ok hown (hts _ qw1568) (hts _ qw1569) (hts _ qw1570) hK hP hD hS hA rfl df_X14 (show (C9) + 1 ≤ (2 * C9 + 2) from by omega) (show (4 * (C9)) + 4 ≤ 4 * (2 * C9 + 2) from by omega) dX13_part_256 (fun q98 H hP hD hS => ?_)
                  replace hP := vP_new hP
                  replace hD := vD_new hD
                  have hP : va_P (dC, dI) cls (List.flatten ([[(q98, .inr (16, [.int 0, .int 0, .null, .null]))], [((p0a 0), .inr (14, [.ref xv, .int ((o_92.2) 0 1), .int ((o_92.2) 0 2), .int ((o_92.2) 0 3), .int ((o_92.2) 0 4), .ref (p0a 6), .null, .ref (p0a 8), .ref (p0a 9), .int ((o_92.2) 0 9), .int ((o_92.2) 0 10), .int ((o_92.2) 0 11), .int ((o_92.2) 0 12)]))], wt_90] : List va_W)) H := hP
                  have hD : va_D A (List.flatten ([[(q98, .inr (16, [.int 0, .int 0, .null, .null]))], [((p0a 0), .inr (14, [.ref xv, .int ((o_92.2) 0 1), .int ((o_92.2) 0 2), .int ((o_92.2) 0 3), .int ((o_92.2) 0 4), .ref (p0a 6), .null, .ref (p0a 8), .ref (p0a 9), .int ((o_92.2) 0 9), .int ((o_92.2) 0 10), .int ((o_92.2) 0 11), .int ((o_92.2) 0 12)]))], wt_90] : List va_W)) := hD
                  have hK : va_K (dC, dI) cls (List.flatten ([[], [], []] : List (List (ClassId × FieldType)))) s := hK
                  refine W.widen (k := (C9 + 1)) (n := (4 * (C9 + 1))) (by omega) (by omega) ?_
                  refine lv_dup hx hb dX13_part_259 rfl ?_
                  refine lv_iconst (v := 2) hx hb dX13_part_260 (by decide) ?_
                  refine lv_iload_n hx hb dX13_part_261 rfl (lv_at hl 1 rfl) ?_
                  refine lv_aload hx hb dX13_part_262 (lv_at hl 0 rfl) ?_
                  refine va_new (ci := 16) (fs := [.int 0, .int 0, .null, .null]) (C := RX14) (T := TX14) (N := 4) hx hb hts i_X14 tyX14 tyX14_ok hown (hts _ qw1568) (hts _ qw1569) (hts _ qw1570) hK hP hD hS hA rfl df_X14 (show (C9 + 1) + 1 ≤ (2 * C9 + 2) from by omega) (show (4 * (C9 + 1)) + 4 ≤ 4 * (2 * C9 + 2) from by omega) dX13_part_264 (fun q99 H hP hD hS => ?_)
                  replace hP := vP_new hP
                  replace hD := vD_new hD
                  have hP : va_P (dC, dI) cls (List.flatten ([[(q99, .inr (16, [.int 0, .int 0, .null, .null]))], [(q98, .inr (16, [.int 0, .int 0, .null, .null]))], [((p0a 0), .inr (14, [.ref xv, .int ((o_92.2) 0 1), .int ((o_92.2) 0 2), .int ((o_92.2) 0 3), .int ((o_92.2) 0 4), .ref (p0a 6), .null, .ref (p0a 8), .ref (p0a 9), .int ((o_92.2) 0 9), .int ((o_92.2) 0 10), .int ((o_92.2) 0 11), .int ((o_92.2) 0 12)]))], wt_90] : List va_W)) H := hP
                  have hD : va_D A (List.flatten ([[(q99, .inr (16, [.int 0, .int 0, .null, .null]))], [(q98, .inr (16, [.int 0, .int 0, .null, .null]))], [((p0a 0), .inr (14, [.ref xv, .int ((o_92.2) 0 1), .int ((o_92.2) 0 2), .int ((o_92.2) 0 3), .int ((o_92.2) 0 4), .ref (p0a 6), .null, .ref (p0a 8), .ref (p0a 9), .int ((o_92.2) 0 9), .int ((o_92.2) 0 10), .int ((o_92.2) 0 11), .int ((o_92.2) 0 12)]))], wt_90] : List va_W)) := hD
                  have hK : va_K (dC, dI) cls (List.flatten ([[], [], [], []] : List (List (ClassId × FieldType)))) s := hK
                  refine W.widen (k := (C9 + 2)) (n := (4 * (C9 + 2))) (by omega) (by omega) ?_
                  refine lv_dup hx hb dX13_part_267 rfl ?_
                  refine lv_iconst (v := 0) hx hb dX13_part_268 (by decide) ?_
                  refine lv_iconst (v := 1) hx hb dX13_part_269 (by decide) ?_
                  refine lv_aload_n hx hb dX13_part_270 rfl (lv_at hl 3 rfl) ?_
                  refine lv_bipush (v := 9) hx hb dX13_part_271 (by decide) ?_
                  obtain ⟨o_100, hc_100, hrun⟩ := bnd9 hrun
                  have hPx : va_P (dC, dI) cls ((List.flatten ([[((p0a 0), .inr (14, [.ref xv, .int ((o_92.2) 0 1), .int ((o_92.2) 0 2), .int ((o_92.2) 0 3), .int ((o_92.2) 0 4), .ref (p0a 6), .null, .ref (p0a 8), .ref (p0a 9), .int ((o_92.2) 0 9), .int ((o_92.2) 0 10), .int ((o_92.2) 0 11), .int ((o_92.2) 0 12)]))]] : List va_W)) ++ (List.flatten ([[(q99, .inr (16, [.int 0, .int 0, .null, .null]))], [(q98, .inr (16, [.int 0, .int 0, .null, .null]))], wt_90] : List va_W))) H := vP_fa (vP_perm hP (bP (((((((List.Perm.refl _)).cons _).trans (List.Perm.swap _ _ _))).cons _).trans (List.Perm.swap _ _ _))))
                  have hDx : va_D A ((List.flatten ([[((p0a 0), .inr (14, [.ref xv, .int ((o_92.2) 0 1), .int ((o_92.2) 0 2), .int ((o_92.2) 0 3), .int ((o_92.2) 0 4), .ref (p0a 6), .null, .ref (p0a 8), .ref (p0a 9), .int ((o_92.2) 0 9), .int ((o_92.2) 0 10), .int ((o_92.2) 0 11), .int ((o_92.2) 0 12)]))]] : List va_W)) ++ (List.flatten ([[(q99, .inr (16, [.int 0, .int 0, .null, .null]))], [(q98, .inr (16, [.int 0, .int 0, .null, .null]))], wt_90] : List va_W))) := vD_fa (vD_perm hD (bP (((((((List.Perm.refl _)).cons _).trans (List.Perm.swap _ _ _))).cons _).trans (List.Perm.swap _ _ _))))
                  have hKx : va_K (dC, dI) cls ((List.flatten ([[]] : List (List (ClassId × FieldType)))) ++ (List.flatten ([[], [], []] : List (List (ClassId × FieldType))))) s := vK_fa (vK_perm hK (bP (((((((List.Perm.refl _)).cons _).trans (List.Perm.swap _ _ _))).cons _).trans (List.Perm.swap _ _ _))))
                  have hPc := vP_l hPx
                  have hDc := vD_l hDx
                  have hKc := vK_l hKx
                  have hFc := vfree hDx hS hA
                  refine va_calli (sx_runV12 (As := [.int 9]) (rest := [.int 1, .int 0, .ref q99, .ref q99, .ref r90, .int (1 + (o_88.1)), .int 2, .ref q98, .ref q98]) ⟨hx, hb, hml, hown, hts⟩ (kX13_draw l dC dI (p0a := (st0 (p0a 0) (st1 p0a 1 xv))) (p0w := (o_92.2)) (p1 := 9) (xv := xv) (xm := xm) (xf := xf) (sz := _) (o := o_100) (hrun := hc_100)) (cwV 1 hts (gi_V qw1563 qw1564 qw1565 qw1566 (gi_z qw1562)) rfl rfl rfl (by decide +kernel) ⟨rmF (Nat.le_of_ble_eq_true rfl), rmL (Nat.le_of_ble_eq_true rfl)⟩) ⟨PRE.blind, va_recv hKc hPc (ci := 14) (q0 := 0) rfl rfl, PRE.of (ENV.add hE xq9_m hro_x) hS hFc hPc hKc hDc⟩ rfl rfl hl.1 rfl (lv_room12 (Nat.le_of_ble_eq_true rfl)) (rmL (Nat.le_of_ble_eq_true rfl)) dX13_part_273 ⟨(show (C9 + 2) + 0 ≤ (2 * C9 + 2) from by omega), (show (4 * (C9 + 2)) + 0 ≤ 4 * (2 * C9 + 2) from by omega)⟩) hS (fun q _ h => hFc q h) hFc (fun r101 u t H locs ht hvm hw hB hz1 hk1 hS => ?_)
                  obtain ⟨b1, b2, b3⟩ := hB
                  rw [ht] at b1
                  obtain ⟨hP, hD, hK⟩ := JOINC (wc := (List.flatten ([[((p0a 0), .inr (14, [.ref xv, .int ((o_92.2) 0 1), .int ((o_92.2) 0 2), .int ((o_92.2) 0 3), .int ((o_92.2) 0 4), .ref (p0a 6), .null, .ref (p0a 8), .ref (p0a 9), .int ((o_92.2) 0 9), .int ((o_92.2) 0 10), .int ((o_92.2) 0 11), .int ((o_92.2) 0 12)]))]] : List va_W))) (wr := (List.flatten ([[(q99, .inr (16, [.int 0, .int 0, .null, .null]))], [(q98, .inr (16, [.int 0, .int 0, .null, .null]))], wt_90] : List va_W))) (w1 := (List.flatten ([[((p0a 0), .inr (14, [.ref xv, .int ((o_100.2) 0 1), .int ((o_100.2) 0 2), .int ((o_100.2) 0 3), .int ((o_100.2) 0 4), .ref (p0a 6), .null, .ref (p0a 8), .ref (p0a 9), .int ((o_100.2) 0 9), .int ((o_100.2) 0 10), .int ((o_100.2) 0 11), .int ((o_100.2) 0 12)]))]] : List va_W))) (t1 := (List.flatten ([[]] : List (List (ClassId × FieldType))))) hPx hDx hKx hk1 hFc b1 (va_K.moved hvm.symm b2) b3
                  have hP : va_P (dC, dI) cls (List.flatten ([[(q99, .inr (16, [.int 0, .int 0, .null, .null]))], [(q98, .inr (16, [.int 0, .int 0, .null, .null]))], [((p0a 0), .inr (14, [.ref xv, .int ((o_100.2) 0 1), .int ((o_100.2) 0 2), .int ((o_100.2) 0 3), .int ((o_100.2) 0 4), .ref (p0a 6), .null, .ref (p0a 8), .ref (p0a 9), .int ((o_100.2) 0 9), .int ((o_100.2) 0 10), .int ((o_100.2) 0 11), .int ((o_100.2) 0 12)]))], wt_90] : List va_W)) H := vP_perm (vP_fb hP) (bP ((((((List.Perm.refl _)).cons _).trans (List.Perm.swap _ _ _))).trans ((((((List.Perm.refl _)).cons _).trans (List.Perm.swap _ _ _))).cons _)))
                  have hD : va_D A (List.flatten ([[(q99, .inr (16, [.int 0, .int 0, .null, .null]))], [(q98, .inr (16, [.int 0, .int 0, .null, .null]))], [((p0a 0), .inr (14, [.ref xv, .int ((o_100.2) 0 1), .int ((o_100.2) 0 2), .int ((o_100.2) 0 3), .int ((o_100.2) 0 4), .ref (p0a 6), .null, .ref (p0a 8), .ref (p0a 9), .int ((o_100.2) 0 9), .int ((o_100.2) 0 10), .int ((o_100.2) 0 11), .int ((o_100.2) 0 12)]))], wt_90] : List va_W)) := vD_perm (vD_fb hD) (bP ((((((List.Perm.refl _)).cons _).trans (List.Perm.swap _ _ _))).trans ((((((List.Perm.refl _)).cons _).trans (List.Perm.swap _ _ _))).cons _)))
                  have hK : va_K (dC, dI) cls (List.flatten ([[], [], [], []] : List (List (ClassId × FieldType)))) s := vK_perm (vK_fb hK) (bP ((((((List.Perm.refl _)).cons _).trans (List.Perm.swap _ _ _))).trans ((((((List.Perm.refl _)).cons _).trans (List.Perm.swap _ _ _))).cons _)))
                  obtain rfl : r101 = (o_100.1) := hw
                  refine lv_iadd hx hb dX13_part_276 ?_
                  refine lv_null hx hb dX13_part_277 ?_
                  refine lv_null hx hb dX13_part_278 ?_
                  obtain ⟨hz102, hrun⟩ := chk9 hrun
                  have hPx : va_P (dC, dI) cls ((List.flatten ([[(q99, .inr (16, [.int 0, .int 0, .null, .null]))]] : List va_W)) ++ (List.flatten ([[(q98, .inr (16, [.int 0, .int 0, .null, .null]))], [((p0a 0), .inr (14, [.ref xv, .int ((o_100.2) 0 1), .int ((o_100.2) 0 2), .int ((o_100.2) 0 3), .int ((o_100.2) 0 4), .ref (p0a 6), .null, .ref (p0a 8), .ref (p0a 9), .int ((o_100.2) 0 9), .int ((o_100.2) 0 10), .int ((o_100.2) 0 11), .int ((o_100.2) 0 12)]))], wt_90] : List va_W))) H := vP_fa (vP_perm hP (bP (List.Perm.refl _)))
                  have hDx : va_D A ((List.flatten ([[(q99, .inr (16, [.int 0, .int 0, .null, .null]))]] : List va_W)) ++ (List.flatten ([[(q98, .inr (16, [.int 0, .int 0, .null, .null]))], [((p0a 0), .inr (14, [.ref xv, .int ((o_100.2) 0 1), .int ((o_100.2) 0 2), .int ((o_100.2) 0 3), .int ((o_100.2) 0 4), .ref (p0a 6), .null, .ref (p0a 8), .ref (p0a 9), .int ((o_100.2) 0 9), .int ((o_100.2) 0 10), .int ((o_100.2) 0 11), .int ((o_100.2) 0 12)]))], wt_90] : List va_W))) := vD_fa (vD_perm hD (bP (List.Perm.refl _)))
                  have hKx : va_K (dC, dI) cls ((List.flatten ([[]] : List (List (ClassId × FieldType)))) ++ (List.flatten ([[], [], []] : List (List (ClassId × FieldType))))) s := vK_fa (vK_perm hK (bP (List.Perm.refl _)))
                  have hPc := vP_l hPx
                  have hDc := vD_l hDx
                  have hKc := vK_l hKx
                  have hFc := vfree hDx hS hA
                  refine va_callv (va_runI (As := [.int 0, .int (1 + (o_100.1)), .null, .null]) (rest := [.ref q99, .ref r90, .int (1 + (o_88.1)), .int 2, .ref q98, .ref q98]) ⟨hx, hb, hml, hown, hts⟩ (kX14_init_nn l dC dI (p0h := q99) (p1 := 0) (p2 := (1 + (o_100.1))) (sz := _)) (cwI 4 hts (gi_z qw1576) rfl rfl rfl (hts _ qw1570) (hts _ qw1577) (hts _ qw1578) rfl (by decide +kernel) ⟨rmF (Nat.le_of_ble_eq_true rfl), rmL (Nat.le_of_ble_eq_true rfl)⟩) ⟨PRE.blind, PRE.of hE hS hFc hPc hKc hDc⟩ rfl rfl hl.1 rfl (lv_room (Nat.le_of_ble_eq_true rfl)) dX13_part_279 ⟨(show (C9 + 2) + 0 ≤ (2 * C9 + 2) from by omega), (show (4 * (C9 + 2)) + 0 ≤ 4 * (2 * C9 + 2) from by omega)⟩) hS (fun q _ h => hFc q h) hFc (fun u t H locs ht hvm hw hB hz1 hk1 hS => ?_)
                  obtain ⟨b1, b2, b3⟩ := hB
                  rw [ht] at b1
                  obtain ⟨hP, hD, hK⟩ := JOINC (wc := (List.flatten ([[(q99, .inr (16, [.int 0, .int 0, .null, .null]))]] : List va_W))) (wr := (List.flatten ([[(q98, .inr (16, [.int 0, .int 0, .null, .null]))], [((p0a 0), .inr (14, [.ref xv, .int ((o_100.2) 0 1), .int ((o_100.2) 0 2), .int ((o_100.2) 0 3), .int ((o_100.2) 0 4), .ref (p0a 6), .null, .ref (p0a 8), .ref (p0a 9), .int ((o_100.2) 0 9), .int ((o_100.2) 0 10), .int ((o_100.2) 0 11), .int ((o_100.2) 0 12)]))], wt_90] : List va_W))) (w1 := (List.flatten ([[(q99, .inr (16, [.int 0, .int (1 + (o_100.1)), .null, .null]))]] : List va_W))) (t1 := (List.flatten ([[]] : List (List (ClassId × FieldType))))) hPx hDx hKx hk1 hFc b1 (va_K.moved hvm.symm b2) b3
                  have hP : va_P (dC, dI) cls (List.flatten ([[(q99, .inr (16, [.int 0, .int (1 + (o_100.1)), .null, .null]))], [(q98, .inr (16, [.int 0, .int 0, .null, .null]))], [((p0a 0), .inr (14, [.ref xv, .int ((o_100.2) 0 1), .int ((o_100.2) 0 2), .int ((o_100.2) 0 3), .int ((o_100.2) 0 4), .ref (p0a 6), .null, .ref (p0a 8), .ref (p0a 9), .int ((o_100.2) 0 9), .int ((o_100.2) 0 10), .int ((o_100.2) 0 11), .int ((o_100.2) 0 12)]))], wt_90] : List va_W)) H := vP_perm (vP_fb hP) (bP (List.Perm.refl _))
                  have hD : va_D A (List.flatten ([[(q99, .inr (16, [.int 0, .int (1 + (o_100.1)), .null, .null]))], [(q98, .inr (16, [.int 0, .int 0, .null, .null]))], [((p0a 0), .inr (14, [.ref xv, .int ((o_100.2) 0 1), .int ((o_100.2) 0 2), .int ((o_100.2) 0 3), .int ((o_100.2) 0 4), .ref (p0a 6), .null, .ref (p0a 8), .ref (p0a 9), .int ((o_100.2) 0 9), .int ((o_100.2) 0 10), .int ((o_100.2) 0 11), .int ((o_100.2) 0 12)]))], wt_90] : List va_W)) := vD_perm (vD_fb hD) (bP (List.Perm.refl _))
                  have hK : va_K (dC, dI) cls (List.flatten ([[], [], [], []] : List (List (ClassId × FieldType)))) s := vK_perm (vK_fb hK) (bP (List.Perm.refl _))
                  obtain ⟨hz103, hrun⟩ := chk9 hrun
                  have hPx : va_P (dC, dI) cls ((List.flatten ([[(q98, .inr (16, [.int 0, .int 0, .null, .null]))]] : List va_W)) ++ (List.flatten ([[(q99, .inr (16, [.int 0, .int (1 + (o_100.1)), .null, .null]))], [((p0a 0), .inr (14, [.ref xv, .int ((o_100.2) 0 1), .int ((o_100.2) 0 2), .int ((o_100.2) 0 3), .int ((o_100.2) 0 4), .ref (p0a 6), .null, .ref (p0a 8), .ref (p0a 9), .int ((o_100.2) 0 9), .int ((o_100.2) 0 10), .int ((o_100.2) 0 11), .int ((o_100.2) 0 12)]))], wt_90] : List va_W))) H := vP_fa (vP_perm hP (bP ((((List.Perm.refl _)).cons _).trans (List.Perm.swap _ _ _))))
                  have hDx : va_D A ((List.flatten ([[(q98, .inr (16, [.int 0, .int 0, .null, .null]))]] : List va_W)) ++ (List.flatten ([[(q99, .inr (16, [.int 0, .int (1 + (o_100.1)), .null, .null]))], [((p0a 0), .inr (14, [.ref xv, .int ((o_100.2) 0 1), .int ((o_100.2) 0 2), .int ((o_100.2) 0 3), .int ((o_100.2) 0 4), .ref (p0a 6), .null, .ref (p0a 8), .ref (p0a 9), .int ((o_100.2) 0 9), .int ((o_100.2) 0 10), .int ((o_100.2) 0 11), .int ((o_100.2) 0 12)]))], wt_90] : List va_W))) := vD_fa (vD_perm hD (bP ((((List.Perm.refl _)).cons _).trans (List.Perm.swap _ _ _))))
                  have hKx : va_K (dC, dI) cls ((List.flatten ([[]] : List (List (ClassId × FieldType)))) ++ (List.flatten ([[], [], []] : List (List (ClassId × FieldType))))) s := vK_fa (vK_perm hK (bP ((((List.Perm.refl _)).cons _).trans (List.Perm.swap _ _ _))))
                  have hPc := vP_l hPx
                  have hDc := vD_l hDx
                  have hKc := vK_l hKx
                  have hFc := vfree hDx hS hA
                  refine va_callv (va_runI (As := [.int 2, .int (1 + (o_88.1)), .ref r90, .ref q99]) (rest := [.ref q98]) ⟨hx, hb, hml, hown, hts⟩ (kX14_init_rr l dC dI (p0h := q98) (p1 := 2) (p2 := (1 + (o_88.1))) (p3h := r90) (p4h := q99) (sz := _)) (cwI 4 hts (gi_z qw1576) rfl rfl rfl (hts _ qw1570) (hts _ qw1577) (hts _ qw1578) rfl (by decide +kernel) ⟨rmF (Nat.le_of_ble_eq_true rfl), rmL (Nat.le_of_ble_eq_true rfl)⟩) ⟨PRE.blind, PRE.of hE hS hFc hPc hKc hDc⟩ rfl rfl hl.1 rfl (lv_room (Nat.le_of_ble_eq_true rfl)) dX13_part_282 ⟨(show (C9 + 2) + 0 ≤ (2 * C9 + 2) from by omega), (show (4 * (C9 + 2)) + 0 ≤ 4 * (2 * C9 + 2) from by omega)⟩) hS (fun q _ h => hFc q h) hFc (fun u t H locs ht hvm hw hB hz1 hk1 hS => ?_)
                  obtain ⟨b1, b2, b3⟩ := hB
                  rw [ht] at b1
                  obtain ⟨hP, hD, hK⟩ := JOINC (wc := (List.flatten ([[(q98, .inr (16, [.int 0, .int 0, .null, .null]))]] : List va_W))) (wr := (List.flatten ([[(q99, .inr (16, [.int 0, .int (1 + (o_100.1)), .null, .null]))], [((p0a 0), .inr (14, [.ref xv, .int ((o_100.2) 0 1), .int ((o_100.2) 0 2), .int ((o_100.2) 0 3), .int ((o_100.2) 0 4), .ref (p0a 6), .null, .ref (p0a 8), .ref (p0a 9), .int ((o_100.2) 0 9), .int ((o_100.2) 0 10), .int ((o_100.2) 0 11), .int ((o_100.2) 0 12)]))], wt_90] : List va_W))) (w1 := (List.flatten ([[(q98, .inr (16, [.int 2, .int (1 + (o_88.1)), .ref r90, .ref q99]))]] : List va_W))) (t1 := (List.flatten ([[]] : List (List (ClassId × FieldType))))) hPx hDx hKx hk1 hFc b1 (va_K.moved hvm.symm b2) b3
                  have hP : va_P (dC, dI) cls (List.flatten ([[(q99, .inr (16, [.int 0, .int (1 + (o_100.1)), .null, .null]))], [(q98, .inr (16, [.int 2, .int (1 + (o_88.1)), .ref r90, .ref q99]))], [((p0a 0), .inr (14, [.ref xv, .int ((o_100.2) 0 1), .int ((o_100.2) 0 2), .int ((o_100.2) 0 3), .int ((o_100.2) 0 4), .ref (p0a 6), .null, .ref (p0a 8), .ref (p0a 9), .int ((o_100.2) 0 9), .int ((o_100.2) 0 10), .int ((o_100.2) 0 11), .int ((o_100.2) 0 12)]))], wt_90] : List va_W)) H := vP_perm (vP_fb hP) (bP ((((List.Perm.refl _)).cons _).trans (List.Perm.swap _ _ _)))
                  have hD : va_D A (List.flatten ([[(q99, .inr (16, [.int 0, .int (1 + (o_100.1)), .null, .null]))], [(q98, .inr (16, [.int 2, .int (1 + (o_88.1)), .ref r90, .ref q99]))], [((p0a 0), .inr (14, [.ref xv, .int ((o_100.2) 0 1), .int ((o_100.2) 0 2), .int ((o_100.2) 0 3), .int ((o_100.2) 0 4), .ref (p0a 6), .null, .ref (p0a 8), .ref (p0a 9), .int ((o_100.2) 0 9), .int ((o_100.2) 0 10), .int ((o_100.2) 0 11), .int ((o_100.2) 0 12)]))], wt_90] : List va_W)) := vD_perm (vD_fb hD) (bP ((((List.Perm.refl _)).cons _).trans (List.Perm.swap _ _ _)))
                  have hK : va_K (dC, dI) cls (List.flatten ([[], [], [], []] : List (List (ClassId × FieldType)))) s := vK_perm (vK_fb hK) (bP ((((List.Perm.refl _)).cons _).trans (List.Perm.swap _ _ _)))
                  have ho9 : ((pb2 2 (1 + (o_88.1)) (o_90.1) (pb0 0 (1 + (o_100.1)))), (o_100.2)) = o := Option.some.inj hrun
                  have hP : va_P (dC, dI) cls (List.flatten ([[((p0a 0), .inr (14, [.ref xv, .int ((o_100.2) 0 1), .int ((o_100.2) 0 2), .int ((o_100.2) 0 3), .int ((o_100.2) 0 4), .ref (p0a 6), .null, .ref (p0a 8), .ref (p0a 9), .int ((o_100.2) 0 9), .int ((o_100.2) 0 10), .int ((o_100.2) 0 11), .int ((o_100.2) 0 12)]))], [(q99, .inr (16, [.int 0, .int (1 + (o_100.1)), .null, .null]))], [(q98, .inr (16, [.int 2, .int (1 + (o_88.1)), .ref r90, .ref q99]))], wt_90] : List va_W)) H := vP_perm hP (bP (((((((List.Perm.refl _)).cons _).trans (List.Perm.swap _ _ _))).cons _).trans (List.Perm.swap _ _ _)))
                  have hD : va_D A (List.flatten ([[((p0a 0), .inr (14, [.ref xv, .int ((o_100.2) 0 1), .int ((o_100.2) 0 2), .int ((o_100.2) 0 3), .int ((o_100.2) 0 4), .ref (p0a 6), .null, .ref (p0a 8), .ref (p0a 9), .int ((o_100.2) 0 9), .int ((o_100.2) 0 10), .int ((o_100.2) 0 11), .int ((o_100.2) 0 12)]))], [(q99, .inr (16, [.int 0, .int (1 + (o_100.1)), .null, .null]))], [(q98, .inr (16, [.int 2, .int (1 + (o_88.1)), .ref r90, .ref q99]))], wt_90] : List va_W)) := vD_perm hD (bP (((((((List.Perm.refl _)).cons _).trans (List.Perm.swap _ _ _))).cons _).trans (List.Perm.swap _ _ _)))
                  subst ho9
                  subst hQ
                  have hph : ph9 (List.flatten ([[(q99, .inr (16, [.int 0, .int (1 + (o_100.1)), .null, .null]))], [(q98, .inr (16, [.int 2, .int (1 + (o_88.1)), .ref r90, .ref q99]))], wt_90] : List va_W)) (D9 + 1) q98 (pb2 2 (1 + (o_88.1)) (o_90.1) (pb0 0 (1 + (o_100.1)))) := (ph_2L (fl_mem 1 rfl (List.mem_singleton.mpr rfl)) hz103 (ph9_m (fun x hx => fl_mem 2 rfl hx) hph_wt_90) (fl_mem 0 rfl (List.mem_singleton.mpr rfl)) hz102)
                  refine W.widen (k := (2 * C9 + 2)) (n := 4 * (2 * C9 + 2)) (by omega) (by omega) ?_
                  exact W.aret (v := .ref q98) (rt := .object RX14) hx hb hr (Or.inl ⟨_, rfl⟩) (Or.inr ⟨_, rfl⟩) (fun t ht hW => ⟨⟨(), q98, rfl, trivial, (List.flatten ([[(q99, .inr (16, [.int 0, .int (1 + (o_100.1)), .null, .null]))], [(q98, .inr (16, [.int 2, .int (1 + (o_88.1)), .ref r90, .ref q99]))], wt_90] : List va_W)), hph, by rw [ht, fl_two]; exact hP, va_K.moved hW.alike hK, by rw [fl_two]; exact hD⟩, hS.F ht⟩) hS.2.2 dX13_part_285
              · refine lv_icmp_eq (tgt := 229) hx hb dX13_part_221 (by decide) (fun c => absurd c hc91) (fun _ => ?_)
                refine lv_iload_n hx hb dX13_part_224 rfl (lv_at hl 1 rfl) ?_
                refine lv_iconst (v := 5) hx hb dX13_part_225 (by decide) ?_
                rcases br9 hrun with ⟨hc104, hrun⟩ | ⟨hc104, hrun⟩
                · refine lv_icmp_ne (tgt := 237) hx hb dX13_part_226 (by decide) (fun c => absurd hc104 c) (fun _ => ?_)
                  refine lv_aload_n hx hb dX13_part_229 rfl (lv_at hl 3 rfl) ?_
                  refine lv_iconst (v := 5) hx hb dX13_part_230 (by decide) ?_
                  obtain ⟨o_105, hc_105, hrun⟩ := bnd9 hrun
                  have hPx : va_P (dC, dI) cls ((List.flatten ([[((p0a 0), .inr (14, [.ref xv, .int ((o_90.2) 0 1), .int ((o_90.2) 0 2), .int ((o_90.2) 0 3), .int ((o_90.2) 0 4), .ref (p0a 6), .null, .ref (p0a 8), .ref (p0a 9), .int ((o_90.2) 0 9), .int ((o_90.2) 0 10), .int ((o_90.2) 0 11), .int ((o_90.2) 0 12)]))]] : List va_W)) ++ (List.flatten ([wt_90] : List va_W))) H := vP_fa (vP_perm hP (bP (List.Perm.refl _)))
                  have hDx : va_D A ((List.flatten ([[((p0a 0), .inr (14, [.ref xv, .int ((o_90.2) 0 1), .int ((o_90.2) 0 2), .int ((o_90.2) 0 3), .int ((o_90.2) 0 4), .ref (p0a 6), .null, .ref (p0a 8), .ref (p0a 9), .int ((o_90.2) 0 9), .int ((o_90.2) 0 10), .int ((o_90.2) 0 11), .int ((o_90.2) 0 12)]))]] : List va_W)) ++ (List.flatten ([wt_90] : List va_W))) := vD_fa (vD_perm hD (bP (List.Perm.refl _)))
                  have hKx : va_K (dC, dI) cls ((List.flatten ([[]] : List (List (ClassId × FieldType)))) ++ (List.flatten ([[]] : List (List (ClassId × FieldType))))) s := vK_fa (vK_perm hK (bP (List.Perm.refl _)))
                  have hPc := vP_l hPx
                  have hDc := vD_l hDx
                  have hKc := vK_l hKx
                  have hFc := vfree hDx hS hA
                  refine va_calli (va_runV (As := [.int 5]) (rest := []) ⟨hx, hb, hml, hown, hts⟩ (kX13_draw l dC dI (p0a := (st0 (p0a 0) (st1 p0a 1 xv))) (p0w := (o_90.2)) (p1 := 5) (xv := xv) (xm := xm) (xf := xf) (sz := _) (o := o_105) (hrun := hc_105)) (cwV 1 hts (gi_V qw1563 qw1564 qw1565 qw1566 (gi_z qw1562)) rfl rfl rfl (by decide +kernel) ⟨rmF (Nat.le_of_ble_eq_true rfl), rmL (Nat.le_of_ble_eq_true rfl)⟩) ⟨PRE.blind, va_recv hKc hPc (ci := 14) (q0 := 0) rfl rfl, PRE.of (ENV.add hE xq9_m hro_x) hS hFc hPc hKc hDc⟩ rfl rfl hl.1 rfl (lv_room (Nat.le_of_ble_eq_true rfl)) dX13_part_231 ⟨(show (C9) + 0 ≤ (2 * C9 + 2) from by omega), (show (4 * (C9)) + 0 ≤ 4 * (2 * C9 + 2) from by omega)⟩) hS (fun q _ h => hFc q h) hFc (fun r106 u t H locs ht hvm hw hB hz1 hk1 hS => ?_)
                  obtain ⟨b1, b2, b3⟩ := hB
                  rw [ht] at b1
                  obtain ⟨hP, hD, hK⟩ := JOINC (wc := (List.flatten ([[((p0a 0), .inr (14, [.ref xv, .int ((o_90.2) 0 1), .int ((o_90.2) 0 2), .int ((o_90.2) 0 3), .int ((o_90.2) 0 4), .ref (p0a 6), .null, .ref (p0a 8), .ref (p0a 9), .int ((o_90.2) 0 9), .int ((o_90.2) 0 10), .int ((o_90.2) 0 11), .int ((o_90.2) 0 12)]))]] : List va_W))) (wr := (List.flatten ([wt_90] : List va_W))) (w1 := (List.flatten ([[((p0a 0), .inr (14, [.ref xv, .int ((o_105.2) 0 1), .int ((o_105.2) 0 2), .int ((o_105.2) 0 3), .int ((o_105.2) 0 4), .ref (p0a 6), .null, .ref (p0a 8), .ref (p0a 9), .int ((o_105.2) 0 9), .int ((o_105.2) 0 10), .int ((o_105.2) 0 11), .int ((o_105.2) 0 12)]))]] : List va_W))) (t1 := (List.flatten ([[]] : List (List (ClassId × FieldType))))) hPx hDx hKx hk1 hFc b1 (va_K.moved hvm.symm b2) b3
                  have hP : va_P (dC, dI) cls (List.flatten ([[((p0a 0), .inr (14, [.ref xv, .int ((o_105.2) 0 1), .int ((o_105.2) 0 2), .int ((o_105.2) 0 3), .int ((o_105.2) 0 4), .ref (p0a 6), .null, .ref (p0a 8), .ref (p0a 9), .int ((o_105.2) 0 9), .int ((o_105.2) 0 10), .int ((o_105.2) 0 11), .int ((o_105.2) 0 12)]))], wt_90] : List va_W)) H := vP_perm (vP_fb hP) (bP (List.Perm.refl _))
                  have hD : va_D A (List.flatten ([[((p0a 0), .inr (14, [.ref xv, .int ((o_105.2) 0 1), .int ((o_105.2) 0 2), .int ((o_105.2) 0 3), .int ((o_105.2) 0 4), .ref (p0a 6), .null, .ref (p0a 8), .ref (p0a 9), .int ((o_105.2) 0 9), .int ((o_105.2) 0 10), .int ((o_105.2) 0 11), .int ((o_105.2) 0 12)]))], wt_90] : List va_W)) := vD_perm (vD_fb hD) (bP (List.Perm.refl _))
                  have hK : va_K (dC, dI) cls (List.flatten ([[], []] : List (List (ClassId × FieldType)))) s := vK_perm (vK_fb hK) (bP (List.Perm.refl _))
                  obtain rfl : r106 = (o_105.1) := hw
                  rcases br9 hrun with ⟨hc107, hrun⟩ | ⟨hc107, hrun⟩
                  · refine lv_if_ne (tgt := 256) hx hb dX13_part_234 (by decide) (fun c => absurd hc107 c) (fun _ => ?_)
                    refine va_new (ci := 16) (fs := [.int 0, .int 0, .null, .null]) (C := RX14) (T := TX14) (N := 4) hx hb hts i_X14 tyX14 tyX14_ok hown (hts _ qw1568) (hts _ qw1569) (hts _ qw1570) hK hP hD hS hA rfl df_X14 (show (C9) + 1 ≤ (2 * C9 + 2) from by omega) (show (4 * (C9)) + 4 ≤ 4 * (2 * C9 + 2) from by omega) dX13_part_237 (fun q108 H hP hD hS => ?_)
                    replace hP := vP_new hP
                    replace hD := vD_new hD
                    have hP : va_P (dC, dI) cls (List.flatten ([[(q108, .inr (16, [.int 0, .int 0, .null, .null]))], [((p0a 0), .inr (14, [.ref xv, .int ((o_105.2) 0 1), .int ((o_105.2) 0 2), .int ((o_105.2) 0 3), .int ((o_105.2) 0 4), .ref (p0a 6), .null, .ref (p0a 8), .ref (p0a 9), .int ((o_105.2) 0 9), .int ((o_105.2) 0 10), .int ((o_105.2) 0 11), .int ((o_105.2) 0 12)]))], wt_90] : List va_W)) H := hP
                    have hD : va_D A (List.flatten ([[(q108, .inr (16, [.int 0, .int 0, .null, .null]))], [((p0a 0), .inr (14, [.ref xv, .int ((o_105.2) 0 1), .int ((o_105.2) 0 2), .int ((o_105.2) 0 3), .int ((o_105.2) 0 4), .ref (p0a 6), .null, .ref (p0a 8), .ref (p0a 9), .int ((o_105.2) 0 9), .int ((o_105.2) 0 10), .int ((o_105.2) 0 11), .int ((o_105.2) 0 12)]))], wt_90] : List va_W)) := hD
                    have hK : va_K (dC, dI) cls (List.flatten ([[], [], []] : List (List (ClassId × FieldType)))) s := hK
                    refine W.widen (k := (C9 + 1)) (n := (4 * (C9 + 1))) (by omega) (by omega) ?_
                    refine lv_dup hx hb dX13_part_240 rfl ?_
                    refine lv_iconst (v := 2) hx hb dX13_part_241 (by decide) ?_
                    refine lv_iload_n hx hb dX13_part_242 rfl (lv_at hl 1 rfl) ?_
                    refine lv_aload hx hb dX13_part_243 (lv_at hl 0 rfl) ?_
                    refine lv_aload_n hx hb dX13_part_245 rfl (lv_at hl 3 rfl) ?_
                    refine lv_iload_n hx hb dX13_part_246 rfl (lv_at hl 4 rfl) ?_
                    refine lv_iconst (v := 1) hx hb dX13_part_247 (by decide) ?_
                    refine lv_isub hx hb dX13_part_248 ?_
                    obtain ⟨o_109, hc_109, hrun⟩ := bnd9 hrun
                    have hPx : va_P (dC, dI) cls ((List.flatten ([[((p0a 0), .inr (14, [.ref xv, .int ((o_105.2) 0 1), .int ((o_105.2) 0 2), .int ((o_105.2) 0 3), .int ((o_105.2) 0 4), .ref (p0a 6), .null, .ref (p0a 8), .ref (p0a 9), .int ((o_105.2) 0 9), .int ((o_105.2) 0 10), .int ((o_105.2) 0 11), .int ((o_105.2) 0 12)]))]] : List va_W)) ++ (List.flatten ([[(q108, .inr (16, [.int 0, .int 0, .null, .null]))], wt_90] : List va_W))) H := vP_fa (vP_perm hP (bP ((((List.Perm.refl _)).cons _).trans (List.Perm.swap _ _ _))))
                    have hDx : va_D A ((List.flatten ([[((p0a 0), .inr (14, [.ref xv, .int ((o_105.2) 0 1), .int ((o_105.2) 0 2), .int ((o_105.2) 0 3), .int ((o_105.2) 0 4), .ref (p0a 6), .null, .ref (p0a 8), .ref (p0a 9), .int ((o_105.2) 0 9), .int ((o_105.2) 0 10), .int ((o_105.2) 0 11), .int ((o_105.2) 0 12)]))]] : List va_W)) ++ (List.flatten ([[(q108, .inr (16, [.int 0, .int 0, .null, .null]))], wt_90] : List va_W))) := vD_fa (vD_perm hD (bP ((((List.Perm.refl _)).cons _).trans (List.Perm.swap _ _ _))))
                    have hKx : va_K (dC, dI) cls ((List.flatten ([[]] : List (List (ClassId × FieldType)))) ++ (List.flatten ([[], []] : List (List (ClassId × FieldType))))) s := vK_fa (vK_perm hK (bP ((((List.Perm.refl _)).cons _).trans (List.Perm.swap _ _ _))))
                    have hPc := vP_l hPx
                    have hDc := vD_l hDx
                    have hKc := vK_l hKx
                    have hFc := vfree hDx hS hA
                    refine va_callr (va_runV (As := [.int (p1 - 1)]) (rest := [.ref r90, .int (1 + (o_88.1)), .int 2, .ref q108, .ref q108]) ⟨hx, hb, hml, hown, hts⟩ (hkk_part dC dI (p0a := p0a) (p0w := (o_105.2)) (p1 := (p1 - 1)) (sz := _) (o := o_109) (hrun := hc_109)) (cwV 1 hts (gi_V qw1580 qw1581 qw1582 qw1566 (gi_z qw1579)) rfl rfl rfl (by decide +kernel) ⟨rmF9, rmL9 (n := 24) (Nat.le_of_ble_eq_true rfl)⟩) ⟨PRE.blind, va_recv hKc hPc (ci := 14) (q0 := 0) rfl rfl, PRE.of (ENV.add hE xq9_m hro_x) hS hFc hPc hKc hDc⟩ rfl rfl hl.1 rfl (lv_room (Nat.le_of_ble_eq_true rfl)) dX13_part_249 ⟨(show (C9 + 1) + C9 ≤ (2 * C9 + 2) from by omega), (show (4 * (C9 + 1)) + 4 * C9 ≤ 4 * (2 * C9 + 2) from by omega)⟩) hS (fun q _ h => hFc q h) hFc (fun u r109 t H locs ht hvm hw hB hz1 hk1 hS => ?_)
                    obtain ⟨wt_109, hph_wt_109, hB⟩ := hB
                    obtain ⟨b1, b2, b3⟩ := hB
                    rw [ht] at b1
                    obtain ⟨hP, hD, hK⟩ := JOINC (wc := (List.flatten ([[((p0a 0), .inr (14, [.ref xv, .int ((o_105.2) 0 1), .int ((o_105.2) 0 2), .int ((o_105.2) 0 3), .int ((o_105.2) 0 4), .ref (p0a 6), .null, .ref (p0a 8), .ref (p0a 9), .int ((o_105.2) 0 9), .int ((o_105.2) 0 10), .int ((o_105.2) 0 11), .int ((o_105.2) 0 12)]))]] : List va_W))) (wr := (List.flatten ([[(q108, .inr (16, [.int 0, .int 0, .null, .null]))], wt_90] : List va_W))) (w1 := (List.flatten ([[((p0a 0), .inr (14, [.ref xv, .int ((o_109.2) 0 1), .int ((o_109.2) 0 2), .int ((o_109.2) 0 3), .int ((o_109.2) 0 4), .ref (p0a 6), .null, .ref (p0a 8), .ref (p0a 9), .int ((o_109.2) 0 9), .int ((o_109.2) 0 10), .int ((o_109.2) 0 11), .int ((o_109.2) 0 12)]))], wt_109] : List va_W))) (t1 := (List.flatten ([[], []] : List (List (ClassId × FieldType))))) hPx hDx hKx hk1 hFc b1 (va_K.moved hvm.symm b2) b3
                    have hP : va_P (dC, dI) cls (List.flatten ([[(q108, .inr (16, [.int 0, .int 0, .null, .null]))], [((p0a 0), .inr (14, [.ref xv, .int ((o_109.2) 0 1), .int ((o_109.2) 0 2), .int ((o_109.2) 0 3), .int ((o_109.2) 0 4), .ref (p0a 6), .null, .ref (p0a 8), .ref (p0a 9), .int ((o_109.2) 0 9), .int ((o_109.2) 0 10), .int ((o_109.2) 0 11), .int ((o_109.2) 0 12)]))], wt_109, wt_90] : List va_W)) H := vP_perm (vP_fb hP) (bP (((((((List.Perm.refl _)).cons _).trans (List.Perm.swap _ _ _))).cons _).trans (List.Perm.swap _ _ _)))
                    have hD : va_D A (List.flatten ([[(q108, .inr (16, [.int 0, .int 0, .null, .null]))], [((p0a 0), .inr (14, [.ref xv, .int ((o_109.2) 0 1), .int ((o_109.2) 0 2), .int ((o_109.2) 0 3), .int ((o_109.2) 0 4), .ref (p0a 6), .null, .ref (p0a 8), .ref (p0a 9), .int ((o_109.2) 0 9), .int ((o_109.2) 0 10), .int ((o_109.2) 0 11), .int ((o_109.2) 0 12)]))], wt_109, wt_90] : List va_W)) := vD_perm (vD_fb hD) (bP (((((((List.Perm.refl _)).cons _).trans (List.Perm.swap _ _ _))).cons _).trans (List.Perm.swap _ _ _)))
                    have hK : va_K (dC, dI) cls (List.flatten ([[], [], [], []] : List (List (ClassId × FieldType)))) s := vK_perm (vK_fb hK) (bP (((((((List.Perm.refl _)).cons _).trans (List.Perm.swap _ _ _))).cons _).trans (List.Perm.swap _ _ _)))
                    refine W.widen (k := (2 * C9 + 1)) (n := (4 * (2 * C9 + 1))) (by omega) (by omega) ?_
                    obtain ⟨hz110, hrun⟩ := chk9 hrun
                    have hPx : va_P (dC, dI) cls ((List.flatten ([[(q108, .inr (16, [.int 0, .int 0, .null, .null]))]] : List va_W)) ++ (List.flatten ([[((p0a 0), .inr (14, [.ref xv, .int ((o_109.2) 0 1), .int ((o_109.2) 0 2), .int ((o_109.2) 0 3), .int ((o_109.2) 0 4), .ref (p0a 6), .null, .ref (p0a 8), .ref (p0a 9), .int ((o_109.2) 0 9), .int ((o_109.2) 0 10), .int ((o_109.2) 0 11), .int ((o_109.2) 0 12)]))], wt_109, wt_90] : List va_W))) H := vP_fa (vP_perm hP (bP (List.Perm.refl _)))
                    have hDx : va_D A ((List.flatten ([[(q108, .inr (16, [.int 0, .int 0, .null, .null]))]] : List va_W)) ++ (List.flatten ([[((p0a 0), .inr (14, [.ref xv, .int ((o_109.2) 0 1), .int ((o_109.2) 0 2), .int ((o_109.2) 0 3), .int ((o_109.2) 0 4), .ref (p0a 6), .null, .ref (p0a 8), .ref (p0a 9), .int ((o_109.2) 0 9), .int ((o_109.2) 0 10), .int ((o_109.2) 0 11), .int ((o_109.2) 0 12)]))], wt_109, wt_90] : List va_W))) := vD_fa (vD_perm hD (bP (List.Perm.refl _)))
                    have hKx : va_K (dC, dI) cls ((List.flatten ([[]] : List (List (ClassId × FieldType)))) ++ (List.flatten ([[], [], []] : List (List (ClassId × FieldType))))) s := vK_fa (vK_perm hK (bP (List.Perm.refl _)))
                    have hPc := vP_l hPx
                    have hDc := vD_l hDx
                    have hKc := vK_l hKx
                    have hFc := vfree hDx hS hA
                    refine va_callv (va_runI (As := [.int 2, .int (1 + (o_88.1)), .ref r90, .ref r109]) (rest := [.ref q108]) ⟨hx, hb, hml, hown, hts⟩ (kX14_init_rr l dC dI (p0h := q108) (p1 := 2) (p2 := (1 + (o_88.1))) (p3h := r90) (p4h := r109) (sz := _)) (cwI 4 hts (gi_z qw1576) rfl rfl rfl (hts _ qw1570) (hts _ qw1577) (hts _ qw1578) rfl (by decide +kernel) ⟨rmF (Nat.le_of_ble_eq_true rfl), rmL (Nat.le_of_ble_eq_true rfl)⟩) ⟨PRE.blind, PRE.of hE hS hFc hPc hKc hDc⟩ rfl rfl hl.1 rfl (lv_room (Nat.le_of_ble_eq_true rfl)) dX13_part_252 ⟨(show (2 * C9 + 1) + 0 ≤ (2 * C9 + 2) from by omega), (show (4 * (2 * C9 + 1)) + 0 ≤ 4 * (2 * C9 + 2) from by omega)⟩) hS (fun q _ h => hFc q h) hFc (fun u t H locs ht hvm hw hB hz1 hk1 hS => ?_)
                    obtain ⟨b1, b2, b3⟩ := hB
                    rw [ht] at b1
                    obtain ⟨hP, hD, hK⟩ := JOINC (wc := (List.flatten ([[(q108, .inr (16, [.int 0, .int 0, .null, .null]))]] : List va_W))) (wr := (List.flatten ([[((p0a 0), .inr (14, [.ref xv, .int ((o_109.2) 0 1), .int ((o_109.2) 0 2), .int ((o_109.2) 0 3), .int ((o_109.2) 0 4), .ref (p0a 6), .null, .ref (p0a 8), .ref (p0a 9), .int ((o_109.2) 0 9), .int ((o_109.2) 0 10), .int ((o_109.2) 0 11), .int ((o_109.2) 0 12)]))], wt_109, wt_90] : List va_W))) (w1 := (List.flatten ([[(q108, .inr (16, [.int 2, .int (1 + (o_88.1)), .ref r90, .ref r109]))]] : List va_W))) (t1 := (List.flatten ([[]] : List (List (ClassId × FieldType))))) hPx hDx hKx hk1 hFc b1 (va_K.moved hvm.symm b2) b3
                    have hP : va_P (dC, dI) cls (List.flatten ([[(q108, .inr (16, [.int 2, .int (1 + (o_88.1)), .ref r90, .ref r109]))], [((p0a 0), .inr (14, [.ref xv, .int ((o_109.2) 0 1), .int ((o_109.2) 0 2), .int ((o_109.2) 0 3), .int ((o_109.2) 0 4), .ref (p0a 6), .null, .ref (p0a 8), .ref (p0a 9), .int ((o_109.2) 0 9), .int ((o_109.2) 0 10), .int ((o_109.2) 0 11), .int ((o_109.2) 0 12)]))], wt_109, wt_90] : List va_W)) H := vP_perm (vP_fb hP) (bP (List.Perm.refl _))
                    have hD : va_D A (List.flatten ([[(q108, .inr (16, [.int 2, .int (1 + (o_88.1)), .ref r90, .ref r109]))], [((p0a 0), .inr (14, [.ref xv, .int ((o_109.2) 0 1), .int ((o_109.2) 0 2), .int ((o_109.2) 0 3), .int ((o_109.2) 0 4), .ref (p0a 6), .null, .ref (p0a 8), .ref (p0a 9), .int ((o_109.2) 0 9), .int ((o_109.2) 0 10), .int ((o_109.2) 0 11), .int ((o_109.2) 0 12)]))], wt_109, wt_90] : List va_W)) := vD_perm (vD_fb hD) (bP (List.Perm.refl _))
                    have hK : va_K (dC, dI) cls (List.flatten ([[], [], [], []] : List (List (ClassId × FieldType)))) s := vK_perm (vK_fb hK) (bP (List.Perm.refl _))
                    have ho9 : ((pb2 2 (1 + (o_88.1)) (o_90.1) (o_109.1)), (o_109.2)) = o := Option.some.inj hrun
                    have hP : va_P (dC, dI) cls (List.flatten ([[((p0a 0), .inr (14, [.ref xv, .int ((o_109.2) 0 1), .int ((o_109.2) 0 2), .int ((o_109.2) 0 3), .int ((o_109.2) 0 4), .ref (p0a 6), .null, .ref (p0a 8), .ref (p0a 9), .int ((o_109.2) 0 9), .int ((o_109.2) 0 10), .int ((o_109.2) 0 11), .int ((o_109.2) 0 12)]))], [(q108, .inr (16, [.int 2, .int (1 + (o_88.1)), .ref r90, .ref r109]))], wt_109, wt_90] : List va_W)) H := vP_perm hP (bP ((((List.Perm.refl _)).cons _).trans (List.Perm.swap _ _ _)))
                    have hD : va_D A (List.flatten ([[((p0a 0), .inr (14, [.ref xv, .int ((o_109.2) 0 1), .int ((o_109.2) 0 2), .int ((o_109.2) 0 3), .int ((o_109.2) 0 4), .ref (p0a 6), .null, .ref (p0a 8), .ref (p0a 9), .int ((o_109.2) 0 9), .int ((o_109.2) 0 10), .int ((o_109.2) 0 11), .int ((o_109.2) 0 12)]))], [(q108, .inr (16, [.int 2, .int (1 + (o_88.1)), .ref r90, .ref r109]))], wt_109, wt_90] : List va_W)) := vD_perm hD (bP ((((List.Perm.refl _)).cons _).trans (List.Perm.swap _ _ _)))
                    subst ho9
                    subst hQ
                    have hph : ph9 (List.flatten ([[(q108, .inr (16, [.int 2, .int (1 + (o_88.1)), .ref r90, .ref r109]))], wt_109, wt_90] : List va_W)) (D9 + 1) q108 (pb2 2 (1 + (o_88.1)) (o_90.1) (o_109.1)) := (ph_2 (fl_mem 0 rfl (List.mem_singleton.mpr rfl)) hz110 (ph9_m (fun x hx => fl_mem 2 rfl hx) hph_wt_90) (ph9_m (fun x hx => fl_mem 1 rfl hx) hph_wt_109))
                    refine W.widen (k := (2 * C9 + 2)) (n := 4 * (2 * C9 + 2)) (by omega) (by omega) ?_
                    exact W.aret (v := .ref q108) (rt := .object RX14) hx hb hr (Or.inl ⟨_, rfl⟩) (Or.inr ⟨_, rfl⟩) (fun t ht hW => ⟨⟨(), q108, rfl, trivial, (List.flatten ([[(q108, .inr (16, [.int 2, .int (1 + (o_88.1)), .ref r90, .ref r109]))], wt_109, wt_90] : List va_W)), hph, by rw [ht, fl_two]; exact hP, va_K.moved hW.alike hK, by rw [fl_two]; exact hD⟩, hS.F ht⟩) hS.2.2 dX13_part_255
                  · refine lv_if_ne (tgt := 256) hx hb dX13_part_234 (by decide) (fun _ => ?_) (fun c => absurd c hc107)
                    refine va_new (ci := 16) (fs := [.int 0, .int 0, .null, .null]) (C := RX14) (T := TX14) (N := 4) hx hb hts i_X14 tyX14 tyX14_ok hown (hts _ qw1568) (hts _ qw1569) (hts _ qw1570) hK hP hD hS hA rfl df_X14 (show (C9) + 1 ≤ (2 * C9 + 2) from by omega) (show (4 * (C9)) + 4 ≤ 4 * (2 * C9 + 2) from by omega) dX13_part_256 (fun q111 H hP hD hS => ?_)
                    replace hP := vP_new hP
                    replace hD := vD_new hD
                    have hP : va_P (dC, dI) cls (List.flatten ([[(q111, .inr (16, [.int 0, .int 0, .null, .null]))], [((p0a 0), .inr (14, [.ref xv, .int ((o_105.2) 0 1), .int ((o_105.2) 0 2), .int ((o_105.2) 0 3), .int ((o_105.2) 0 4), .ref (p0a 6), .null, .ref (p0a 8), .ref (p0a 9), .int ((o_105.2) 0 9), .int ((o_105.2) 0 10), .int ((o_105.2) 0 11), .int ((o_105.2) 0 12)]))], wt_90] : List va_W)) H := hP
                    have hD : va_D A (List.flatten ([[(q111, .inr (16, [.int 0, .int 0, .null, .null]))], [((p0a 0), .inr (14, [.ref xv, .int ((o_105.2) 0 1), .int ((o_105.2) 0 2), .int ((o_105.2) 0 3), .int ((o_105.2) 0 4), .ref (p0a 6), .null, .ref (p0a 8), .ref (p0a 9), .int ((o_105.2) 0 9), .int ((o_105.2) 0 10), .int ((o_105.2) 0 11), .int ((o_105.2) 0 12)]))], wt_90] : List va_W)) := hD
                    have hK : va_K (dC, dI) cls (List.flatten ([[], [], []] : List (List (ClassId × FieldType)))) s := hK
                    refine W.widen (k := (C9 + 1)) (n := (4 * (C9 + 1))) (by omega) (by omega) ?_
                    refine lv_dup hx hb dX13_part_259 rfl ?_
                    refine lv_iconst (v := 2) hx hb dX13_part_260 (by decide) ?_
                    refine lv_iload_n hx hb dX13_part_261 rfl (lv_at hl 1 rfl) ?_
                    refine lv_aload hx hb dX13_part_262 (lv_at hl 0 rfl) ?_
                    refine va_new (ci := 16) (fs := [.int 0, .int 0, .null, .null]) (C := RX14) (T := TX14) (N := 4) hx hb hts i_X14 tyX14 tyX14_ok hown (hts _ qw1568) (hts _ qw1569) (hts _ qw1570) hK hP hD hS hA rfl df_X14 (show (C9 + 1) + 1 ≤ (2 * C9 + 2) from by omega) (show (4 * (C9 + 1)) + 4 ≤ 4 * (2 * C9 + 2) from by omega) dX13_part_264 (fun q112 H hP hD hS => ?_)
                    replace hP := vP_new hP
                    replace hD := vD_new hD
                    have hP : va_P (dC, dI) cls (List.flatten ([[(q112, .inr (16, [.int 0, .int 0, .null, .null]))], [(q111, .inr (16, [.int 0, .int 0, .null, .null]))], [((p0a 0), .inr (14, [.ref xv, .int ((o_105.2) 0 1), .int ((o_105.2) 0 2), .int ((o_105.2) 0 3), .int ((o_105.2) 0 4), .ref (p0a 6), .null, .ref (p0a 8), .ref (p0a 9), .int ((o_105.2) 0 9), .int ((o_105.2) 0 10), .int ((o_105.2) 0 11), .int ((o_105.2) 0 12)]))], wt_90] : List va_W)) H := hP
                    have hD : va_D A (List.flatten ([[(q112, .inr (16, [.int 0, .int 0, .null, .null]))], [(q111, .inr (16, [.int 0, .int 0, .null, .null]))], [((p0a 0), .inr (14, [.ref xv, .int ((o_105.2) 0 1), .int ((o_105.2) 0 2), .int ((o_105.2) 0 3), .int ((o_105.2) 0 4), .ref (p0a 6), .null, .ref (p0a 8), .ref (p0a 9), .int ((o_105.2) 0 9), .int ((o_105.2) 0 10), .int ((o_105.2) 0 11), .int ((o_105.2) 0 12)]))], wt_90] : List va_W)) := hD
                    have hK : va_K (dC, dI) cls (List.flatten ([[], [], [], []] : List (List (ClassId × FieldType)))) s := hK
                    refine W.widen (k := (C9 + 2)) (n := (4 * (C9 + 2))) (by omega) (by omega) ?_
                    refine lv_dup hx hb dX13_part_267 rfl ?_
                    refine lv_iconst (v := 0) hx hb dX13_part_268 (by decide) ?_
                    refine lv_iconst (v := 1) hx hb dX13_part_269 (by decide) ?_
                    refine lv_aload_n hx hb dX13_part_270 rfl (lv_at hl 3 rfl) ?_
                    refine lv_bipush (v := 9) hx hb dX13_part_271 (by decide) ?_
                    obtain ⟨o_113, hc_113, hrun⟩ := bnd9 hrun
                    have hPx : va_P (dC, dI) cls ((List.flatten ([[((p0a 0), .inr (14, [.ref xv, .int ((o_105.2) 0 1), .int ((o_105.2) 0 2), .int ((o_105.2) 0 3), .int ((o_105.2) 0 4), .ref (p0a 6), .null, .ref (p0a 8), .ref (p0a 9), .int ((o_105.2) 0 9), .int ((o_105.2) 0 10), .int ((o_105.2) 0 11), .int ((o_105.2) 0 12)]))]] : List va_W)) ++ (List.flatten ([[(q112, .inr (16, [.int 0, .int 0, .null, .null]))], [(q111, .inr (16, [.int 0, .int 0, .null, .null]))], wt_90] : List va_W))) H := vP_fa (vP_perm hP (bP (((((((List.Perm.refl _)).cons _).trans (List.Perm.swap _ _ _))).cons _).trans (List.Perm.swap _ _ _))))
                    have hDx : va_D A ((List.flatten ([[((p0a 0), .inr (14, [.ref xv, .int ((o_105.2) 0 1), .int ((o_105.2) 0 2), .int ((o_105.2) 0 3), .int ((o_105.2) 0 4), .ref (p0a 6), .null, .ref (p0a 8), .ref (p0a 9), .int ((o_105.2) 0 9), .int ((o_105.2) 0 10), .int ((o_105.2) 0 11), .int ((o_105.2) 0 12)]))]] : List va_W)) ++ (List.flatten ([[(q112, .inr (16, [.int 0, .int 0, .null, .null]))], [(q111, .inr (16, [.int 0, .int 0, .null, .null]))], wt_90] : List va_W))) := vD_fa (vD_perm hD (bP (((((((List.Perm.refl _)).cons _).trans (List.Perm.swap _ _ _))).cons _).trans (List.Perm.swap _ _ _))))
                    have hKx : va_K (dC, dI) cls ((List.flatten ([[]] : List (List (ClassId × FieldType)))) ++ (List.flatten ([[], [], []] : List (List (ClassId × FieldType))))) s := vK_fa (vK_perm hK (bP (((((((List.Perm.refl _)).cons _).trans (List.Perm.swap _ _ _))).cons _).trans (List.Perm.swap _ _ _))))
                    have hPc := vP_l hPx
                    have hDc := vD_l hDx
                    have hKc := vK_l hKx
                    have hFc := vfree hDx hS hA
                    refine va_calli (sx_runV12 (As := [.int 9]) (rest := [.int 1, .int 0, .ref q112, .ref q112, .ref r90, .int (1 + (o_88.1)), .int 2, .ref q111, .ref q111]) ⟨hx, hb, hml, hown, hts⟩ (kX13_draw l dC dI (p0a := (st0 (p0a 0) (st1 p0a 1 xv))) (p0w := (o_105.2)) (p1 := 9) (xv := xv) (xm := xm) (xf := xf) (sz := _) (o := o_113) (hrun := hc_113)) (cwV 1 hts (gi_V qw1563 qw1564 qw1565 qw1566 (gi_z qw1562)) rfl rfl rfl (by decide +kernel) ⟨rmF (Nat.le_of_ble_eq_true rfl), rmL (Nat.le_of_ble_eq_true rfl)⟩) ⟨PRE.blind, va_recv hKc hPc (ci := 14) (q0 := 0) rfl rfl, PRE.of (ENV.add hE xq9_m hro_x) hS hFc hPc hKc hDc⟩ rfl rfl hl.1 rfl (lv_room12 (Nat.le_of_ble_eq_true rfl)) (rmL (Nat.le_of_ble_eq_true rfl)) dX13_part_273 ⟨(show (C9 + 2) + 0 ≤ (2 * C9 + 2) from by omega), (show (4 * (C9 + 2)) + 0 ≤ 4 * (2 * C9 + 2) from by omega)⟩) hS (fun q _ h => hFc q h) hFc (fun r114 u t H locs ht hvm hw hB hz1 hk1 hS => ?_)
                    obtain ⟨b1, b2, b3⟩ := hB
                    rw [ht] at b1
                    obtain ⟨hP, hD, hK⟩ := JOINC (wc := (List.flatten ([[((p0a 0), .inr (14, [.ref xv, .int ((o_105.2) 0 1), .int ((o_105.2) 0 2), .int ((o_105.2) 0 3), .int ((o_105.2) 0 4), .ref (p0a 6), .null, .ref (p0a 8), .ref (p0a 9), .int ((o_105.2) 0 9), .int ((o_105.2) 0 10), .int ((o_105.2) 0 11), .int ((o_105.2) 0 12)]))]] : List va_W))) (wr := (List.flatten ([[(q112, .inr (16, [.int 0, .int 0, .null, .null]))], [(q111, .inr (16, [.int 0, .int 0, .null, .null]))], wt_90] : List va_W))) (w1 := (List.flatten ([[((p0a 0), .inr (14, [.ref xv, .int ((o_113.2) 0 1), .int ((o_113.2) 0 2), .int ((o_113.2) 0 3), .int ((o_113.2) 0 4), .ref (p0a 6), .null, .ref (p0a 8), .ref (p0a 9), .int ((o_113.2) 0 9), .int ((o_113.2) 0 10), .int ((o_113.2) 0 11), .int ((o_113.2) 0 12)]))]] : List va_W))) (t1 := (List.flatten ([[]] : List (List (ClassId × FieldType))))) hPx hDx hKx hk1 hFc b1 (va_K.moved hvm.symm b2) b3
                    have hP : va_P (dC, dI) cls (List.flatten ([[(q112, .inr (16, [.int 0, .int 0, .null, .null]))], [(q111, .inr (16, [.int 0, .int 0, .null, .null]))], [((p0a 0), .inr (14, [.ref xv, .int ((o_113.2) 0 1), .int ((o_113.2) 0 2), .int ((o_113.2) 0 3), .int ((o_113.2) 0 4), .ref (p0a 6), .null, .ref (p0a 8), .ref (p0a 9), .int ((o_113.2) 0 9), .int ((o_113.2) 0 10), .int ((o_113.2) 0 11), .int ((o_113.2) 0 12)]))], wt_90] : List va_W)) H := vP_perm (vP_fb hP) (bP ((((((List.Perm.refl _)).cons _).trans (List.Perm.swap _ _ _))).trans ((((((List.Perm.refl _)).cons _).trans (List.Perm.swap _ _ _))).cons _)))
                    have hD : va_D A (List.flatten ([[(q112, .inr (16, [.int 0, .int 0, .null, .null]))], [(q111, .inr (16, [.int 0, .int 0, .null, .null]))], [((p0a 0), .inr (14, [.ref xv, .int ((o_113.2) 0 1), .int ((o_113.2) 0 2), .int ((o_113.2) 0 3), .int ((o_113.2) 0 4), .ref (p0a 6), .null, .ref (p0a 8), .ref (p0a 9), .int ((o_113.2) 0 9), .int ((o_113.2) 0 10), .int ((o_113.2) 0 11), .int ((o_113.2) 0 12)]))], wt_90] : List va_W)) := vD_perm (vD_fb hD) (bP ((((((List.Perm.refl _)).cons _).trans (List.Perm.swap _ _ _))).trans ((((((List.Perm.refl _)).cons _).trans (List.Perm.swap _ _ _))).cons _)))
                    have hK : va_K (dC, dI) cls (List.flatten ([[], [], [], []] : List (List (ClassId × FieldType)))) s := vK_perm (vK_fb hK) (bP ((((((List.Perm.refl _)).cons _).trans (List.Perm.swap _ _ _))).trans ((((((List.Perm.refl _)).cons _).trans (List.Perm.swap _ _ _))).cons _)))
                    obtain rfl : r114 = (o_113.1) := hw
                    refine lv_iadd hx hb dX13_part_276 ?_
                    refine lv_null hx hb dX13_part_277 ?_
                    refine lv_null hx hb dX13_part_278 ?_
                    obtain ⟨hz115, hrun⟩ := chk9 hrun
                    have hPx : va_P (dC, dI) cls ((List.flatten ([[(q112, .inr (16, [.int 0, .int 0, .null, .null]))]] : List va_W)) ++ (List.flatten ([[(q111, .inr (16, [.int 0, .int 0, .null, .null]))], [((p0a 0), .inr (14, [.ref xv, .int ((o_113.2) 0 1), .int ((o_113.2) 0 2), .int ((o_113.2) 0 3), .int ((o_113.2) 0 4), .ref (p0a 6), .null, .ref (p0a 8), .ref (p0a 9), .int ((o_113.2) 0 9), .int ((o_113.2) 0 10), .int ((o_113.2) 0 11), .int ((o_113.2) 0 12)]))], wt_90] : List va_W))) H := vP_fa (vP_perm hP (bP (List.Perm.refl _)))
                    have hDx : va_D A ((List.flatten ([[(q112, .inr (16, [.int 0, .int 0, .null, .null]))]] : List va_W)) ++ (List.flatten ([[(q111, .inr (16, [.int 0, .int 0, .null, .null]))], [((p0a 0), .inr (14, [.ref xv, .int ((o_113.2) 0 1), .int ((o_113.2) 0 2), .int ((o_113.2) 0 3), .int ((o_113.2) 0 4), .ref (p0a 6), .null, .ref (p0a 8), .ref (p0a 9), .int ((o_113.2) 0 9), .int ((o_113.2) 0 10), .int ((o_113.2) 0 11), .int ((o_113.2) 0 12)]))], wt_90] : List va_W))) := vD_fa (vD_perm hD (bP (List.Perm.refl _)))
                    have hKx : va_K (dC, dI) cls ((List.flatten ([[]] : List (List (ClassId × FieldType)))) ++ (List.flatten ([[], [], []] : List (List (ClassId × FieldType))))) s := vK_fa (vK_perm hK (bP (List.Perm.refl _)))
                    have hPc := vP_l hPx
                    have hDc := vD_l hDx
                    have hKc := vK_l hKx
                    have hFc := vfree hDx hS hA
                    refine va_callv (va_runI (As := [.int 0, .int (1 + (o_113.1)), .null, .null]) (rest := [.ref q112, .ref r90, .int (1 + (o_88.1)), .int 2, .ref q111, .ref q111]) ⟨hx, hb, hml, hown, hts⟩ (kX14_init_nn l dC dI (p0h := q112) (p1 := 0) (p2 := (1 + (o_113.1))) (sz := _)) (cwI 4 hts (gi_z qw1576) rfl rfl rfl (hts _ qw1570) (hts _ qw1577) (hts _ qw1578) rfl (by decide +kernel) ⟨rmF (Nat.le_of_ble_eq_true rfl), rmL (Nat.le_of_ble_eq_true rfl)⟩) ⟨PRE.blind, PRE.of hE hS hFc hPc hKc hDc⟩ rfl rfl hl.1 rfl (lv_room (Nat.le_of_ble_eq_true rfl)) dX13_part_279 ⟨(show (C9 + 2) + 0 ≤ (2 * C9 + 2) from by omega), (show (4 * (C9 + 2)) + 0 ≤ 4 * (2 * C9 + 2) from by omega)⟩) hS (fun q _ h => hFc q h) hFc (fun u t H locs ht hvm hw hB hz1 hk1 hS => ?_)
                    obtain ⟨b1, b2, b3⟩ := hB
                    rw [ht] at b1
                    obtain ⟨hP, hD, hK⟩ := JOINC (wc := (List.flatten ([[(q112, .inr (16, [.int 0, .int 0, .null, .null]))]] : List va_W))) (wr := (List.flatten ([[(q111, .inr (16, [.int 0, .int 0, .null, .null]))], [((p0a 0), .inr (14, [.ref xv, .int ((o_113.2) 0 1), .int ((o_113.2) 0 2), .int ((o_113.2) 0 3), .int ((o_113.2) 0 4), .ref (p0a 6), .null, .ref (p0a 8), .ref (p0a 9), .int ((o_113.2) 0 9), .int ((o_113.2) 0 10), .int ((o_113.2) 0 11), .int ((o_113.2) 0 12)]))], wt_90] : List va_W))) (w1 := (List.flatten ([[(q112, .inr (16, [.int 0, .int (1 + (o_113.1)), .null, .null]))]] : List va_W))) (t1 := (List.flatten ([[]] : List (List (ClassId × FieldType))))) hPx hDx hKx hk1 hFc b1 (va_K.moved hvm.symm b2) b3
                    have hP : va_P (dC, dI) cls (List.flatten ([[(q112, .inr (16, [.int 0, .int (1 + (o_113.1)), .null, .null]))], [(q111, .inr (16, [.int 0, .int 0, .null, .null]))], [((p0a 0), .inr (14, [.ref xv, .int ((o_113.2) 0 1), .int ((o_113.2) 0 2), .int ((o_113.2) 0 3), .int ((o_113.2) 0 4), .ref (p0a 6), .null, .ref (p0a 8), .ref (p0a 9), .int ((o_113.2) 0 9), .int ((o_113.2) 0 10), .int ((o_113.2) 0 11), .int ((o_113.2) 0 12)]))], wt_90] : List va_W)) H := vP_perm (vP_fb hP) (bP (List.Perm.refl _))
                    have hD : va_D A (List.flatten ([[(q112, .inr (16, [.int 0, .int (1 + (o_113.1)), .null, .null]))], [(q111, .inr (16, [.int 0, .int 0, .null, .null]))], [((p0a 0), .inr (14, [.ref xv, .int ((o_113.2) 0 1), .int ((o_113.2) 0 2), .int ((o_113.2) 0 3), .int ((o_113.2) 0 4), .ref (p0a 6), .null, .ref (p0a 8), .ref (p0a 9), .int ((o_113.2) 0 9), .int ((o_113.2) 0 10), .int ((o_113.2) 0 11), .int ((o_113.2) 0 12)]))], wt_90] : List va_W)) := vD_perm (vD_fb hD) (bP (List.Perm.refl _))
                    have hK : va_K (dC, dI) cls (List.flatten ([[], [], [], []] : List (List (ClassId × FieldType)))) s := vK_perm (vK_fb hK) (bP (List.Perm.refl _))
                    obtain ⟨hz116, hrun⟩ := chk9 hrun
                    have hPx : va_P (dC, dI) cls ((List.flatten ([[(q111, .inr (16, [.int 0, .int 0, .null, .null]))]] : List va_W)) ++ (List.flatten ([[(q112, .inr (16, [.int 0, .int (1 + (o_113.1)), .null, .null]))], [((p0a 0), .inr (14, [.ref xv, .int ((o_113.2) 0 1), .int ((o_113.2) 0 2), .int ((o_113.2) 0 3), .int ((o_113.2) 0 4), .ref (p0a 6), .null, .ref (p0a 8), .ref (p0a 9), .int ((o_113.2) 0 9), .int ((o_113.2) 0 10), .int ((o_113.2) 0 11), .int ((o_113.2) 0 12)]))], wt_90] : List va_W))) H := vP_fa (vP_perm hP (bP ((((List.Perm.refl _)).cons _).trans (List.Perm.swap _ _ _))))
                    have hDx : va_D A ((List.flatten ([[(q111, .inr (16, [.int 0, .int 0, .null, .null]))]] : List va_W)) ++ (List.flatten ([[(q112, .inr (16, [.int 0, .int (1 + (o_113.1)), .null, .null]))], [((p0a 0), .inr (14, [.ref xv, .int ((o_113.2) 0 1), .int ((o_113.2) 0 2), .int ((o_113.2) 0 3), .int ((o_113.2) 0 4), .ref (p0a 6), .null, .ref (p0a 8), .ref (p0a 9), .int ((o_113.2) 0 9), .int ((o_113.2) 0 10), .int ((o_113.2) 0 11), .int ((o_113.2) 0 12)]))], wt_90] : List va_W))) := vD_fa (vD_perm hD (bP ((((List.Perm.refl _)).cons _).trans (List.Perm.swap _ _ _))))
                    have hKx : va_K (dC, dI) cls ((List.flatten ([[]] : List (List (ClassId × FieldType)))) ++ (List.flatten ([[], [], []] : List (List (ClassId × FieldType))))) s := vK_fa (vK_perm hK (bP ((((List.Perm.refl _)).cons _).trans (List.Perm.swap _ _ _))))
                    have hPc := vP_l hPx
                    have hDc := vD_l hDx
                    have hKc := vK_l hKx
                    have hFc := vfree hDx hS hA
                    refine va_callv (va_runI (As := [.int 2, .int (1 + (o_88.1)), .ref r90, .ref q112]) (rest := [.ref q111]) ⟨hx, hb, hml, hown, hts⟩ (kX14_init_rr l dC dI (p0h := q111) (p1 := 2) (p2 := (1 + (o_88.1))) (p3h := r90) (p4h := q112) (sz := _)) (cwI 4 hts (gi_z qw1576) rfl rfl rfl (hts _ qw1570) (hts _ qw1577) (hts _ qw1578) rfl (by decide +kernel) ⟨rmF (Nat.le_of_ble_eq_true rfl), rmL (Nat.le_of_ble_eq_true rfl)⟩) ⟨PRE.blind, PRE.of hE hS hFc hPc hKc hDc⟩ rfl rfl hl.1 rfl (lv_room (Nat.le_of_ble_eq_true rfl)) dX13_part_282 ⟨(show (C9 + 2) + 0 ≤ (2 * C9 + 2) from by omega), (show (4 * (C9 + 2)) + 0 ≤ 4 * (2 * C9 + 2) from by omega)⟩) hS (fun q _ h => hFc q h) hFc (fun u t H locs ht hvm hw hB hz1 hk1 hS => ?_)
                    obtain ⟨b1, b2, b3⟩ := hB
                    rw [ht] at b1
                    obtain ⟨hP, hD, hK⟩ := JOINC (wc := (List.flatten ([[(q111, .inr (16, [.int 0, .int 0, .null, .null]))]] : List va_W))) (wr := (List.flatten ([[(q112, .inr (16, [.int 0, .int (1 + (o_113.1)), .null, .null]))], [((p0a 0), .inr (14, [.ref xv, .int ((o_113.2) 0 1), .int ((o_113.2) 0 2), .int ((o_113.2) 0 3), .int ((o_113.2) 0 4), .ref (p0a 6), .null, .ref (p0a 8), .ref (p0a 9), .int ((o_113.2) 0 9), .int ((o_113.2) 0 10), .int ((o_113.2) 0 11), .int ((o_113.2) 0 12)]))], wt_90] : List va_W))) (w1 := (List.flatten ([[(q111, .inr (16, [.int 2, .int (1 + (o_88.1)), .ref r90, .ref q112]))]] : List va_W))) (t1 := (List.flatten ([[]] : List (List (ClassId × FieldType))))) hPx hDx hKx hk1 hFc b1 (va_K.moved hvm.symm b2) b3
                    have hP : va_P (dC, dI) cls (List.flatten ([[(q112, .inr (16, [.int 0, .int (1 + (o_113.1)), .null, .null]))], [(q111, .inr (16, [.int 2, .int (1 + (o_88.1)), .ref r90, .ref q112]))], [((p0a 0), .inr (14, [.ref xv, .int ((o_113.2) 0 1), .int ((o_113.2) 0 2), .int ((o_113.2) 0 3), .int ((o_113.2) 0 4), .ref (p0a 6), .null, .ref (p0a 8), .ref (p0a 9), .int ((o_113.2) 0 9), .int ((o_113.2) 0 10), .int ((o_113.2) 0 11), .int ((o_113.2) 0 12)]))], wt_90] : List va_W)) H := vP_perm (vP_fb hP) (bP ((((List.Perm.refl _)).cons _).trans (List.Perm.swap _ _ _)))
                    have hD : va_D A (List.flatten ([[(q112, .inr (16, [.int 0, .int (1 + (o_113.1)), .null, .null]))], [(q111, .inr (16, [.int 2, .int (1 + (o_88.1)), .ref r90, .ref q112]))], [((p0a 0), .inr (14, [.ref xv, .int ((o_113.2) 0 1), .int ((o_113.2) 0 2), .int ((o_113.2) 0 3), .int ((o_113.2) 0 4), .ref (p0a 6), .null, .ref (p0a 8), .ref (p0a 9), .int ((o_113.2) 0 9), .int ((o_113.2) 0 10), .int ((o_113.2) 0 11), .int ((o_113.2) 0 12)]))], wt_90] : List va_W)) := vD_perm (vD_fb hD) (bP ((((List.Perm.refl _)).cons _).trans (List.Perm.swap _ _ _)))
                    have hK : va_K (dC, dI) cls (List.flatten ([[], [], [], []] : List (List (ClassId × FieldType)))) s := vK_perm (vK_fb hK) (bP ((((List.Perm.refl _)).cons _).trans (List.Perm.swap _ _ _)))
                    have ho9 : ((pb2 2 (1 + (o_88.1)) (o_90.1) (pb0 0 (1 + (o_113.1)))), (o_113.2)) = o := Option.some.inj hrun
                    have hP : va_P (dC, dI) cls (List.flatten ([[((p0a 0), .inr (14, [.ref xv, .int ((o_113.2) 0 1), .int ((o_113.2) 0 2), .int ((o_113.2) 0 3), .int ((o_113.2) 0 4), .ref (p0a 6), .null, .ref (p0a 8), .ref (p0a 9), .int ((o_113.2) 0 9), .int ((o_113.2) 0 10), .int ((o_113.2) 0 11), .int ((o_113.2) 0 12)]))], [(q112, .inr (16, [.int 0, .int (1 + (o_113.1)), .null, .null]))], [(q111, .inr (16, [.int 2, .int (1 + (o_88.1)), .ref r90, .ref q112]))], wt_90] : List va_W)) H := vP_perm hP (bP (((((((List.Perm.refl _)).cons _).trans (List.Perm.swap _ _ _))).cons _).trans (List.Perm.swap _ _ _)))
                    have hD : va_D A (List.flatten ([[((p0a 0), .inr (14, [.ref xv, .int ((o_113.2) 0 1), .int ((o_113.2) 0 2), .int ((o_113.2) 0 3), .int ((o_113.2) 0 4), .ref (p0a 6), .null, .ref (p0a 8), .ref (p0a 9), .int ((o_113.2) 0 9), .int ((o_113.2) 0 10), .int ((o_113.2) 0 11), .int ((o_113.2) 0 12)]))], [(q112, .inr (16, [.int 0, .int (1 + (o_113.1)), .null, .null]))], [(q111, .inr (16, [.int 2, .int (1 + (o_88.1)), .ref r90, .ref q112]))], wt_90] : List va_W)) := vD_perm hD (bP (((((((List.Perm.refl _)).cons _).trans (List.Perm.swap _ _ _))).cons _).trans (List.Perm.swap _ _ _)))
                    subst ho9
                    subst hQ
                    have hph : ph9 (List.flatten ([[(q112, .inr (16, [.int 0, .int (1 + (o_113.1)), .null, .null]))], [(q111, .inr (16, [.int 2, .int (1 + (o_88.1)), .ref r90, .ref q112]))], wt_90] : List va_W)) (D9 + 1) q111 (pb2 2 (1 + (o_88.1)) (o_90.1) (pb0 0 (1 + (o_113.1)))) := (ph_2L (fl_mem 1 rfl (List.mem_singleton.mpr rfl)) hz116 (ph9_m (fun x hx => fl_mem 2 rfl hx) hph_wt_90) (fl_mem 0 rfl (List.mem_singleton.mpr rfl)) hz115)
                    refine W.widen (k := (2 * C9 + 2)) (n := 4 * (2 * C9 + 2)) (by omega) (by omega) ?_
                    exact W.aret (v := .ref q111) (rt := .object RX14) hx hb hr (Or.inl ⟨_, rfl⟩) (Or.inr ⟨_, rfl⟩) (fun t ht hW => ⟨⟨(), q111, rfl, trivial, (List.flatten ([[(q112, .inr (16, [.int 0, .int (1 + (o_113.1)), .null, .null]))], [(q111, .inr (16, [.int 2, .int (1 + (o_88.1)), .ref r90, .ref q112]))], wt_90] : List va_W)), hph, by rw [ht, fl_two]; exact hP, va_K.moved hW.alike hK, by rw [fl_two]; exact hD⟩, hS.F ht⟩) hS.2.2 dX13_part_285
                · refine lv_icmp_ne (tgt := 237) hx hb dX13_part_226 (by decide) (fun _ => ?_) (fun c => absurd c hc104)
                  refine va_new (ci := 16) (fs := [.int 0, .int 0, .null, .null]) (C := RX14) (T := TX14) (N := 4) hx hb hts i_X14 tyX14 tyX14_ok hown (hts _ qw1568) (hts _ qw1569) (hts _ qw1570) hK hP hD hS hA rfl df_X14 (show (C9) + 1 ≤ (2 * C9 + 2) from by omega) (show (4 * (C9)) + 4 ≤ 4 * (2 * C9 + 2) from by omega) dX13_part_237 (fun q117 H hP hD hS => ?_)
                  replace hP := vP_new hP
                  replace hD := vD_new hD
                  have hP : va_P (dC, dI) cls (List.flatten ([[(q117, .inr (16, [.int 0, .int 0, .null, .null]))], [((p0a 0), .inr (14, [.ref xv, .int ((o_90.2) 0 1), .int ((o_90.2) 0 2), .int ((o_90.2) 0 3), .int ((o_90.2) 0 4), .ref (p0a 6), .null, .ref (p0a 8), .ref (p0a 9), .int ((o_90.2) 0 9), .int ((o_90.2) 0 10), .int ((o_90.2) 0 11), .int ((o_90.2) 0 12)]))], wt_90] : List va_W)) H := hP
                  have hD : va_D A (List.flatten ([[(q117, .inr (16, [.int 0, .int 0, .null, .null]))], [((p0a 0), .inr (14, [.ref xv, .int ((o_90.2) 0 1), .int ((o_90.2) 0 2), .int ((o_90.2) 0 3), .int ((o_90.2) 0 4), .ref (p0a 6), .null, .ref (p0a 8), .ref (p0a 9), .int ((o_90.2) 0 9), .int ((o_90.2) 0 10), .int ((o_90.2) 0 11), .int ((o_90.2) 0 12)]))], wt_90] : List va_W)) := hD
                  have hK : va_K (dC, dI) cls (List.flatten ([[], [], []] : List (List (ClassId × FieldType)))) s := hK
                  refine W.widen (k := (C9 + 1)) (n := (4 * (C9 + 1))) (by omega) (by omega) ?_
                  refine lv_dup hx hb dX13_part_240 rfl ?_
                  refine lv_iconst (v := 2) hx hb dX13_part_241 (by decide) ?_
                  refine lv_iload_n hx hb dX13_part_242 rfl (lv_at hl 1 rfl) ?_
                  refine lv_aload hx hb dX13_part_243 (lv_at hl 0 rfl) ?_
                  refine lv_aload_n hx hb dX13_part_245 rfl (lv_at hl 3 rfl) ?_
                  refine lv_iload_n hx hb dX13_part_246 rfl (lv_at hl 4 rfl) ?_
                  refine lv_iconst (v := 1) hx hb dX13_part_247 (by decide) ?_
                  refine lv_isub hx hb dX13_part_248 ?_
                  obtain ⟨o_118, hc_118, hrun⟩ := bnd9 hrun
                  have hPx : va_P (dC, dI) cls ((List.flatten ([[((p0a 0), .inr (14, [.ref xv, .int ((o_90.2) 0 1), .int ((o_90.2) 0 2), .int ((o_90.2) 0 3), .int ((o_90.2) 0 4), .ref (p0a 6), .null, .ref (p0a 8), .ref (p0a 9), .int ((o_90.2) 0 9), .int ((o_90.2) 0 10), .int ((o_90.2) 0 11), .int ((o_90.2) 0 12)]))]] : List va_W)) ++ (List.flatten ([[(q117, .inr (16, [.int 0, .int 0, .null, .null]))], wt_90] : List va_W))) H := vP_fa (vP_perm hP (bP ((((List.Perm.refl _)).cons _).trans (List.Perm.swap _ _ _))))
                  have hDx : va_D A ((List.flatten ([[((p0a 0), .inr (14, [.ref xv, .int ((o_90.2) 0 1), .int ((o_90.2) 0 2), .int ((o_90.2) 0 3), .int ((o_90.2) 0 4), .ref (p0a 6), .null, .ref (p0a 8), .ref (p0a 9), .int ((o_90.2) 0 9), .int ((o_90.2) 0 10), .int ((o_90.2) 0 11), .int ((o_90.2) 0 12)]))]] : List va_W)) ++ (List.flatten ([[(q117, .inr (16, [.int 0, .int 0, .null, .null]))], wt_90] : List va_W))) := vD_fa (vD_perm hD (bP ((((List.Perm.refl _)).cons _).trans (List.Perm.swap _ _ _))))
                  have hKx : va_K (dC, dI) cls ((List.flatten ([[]] : List (List (ClassId × FieldType)))) ++ (List.flatten ([[], []] : List (List (ClassId × FieldType))))) s := vK_fa (vK_perm hK (bP ((((List.Perm.refl _)).cons _).trans (List.Perm.swap _ _ _))))
                  have hPc := vP_l hPx
                  have hDc := vD_l hDx
                  have hKc := vK_l hKx
                  have hFc := vfree hDx hS hA
                  refine va_callr (va_runV (As := [.int (p1 - 1)]) (rest := [.ref r90, .int (1 + (o_88.1)), .int 2, .ref q117, .ref q117]) ⟨hx, hb, hml, hown, hts⟩ (hkk_part dC dI (p0a := p0a) (p0w := (o_90.2)) (p1 := (p1 - 1)) (sz := _) (o := o_118) (hrun := hc_118)) (cwV 1 hts (gi_V qw1580 qw1581 qw1582 qw1566 (gi_z qw1579)) rfl rfl rfl (by decide +kernel) ⟨rmF9, rmL9 (n := 24) (Nat.le_of_ble_eq_true rfl)⟩) ⟨PRE.blind, va_recv hKc hPc (ci := 14) (q0 := 0) rfl rfl, PRE.of (ENV.add hE xq9_m hro_x) hS hFc hPc hKc hDc⟩ rfl rfl hl.1 rfl (lv_room (Nat.le_of_ble_eq_true rfl)) dX13_part_249 ⟨(show (C9 + 1) + C9 ≤ (2 * C9 + 2) from by omega), (show (4 * (C9 + 1)) + 4 * C9 ≤ 4 * (2 * C9 + 2) from by omega)⟩) hS (fun q _ h => hFc q h) hFc (fun u r118 t H locs ht hvm hw hB hz1 hk1 hS => ?_)
                  obtain ⟨wt_118, hph_wt_118, hB⟩ := hB
                  obtain ⟨b1, b2, b3⟩ := hB
                  rw [ht] at b1
                  obtain ⟨hP, hD, hK⟩ := JOINC (wc := (List.flatten ([[((p0a 0), .inr (14, [.ref xv, .int ((o_90.2) 0 1), .int ((o_90.2) 0 2), .int ((o_90.2) 0 3), .int ((o_90.2) 0 4), .ref (p0a 6), .null, .ref (p0a 8), .ref (p0a 9), .int ((o_90.2) 0 9), .int ((o_90.2) 0 10), .int ((o_90.2) 0 11), .int ((o_90.2) 0 12)]))]] : List va_W))) (wr := (List.flatten ([[(q117, .inr (16, [.int 0, .int 0, .null, .null]))], wt_90] : List va_W))) (w1 := (List.flatten ([[((p0a 0), .inr (14, [.ref xv, .int ((o_118.2) 0 1), .int ((o_118.2) 0 2), .int ((o_118.2) 0 3), .int ((o_118.2) 0 4), .ref (p0a 6), .null, .ref (p0a 8), .ref (p0a 9), .int ((o_118.2) 0 9), .int ((o_118.2) 0 10), .int ((o_118.2) 0 11), .int ((o_118.2) 0 12)]))], wt_118] : List va_W))) (t1 := (List.flatten ([[], []] : List (List (ClassId × FieldType))))) hPx hDx hKx hk1 hFc b1 (va_K.moved hvm.symm b2) b3
                  have hP : va_P (dC, dI) cls (List.flatten ([[(q117, .inr (16, [.int 0, .int 0, .null, .null]))], [((p0a 0), .inr (14, [.ref xv, .int ((o_118.2) 0 1), .int ((o_118.2) 0 2), .int ((o_118.2) 0 3), .int ((o_118.2) 0 4), .ref (p0a 6), .null, .ref (p0a 8), .ref (p0a 9), .int ((o_118.2) 0 9), .int ((o_118.2) 0 10), .int ((o_118.2) 0 11), .int ((o_118.2) 0 12)]))], wt_118, wt_90] : List va_W)) H := vP_perm (vP_fb hP) (bP (((((((List.Perm.refl _)).cons _).trans (List.Perm.swap _ _ _))).cons _).trans (List.Perm.swap _ _ _)))
                  have hD : va_D A (List.flatten ([[(q117, .inr (16, [.int 0, .int 0, .null, .null]))], [((p0a 0), .inr (14, [.ref xv, .int ((o_118.2) 0 1), .int ((o_118.2) 0 2), .int ((o_118.2) 0 3), .int ((o_118.2) 0 4), .ref (p0a 6), .null, .ref (p0a 8), .ref (p0a 9), .int ((o_118.2) 0 9), .int ((o_118.2) 0 10), .int ((o_118.2) 0 11), .int ((o_118.2) 0 12)]))], wt_118, wt_90] : List va_W)) := vD_perm (vD_fb hD) (bP (((((((List.Perm.refl _)).cons _).trans (List.Perm.swap _ _ _))).cons _).trans (List.Perm.swap _ _ _)))
                  have hK : va_K (dC, dI) cls (List.flatten ([[], [], [], []] : List (List (ClassId × FieldType)))) s := vK_perm (vK_fb hK) (bP (((((((List.Perm.refl _)).cons _).trans (List.Perm.swap _ _ _))).cons _).trans (List.Perm.swap _ _ _)))
                  refine W.widen (k := (2 * C9 + 1)) (n := (4 * (2 * C9 + 1))) (by omega) (by omega) ?_
                  obtain ⟨hz119, hrun⟩ := chk9 hrun
                  have hPx : va_P (dC, dI) cls ((List.flatten ([[(q117, .inr (16, [.int 0, .int 0, .null, .null]))]] : List va_W)) ++ (List.flatten ([[((p0a 0), .inr (14, [.ref xv, .int ((o_118.2) 0 1), .int ((o_118.2) 0 2), .int ((o_118.2) 0 3), .int ((o_118.2) 0 4), .ref (p0a 6), .null, .ref (p0a 8), .ref (p0a 9), .int ((o_118.2) 0 9), .int ((o_118.2) 0 10), .int ((o_118.2) 0 11), .int ((o_118.2) 0 12)]))], wt_118, wt_90] : List va_W))) H := vP_fa (vP_perm hP (bP (List.Perm.refl _)))
                  have hDx : va_D A ((List.flatten ([[(q117, .inr (16, [.int 0, .int 0, .null, .null]))]] : List va_W)) ++ (List.flatten ([[((p0a 0), .inr (14, [.ref xv, .int ((o_118.2) 0 1), .int ((o_118.2) 0 2), .int ((o_118.2) 0 3), .int ((o_118.2) 0 4), .ref (p0a 6), .null, .ref (p0a 8), .ref (p0a 9), .int ((o_118.2) 0 9), .int ((o_118.2) 0 10), .int ((o_118.2) 0 11), .int ((o_118.2) 0 12)]))], wt_118, wt_90] : List va_W))) := vD_fa (vD_perm hD (bP (List.Perm.refl _)))
                  have hKx : va_K (dC, dI) cls ((List.flatten ([[]] : List (List (ClassId × FieldType)))) ++ (List.flatten ([[], [], []] : List (List (ClassId × FieldType))))) s := vK_fa (vK_perm hK (bP (List.Perm.refl _)))
                  have hPc := vP_l hPx
                  have hDc := vD_l hDx
                  have hKc := vK_l hKx
                  have hFc := vfree hDx hS hA
                  refine va_callv (va_runI (As := [.int 2, .int (1 + (o_88.1)), .ref r90, .ref r118]) (rest := [.ref q117]) ⟨hx, hb, hml, hown, hts⟩ (kX14_init_rr l dC dI (p0h := q117) (p1 := 2) (p2 := (1 + (o_88.1))) (p3h := r90) (p4h := r118) (sz := _)) (cwI 4 hts (gi_z qw1576) rfl rfl rfl (hts _ qw1570) (hts _ qw1577) (hts _ qw1578) rfl (by decide +kernel) ⟨rmF (Nat.le_of_ble_eq_true rfl), rmL (Nat.le_of_ble_eq_true rfl)⟩) ⟨PRE.blind, PRE.of hE hS hFc hPc hKc hDc⟩ rfl rfl hl.1 rfl (lv_room (Nat.le_of_ble_eq_true rfl)) dX13_part_252 ⟨(show (2 * C9 + 1) + 0 ≤ (2 * C9 + 2) from by omega), (show (4 * (2 * C9 + 1)) + 0 ≤ 4 * (2 * C9 + 2) from by omega)⟩) hS (fun q _ h => hFc q h) hFc (fun u t H locs ht hvm hw hB hz1 hk1 hS => ?_)
                  obtain ⟨b1, b2, b3⟩ := hB
                  rw [ht] at b1
                  obtain ⟨hP, hD, hK⟩ := JOINC (wc := (List.flatten ([[(q117, .inr (16, [.int 0, .int 0, .null, .null]))]] : List va_W))) (wr := (List.flatten ([[((p0a 0), .inr (14, [.ref xv, .int ((o_118.2) 0 1), .int ((o_118.2) 0 2), .int ((o_118.2) 0 3), .int ((o_118.2) 0 4), .ref (p0a 6), .null, .ref (p0a 8), .ref (p0a 9), .int ((o_118.2) 0 9), .int ((o_118.2) 0 10), .int ((o_118.2) 0 11), .int ((o_118.2) 0 12)]))], wt_118, wt_90] : List va_W))) (w1 := (List.flatten ([[(q117, .inr (16, [.int 2, .int (1 + (o_88.1)), .ref r90, .ref r118]))]] : List va_W))) (t1 := (List.flatten ([[]] : List (List (ClassId × FieldType))))) hPx hDx hKx hk1 hFc b1 (va_K.moved hvm.symm b2) b3
                  have hP : va_P (dC, dI) cls (List.flatten ([[(q117, .inr (16, [.int 2, .int (1 + (o_88.1)), .ref r90, .ref r118]))], [((p0a 0), .inr (14, [.ref xv, .int ((o_118.2) 0 1), .int ((o_118.2) 0 2), .int ((o_118.2) 0 3), .int ((o_118.2) 0 4), .ref (p0a 6), .null, .ref (p0a 8), .ref (p0a 9), .int ((o_118.2) 0 9), .int ((o_118.2) 0 10), .int ((o_118.2) 0 11), .int ((o_118.2) 0 12)]))], wt_118, wt_90] : List va_W)) H := vP_perm (vP_fb hP) (bP (List.Perm.refl _))
                  have hD : va_D A (List.flatten ([[(q117, .inr (16, [.int 2, .int (1 + (o_88.1)), .ref r90, .ref r118]))], [((p0a 0), .inr (14, [.ref xv, .int ((o_118.2) 0 1), .int ((o_118.2) 0 2), .int ((o_118.2) 0 3), .int ((o_118.2) 0 4), .ref (p0a 6), .null, .ref (p0a 8), .ref (p0a 9), .int ((o_118.2) 0 9), .int ((o_118.2) 0 10), .int ((o_118.2) 0 11), .int ((o_118.2) 0 12)]))], wt_118, wt_90] : List va_W)) := vD_perm (vD_fb hD) (bP (List.Perm.refl _))
                  have hK : va_K (dC, dI) cls (List.flatten ([[], [], [], []] : List (List (ClassId × FieldType)))) s := vK_perm (vK_fb hK) (bP (List.Perm.refl _))
                  have ho9 : ((pb2 2 (1 + (o_88.1)) (o_90.1) (o_118.1)), (o_118.2)) = o := Option.some.inj hrun
                  have hP : va_P (dC, dI) cls (List.flatten ([[((p0a 0), .inr (14, [.ref xv, .int ((o_118.2) 0 1), .int ((o_118.2) 0 2), .int ((o_118.2) 0 3), .int ((o_118.2) 0 4), .ref (p0a 6), .null, .ref (p0a 8), .ref (p0a 9), .int ((o_118.2) 0 9), .int ((o_118.2) 0 10), .int ((o_118.2) 0 11), .int ((o_118.2) 0 12)]))], [(q117, .inr (16, [.int 2, .int (1 + (o_88.1)), .ref r90, .ref r118]))], wt_118, wt_90] : List va_W)) H := vP_perm hP (bP ((((List.Perm.refl _)).cons _).trans (List.Perm.swap _ _ _)))
                  have hD : va_D A (List.flatten ([[((p0a 0), .inr (14, [.ref xv, .int ((o_118.2) 0 1), .int ((o_118.2) 0 2), .int ((o_118.2) 0 3), .int ((o_118.2) 0 4), .ref (p0a 6), .null, .ref (p0a 8), .ref (p0a 9), .int ((o_118.2) 0 9), .int ((o_118.2) 0 10), .int ((o_118.2) 0 11), .int ((o_118.2) 0 12)]))], [(q117, .inr (16, [.int 2, .int (1 + (o_88.1)), .ref r90, .ref r118]))], wt_118, wt_90] : List va_W)) := vD_perm hD (bP ((((List.Perm.refl _)).cons _).trans (List.Perm.swap _ _ _)))
                  subst ho9
                  subst hQ
                  have hph : ph9 (List.flatten ([[(q117, .inr (16, [.int 2, .int (1 + (o_88.1)), .ref r90, .ref r118]))], wt_118, wt_90] : List va_W)) (D9 + 1) q117 (pb2 2 (1 + (o_88.1)) (o_90.1) (o_118.1)) := (ph_2 (fl_mem 0 rfl (List.mem_singleton.mpr rfl)) hz119 (ph9_m (fun x hx => fl_mem 2 rfl hx) hph_wt_90) (ph9_m (fun x hx => fl_mem 1 rfl hx) hph_wt_118))
                  refine W.widen (k := (2 * C9 + 2)) (n := 4 * (2 * C9 + 2)) (by omega) (by omega) ?_
                  exact W.aret (v := .ref q117) (rt := .object RX14) hx hb hr (Or.inl ⟨_, rfl⟩) (Or.inr ⟨_, rfl⟩) (fun t ht hW => ⟨⟨(), q117, rfl, trivial, (List.flatten ([[(q117, .inr (16, [.int 2, .int (1 + (o_88.1)), .ref r90, .ref r118]))], wt_118, wt_90] : List va_W)), hph, by rw [ht, fl_two]; exact hP, va_K.moved hW.alike hK, by rw [fl_two]; exact hD⟩, hS.F ht⟩) hS.2.2 dX13_part_255
      · refine lv_icmp_ge (tgt := 92) hx hb dX13_part_30 (by decide) (fun c => absurd c hc36) (fun _ => ?_)
        refine lv_iload_n hx hb dX13_part_33 rfl (lv_at hl 0 rfl) ?_
        refine lv_iconst (v := 2) hx hb dX13_part_34 (by decide) ?_
        refine lv_irem hx hb dX13_part_35 (by decide) ?_
        rcases br9 hrun with ⟨hc120, hrun⟩ | ⟨hc120, hrun⟩
        · refine lv_if_ne (tgt := 76) hx hb dX13_part_36 (by decide) (fun c => absurd hc120 c) (fun _ => ?_)
          refine va_new (ci := 16) (fs := [.int 0, .int 0, .null, .null]) (C := RX14) (T := TX14) (N := 4) hx hb hts i_X14 tyX14 tyX14_ok hown (hts _ qw1568) (hts _ qw1569) (hts _ qw1570) hK hP hD hS hA rfl df_X14 (show 0 + 1 ≤ (2 * C9 + 2) from by omega) (show 0 + 4 ≤ 4 * (2 * C9 + 2) from by omega) dX13_part_39 (fun q121 H hP hD hS => ?_)
          replace hP := vP_new hP
          replace hD := vD_new hD
          have hP : va_P (dC, dI) cls (List.flatten ([[(q121, .inr (16, [.int 0, .int 0, .null, .null]))], [((p0a 0), .inr (14, [.ref xv, .int (w3 0 1), .int (w3 0 2), .int (w3 0 3), .int (w3 0 4), .ref (p0a 6), .null, .ref (p0a 8), .ref (p0a 9), .int (w3 0 9), .int (w3 0 10), .int (w3 0 11), .int (w3 0 12)]))]] : List va_W)) H := hP
          have hD : va_D A (List.flatten ([[(q121, .inr (16, [.int 0, .int 0, .null, .null]))], [((p0a 0), .inr (14, [.ref xv, .int (w3 0 1), .int (w3 0 2), .int (w3 0 3), .int (w3 0 4), .ref (p0a 6), .null, .ref (p0a 8), .ref (p0a 9), .int (w3 0 9), .int (w3 0 10), .int (w3 0 11), .int (w3 0 12)]))]] : List va_W)) := hD
          have hK : va_K (dC, dI) cls (List.flatten ([[], []] : List (List (ClassId × FieldType)))) s := hK
          refine W.widen (k := (1)) (n := (4 * (1))) (by omega) (by omega) ?_
          refine lv_dup hx hb dX13_part_42 rfl ?_
          refine lv_iconst (v := 0) hx hb dX13_part_43 (by decide) ?_
          refine lv_aload_n hx hb dX13_part_44 rfl (lv_at hl 1 rfl) ?_
          refine lv_iconst (v := 4) hx hb dX13_part_45 (by decide) ?_
          obtain ⟨o_122, hc_122, hrun⟩ := bnd9 hrun
          have hPx : va_P (dC, dI) cls ((List.flatten ([[((p0a 0), .inr (14, [.ref xv, .int (w3 0 1), .int (w3 0 2), .int (w3 0 3), .int (w3 0 4), .ref (p0a 6), .null, .ref (p0a 8), .ref (p0a 9), .int (w3 0 9), .int (w3 0 10), .int (w3 0 11), .int (w3 0 12)]))]] : List va_W)) ++ (List.flatten ([[(q121, .inr (16, [.int 0, .int 0, .null, .null]))]] : List va_W))) H := vP_fa (vP_perm hP (bP ((((List.Perm.refl _)).cons _).trans (List.Perm.swap _ _ _))))
          have hDx : va_D A ((List.flatten ([[((p0a 0), .inr (14, [.ref xv, .int (w3 0 1), .int (w3 0 2), .int (w3 0 3), .int (w3 0 4), .ref (p0a 6), .null, .ref (p0a 8), .ref (p0a 9), .int (w3 0 9), .int (w3 0 10), .int (w3 0 11), .int (w3 0 12)]))]] : List va_W)) ++ (List.flatten ([[(q121, .inr (16, [.int 0, .int 0, .null, .null]))]] : List va_W))) := vD_fa (vD_perm hD (bP ((((List.Perm.refl _)).cons _).trans (List.Perm.swap _ _ _))))
          have hKx : va_K (dC, dI) cls ((List.flatten ([[]] : List (List (ClassId × FieldType)))) ++ (List.flatten ([[]] : List (List (ClassId × FieldType))))) s := vK_fa (vK_perm hK (bP ((((List.Perm.refl _)).cons _).trans (List.Perm.swap _ _ _))))
          have hPc := vP_l hPx
          have hDc := vD_l hDx
          have hKc := vK_l hKx
          have hFc := vfree hDx hS hA
          refine va_calli (va_runV (As := [.int 4]) (rest := [.int 0, .ref q121, .ref q121]) ⟨hx, hb, hml, hown, hts⟩ (kX13_draw l dC dI (p0a := (st0 (p0a 0) (st1 p0a 1 xv))) (p0w := w3) (p1 := 4) (xv := xv) (xm := xm) (xf := xf) (sz := _) (o := o_122) (hrun := hc_122)) (cwV 1 hts (gi_V qw1563 qw1564 qw1565 qw1566 (gi_z qw1562)) rfl rfl rfl (by decide +kernel) ⟨rmF (Nat.le_of_ble_eq_true rfl), rmL (Nat.le_of_ble_eq_true rfl)⟩) ⟨PRE.blind, va_recv hKc hPc (ci := 14) (q0 := 0) rfl rfl, PRE.of (ENV.add hE xq9_m hro_x) hS hFc hPc hKc hDc⟩ rfl rfl hl.1 rfl (lv_room (Nat.le_of_ble_eq_true rfl)) dX13_part_46 ⟨(show (1) + 0 ≤ (2 * C9 + 2) from by omega), (show (4 * (1)) + 0 ≤ 4 * (2 * C9 + 2) from by omega)⟩) hS (fun q _ h => hFc q h) hFc (fun r123 u t H locs ht hvm hw hB hz1 hk1 hS => ?_)
          obtain ⟨b1, b2, b3⟩ := hB
          rw [ht] at b1
          obtain ⟨hP, hD, hK⟩ := JOINC (wc := (List.flatten ([[((p0a 0), .inr (14, [.ref xv, .int (w3 0 1), .int (w3 0 2), .int (w3 0 3), .int (w3 0 4), .ref (p0a 6), .null, .ref (p0a 8), .ref (p0a 9), .int (w3 0 9), .int (w3 0 10), .int (w3 0 11), .int (w3 0 12)]))]] : List va_W))) (wr := (List.flatten ([[(q121, .inr (16, [.int 0, .int 0, .null, .null]))]] : List va_W))) (w1 := (List.flatten ([[((p0a 0), .inr (14, [.ref xv, .int ((o_122.2) 0 1), .int ((o_122.2) 0 2), .int ((o_122.2) 0 3), .int ((o_122.2) 0 4), .ref (p0a 6), .null, .ref (p0a 8), .ref (p0a 9), .int ((o_122.2) 0 9), .int ((o_122.2) 0 10), .int ((o_122.2) 0 11), .int ((o_122.2) 0 12)]))]] : List va_W))) (t1 := (List.flatten ([[]] : List (List (ClassId × FieldType))))) hPx hDx hKx hk1 hFc b1 (va_K.moved hvm.symm b2) b3
          have hP : va_P (dC, dI) cls (List.flatten ([[(q121, .inr (16, [.int 0, .int 0, .null, .null]))], [((p0a 0), .inr (14, [.ref xv, .int ((o_122.2) 0 1), .int ((o_122.2) 0 2), .int ((o_122.2) 0 3), .int ((o_122.2) 0 4), .ref (p0a 6), .null, .ref (p0a 8), .ref (p0a 9), .int ((o_122.2) 0 9), .int ((o_122.2) 0 10), .int ((o_122.2) 0 11), .int ((o_122.2) 0 12)]))]] : List va_W)) H := vP_perm (vP_fb hP) (bP ((((List.Perm.refl _)).cons _).trans (List.Perm.swap _ _ _)))
          have hD : va_D A (List.flatten ([[(q121, .inr (16, [.int 0, .int 0, .null, .null]))], [((p0a 0), .inr (14, [.ref xv, .int ((o_122.2) 0 1), .int ((o_122.2) 0 2), .int ((o_122.2) 0 3), .int ((o_122.2) 0 4), .ref (p0a 6), .null, .ref (p0a 8), .ref (p0a 9), .int ((o_122.2) 0 9), .int ((o_122.2) 0 10), .int ((o_122.2) 0 11), .int ((o_122.2) 0 12)]))]] : List va_W)) := vD_perm (vD_fb hD) (bP ((((List.Perm.refl _)).cons _).trans (List.Perm.swap _ _ _)))
          have hK : va_K (dC, dI) cls (List.flatten ([[], []] : List (List (ClassId × FieldType)))) s := vK_perm (vK_fb hK) (bP ((((List.Perm.refl _)).cons _).trans (List.Perm.swap _ _ _)))
          obtain rfl : r123 = (o_122.1) := hw
          rcases br9 hrun with ⟨hc124, hrun⟩ | ⟨hc124, hrun⟩
          · refine lv_if_ne (tgt := 62) hx hb dX13_part_49 (by decide) (fun c => absurd hc124 c) (fun _ => ?_)
            refine lv_aload_n hx hb dX13_part_52 rfl (lv_at hl 1 rfl) ?_
            refine lv_sipush (v := 5000) hx hb dX13_part_53 (by decide) ?_
            obtain ⟨o_125, hc_125, hrun⟩ := bnd9 hrun
            have hPx : va_P (dC, dI) cls ((List.flatten ([[((p0a 0), .inr (14, [.ref xv, .int ((o_122.2) 0 1), .int ((o_122.2) 0 2), .int ((o_122.2) 0 3), .int ((o_122.2) 0 4), .ref (p0a 6), .null, .ref (p0a 8), .ref (p0a 9), .int ((o_122.2) 0 9), .int ((o_122.2) 0 10), .int ((o_122.2) 0 11), .int ((o_122.2) 0 12)]))]] : List va_W)) ++ (List.flatten ([[(q121, .inr (16, [.int 0, .int 0, .null, .null]))]] : List va_W))) H := vP_fa (vP_perm hP (bP ((((List.Perm.refl _)).cons _).trans (List.Perm.swap _ _ _))))
            have hDx : va_D A ((List.flatten ([[((p0a 0), .inr (14, [.ref xv, .int ((o_122.2) 0 1), .int ((o_122.2) 0 2), .int ((o_122.2) 0 3), .int ((o_122.2) 0 4), .ref (p0a 6), .null, .ref (p0a 8), .ref (p0a 9), .int ((o_122.2) 0 9), .int ((o_122.2) 0 10), .int ((o_122.2) 0 11), .int ((o_122.2) 0 12)]))]] : List va_W)) ++ (List.flatten ([[(q121, .inr (16, [.int 0, .int 0, .null, .null]))]] : List va_W))) := vD_fa (vD_perm hD (bP ((((List.Perm.refl _)).cons _).trans (List.Perm.swap _ _ _))))
            have hKx : va_K (dC, dI) cls ((List.flatten ([[]] : List (List (ClassId × FieldType)))) ++ (List.flatten ([[]] : List (List (ClassId × FieldType))))) s := vK_fa (vK_perm hK (bP ((((List.Perm.refl _)).cons _).trans (List.Perm.swap _ _ _))))
            have hPc := vP_l hPx
            have hDc := vD_l hDx
            have hKc := vK_l hKx
            have hFc := vfree hDx hS hA
            refine va_calli (va_runV (As := [.int 5000]) (rest := [.int 0, .ref q121, .ref q121]) ⟨hx, hb, hml, hown, hts⟩ (kX13_draw l dC dI (p0a := (st0 (p0a 0) (st1 p0a 1 xv))) (p0w := (o_122.2)) (p1 := 5000) (xv := xv) (xm := xm) (xf := xf) (sz := _) (o := o_125) (hrun := hc_125)) (cwV 1 hts (gi_V qw1563 qw1564 qw1565 qw1566 (gi_z qw1562)) rfl rfl rfl (by decide +kernel) ⟨rmF (Nat.le_of_ble_eq_true rfl), rmL (Nat.le_of_ble_eq_true rfl)⟩) ⟨PRE.blind, va_recv hKc hPc (ci := 14) (q0 := 0) rfl rfl, PRE.of (ENV.add hE xq9_m hro_x) hS hFc hPc hKc hDc⟩ rfl rfl hl.1 rfl (lv_room (Nat.le_of_ble_eq_true rfl)) dX13_part_56 ⟨(show (1) + 0 ≤ (2 * C9 + 2) from by omega), (show (4 * (1)) + 0 ≤ 4 * (2 * C9 + 2) from by omega)⟩) hS (fun q _ h => hFc q h) hFc (fun r126 u t H locs ht hvm hw hB hz1 hk1 hS => ?_)
            obtain ⟨b1, b2, b3⟩ := hB
            rw [ht] at b1
            obtain ⟨hP, hD, hK⟩ := JOINC (wc := (List.flatten ([[((p0a 0), .inr (14, [.ref xv, .int ((o_122.2) 0 1), .int ((o_122.2) 0 2), .int ((o_122.2) 0 3), .int ((o_122.2) 0 4), .ref (p0a 6), .null, .ref (p0a 8), .ref (p0a 9), .int ((o_122.2) 0 9), .int ((o_122.2) 0 10), .int ((o_122.2) 0 11), .int ((o_122.2) 0 12)]))]] : List va_W))) (wr := (List.flatten ([[(q121, .inr (16, [.int 0, .int 0, .null, .null]))]] : List va_W))) (w1 := (List.flatten ([[((p0a 0), .inr (14, [.ref xv, .int ((o_125.2) 0 1), .int ((o_125.2) 0 2), .int ((o_125.2) 0 3), .int ((o_125.2) 0 4), .ref (p0a 6), .null, .ref (p0a 8), .ref (p0a 9), .int ((o_125.2) 0 9), .int ((o_125.2) 0 10), .int ((o_125.2) 0 11), .int ((o_125.2) 0 12)]))]] : List va_W))) (t1 := (List.flatten ([[]] : List (List (ClassId × FieldType))))) hPx hDx hKx hk1 hFc b1 (va_K.moved hvm.symm b2) b3
            have hP : va_P (dC, dI) cls (List.flatten ([[(q121, .inr (16, [.int 0, .int 0, .null, .null]))], [((p0a 0), .inr (14, [.ref xv, .int ((o_125.2) 0 1), .int ((o_125.2) 0 2), .int ((o_125.2) 0 3), .int ((o_125.2) 0 4), .ref (p0a 6), .null, .ref (p0a 8), .ref (p0a 9), .int ((o_125.2) 0 9), .int ((o_125.2) 0 10), .int ((o_125.2) 0 11), .int ((o_125.2) 0 12)]))]] : List va_W)) H := vP_perm (vP_fb hP) (bP ((((List.Perm.refl _)).cons _).trans (List.Perm.swap _ _ _)))
            have hD : va_D A (List.flatten ([[(q121, .inr (16, [.int 0, .int 0, .null, .null]))], [((p0a 0), .inr (14, [.ref xv, .int ((o_125.2) 0 1), .int ((o_125.2) 0 2), .int ((o_125.2) 0 3), .int ((o_125.2) 0 4), .ref (p0a 6), .null, .ref (p0a 8), .ref (p0a 9), .int ((o_125.2) 0 9), .int ((o_125.2) 0 10), .int ((o_125.2) 0 11), .int ((o_125.2) 0 12)]))]] : List va_W)) := vD_perm (vD_fb hD) (bP ((((List.Perm.refl _)).cons _).trans (List.Perm.swap _ _ _)))
            have hK : va_K (dC, dI) cls (List.flatten ([[], []] : List (List (ClassId × FieldType)))) s := vK_perm (vK_fb hK) (bP ((((List.Perm.refl _)).cons _).trans (List.Perm.swap _ _ _)))
            obtain rfl : r126 = (o_125.1) := hw
            refine lv_goto (tgt := 68) hx hb dX13_part_59 (by decide) ?_
            refine lv_null hx hb dX13_part_68 ?_
            refine lv_null hx hb dX13_part_69 ?_
            obtain ⟨hz127, hrun⟩ := chk9 hrun
            have hPx : va_P (dC, dI) cls ((List.flatten ([[(q121, .inr (16, [.int 0, .int 0, .null, .null]))]] : List va_W)) ++ (List.flatten ([[((p0a 0), .inr (14, [.ref xv, .int ((o_125.2) 0 1), .int ((o_125.2) 0 2), .int ((o_125.2) 0 3), .int ((o_125.2) 0 4), .ref (p0a 6), .null, .ref (p0a 8), .ref (p0a 9), .int ((o_125.2) 0 9), .int ((o_125.2) 0 10), .int ((o_125.2) 0 11), .int ((o_125.2) 0 12)]))]] : List va_W))) H := vP_fa (vP_perm hP (bP (List.Perm.refl _)))
            have hDx : va_D A ((List.flatten ([[(q121, .inr (16, [.int 0, .int 0, .null, .null]))]] : List va_W)) ++ (List.flatten ([[((p0a 0), .inr (14, [.ref xv, .int ((o_125.2) 0 1), .int ((o_125.2) 0 2), .int ((o_125.2) 0 3), .int ((o_125.2) 0 4), .ref (p0a 6), .null, .ref (p0a 8), .ref (p0a 9), .int ((o_125.2) 0 9), .int ((o_125.2) 0 10), .int ((o_125.2) 0 11), .int ((o_125.2) 0 12)]))]] : List va_W))) := vD_fa (vD_perm hD (bP (List.Perm.refl _)))
            have hKx : va_K (dC, dI) cls ((List.flatten ([[]] : List (List (ClassId × FieldType)))) ++ (List.flatten ([[]] : List (List (ClassId × FieldType))))) s := vK_fa (vK_perm hK (bP (List.Perm.refl _)))
            have hPc := vP_l hPx
            have hDc := vD_l hDx
            have hKc := vK_l hKx
            have hFc := vfree hDx hS hA
            refine va_callv (va_runI (As := [.int 0, .int (o_125.1), .null, .null]) (rest := [.ref q121]) ⟨hx, hb, hml, hown, hts⟩ (kX14_init_nn l dC dI (p0h := q121) (p1 := 0) (p2 := (o_125.1)) (sz := _)) (cwI 4 hts (gi_z qw1576) rfl rfl rfl (hts _ qw1570) (hts _ qw1577) (hts _ qw1578) rfl (by decide +kernel) ⟨rmF (Nat.le_of_ble_eq_true rfl), rmL (Nat.le_of_ble_eq_true rfl)⟩) ⟨PRE.blind, PRE.of hE hS hFc hPc hKc hDc⟩ rfl rfl hl.1 rfl (lv_room (Nat.le_of_ble_eq_true rfl)) dX13_part_70 ⟨(show (1) + 0 ≤ (2 * C9 + 2) from by omega), (show (4 * (1)) + 0 ≤ 4 * (2 * C9 + 2) from by omega)⟩) hS (fun q _ h => hFc q h) hFc (fun u t H locs ht hvm hw hB hz1 hk1 hS => ?_)
            obtain ⟨b1, b2, b3⟩ := hB
            rw [ht] at b1
            obtain ⟨hP, hD, hK⟩ := JOINC (wc := (List.flatten ([[(q121, .inr (16, [.int 0, .int 0, .null, .null]))]] : List va_W))) (wr := (List.flatten ([[((p0a 0), .inr (14, [.ref xv, .int ((o_125.2) 0 1), .int ((o_125.2) 0 2), .int ((o_125.2) 0 3), .int ((o_125.2) 0 4), .ref (p0a 6), .null, .ref (p0a 8), .ref (p0a 9), .int ((o_125.2) 0 9), .int ((o_125.2) 0 10), .int ((o_125.2) 0 11), .int ((o_125.2) 0 12)]))]] : List va_W))) (w1 := (List.flatten ([[(q121, .inr (16, [.int 0, .int (o_125.1), .null, .null]))]] : List va_W))) (t1 := (List.flatten ([[]] : List (List (ClassId × FieldType))))) hPx hDx hKx hk1 hFc b1 (va_K.moved hvm.symm b2) b3
            have hP : va_P (dC, dI) cls (List.flatten ([[(q121, .inr (16, [.int 0, .int (o_125.1), .null, .null]))], [((p0a 0), .inr (14, [.ref xv, .int ((o_125.2) 0 1), .int ((o_125.2) 0 2), .int ((o_125.2) 0 3), .int ((o_125.2) 0 4), .ref (p0a 6), .null, .ref (p0a 8), .ref (p0a 9), .int ((o_125.2) 0 9), .int ((o_125.2) 0 10), .int ((o_125.2) 0 11), .int ((o_125.2) 0 12)]))]] : List va_W)) H := vP_perm (vP_fb hP) (bP (List.Perm.refl _))
            have hD : va_D A (List.flatten ([[(q121, .inr (16, [.int 0, .int (o_125.1), .null, .null]))], [((p0a 0), .inr (14, [.ref xv, .int ((o_125.2) 0 1), .int ((o_125.2) 0 2), .int ((o_125.2) 0 3), .int ((o_125.2) 0 4), .ref (p0a 6), .null, .ref (p0a 8), .ref (p0a 9), .int ((o_125.2) 0 9), .int ((o_125.2) 0 10), .int ((o_125.2) 0 11), .int ((o_125.2) 0 12)]))]] : List va_W)) := vD_perm (vD_fb hD) (bP (List.Perm.refl _))
            have hK : va_K (dC, dI) cls (List.flatten ([[], []] : List (List (ClassId × FieldType)))) s := vK_perm (vK_fb hK) (bP (List.Perm.refl _))
            refine lv_goto (tgt := 91) hx hb dX13_part_73 (by decide) ?_
            have ho9 : ((pb0 0 (o_125.1)), (o_125.2)) = o := Option.some.inj hrun
            have hP : va_P (dC, dI) cls (List.flatten ([[((p0a 0), .inr (14, [.ref xv, .int ((o_125.2) 0 1), .int ((o_125.2) 0 2), .int ((o_125.2) 0 3), .int ((o_125.2) 0 4), .ref (p0a 6), .null, .ref (p0a 8), .ref (p0a 9), .int ((o_125.2) 0 9), .int ((o_125.2) 0 10), .int ((o_125.2) 0 11), .int ((o_125.2) 0 12)]))], [(q121, .inr (16, [.int 0, .int (o_125.1), .null, .null]))]] : List va_W)) H := vP_perm hP (bP ((((List.Perm.refl _)).cons _).trans (List.Perm.swap _ _ _)))
            have hD : va_D A (List.flatten ([[((p0a 0), .inr (14, [.ref xv, .int ((o_125.2) 0 1), .int ((o_125.2) 0 2), .int ((o_125.2) 0 3), .int ((o_125.2) 0 4), .ref (p0a 6), .null, .ref (p0a 8), .ref (p0a 9), .int ((o_125.2) 0 9), .int ((o_125.2) 0 10), .int ((o_125.2) 0 11), .int ((o_125.2) 0 12)]))], [(q121, .inr (16, [.int 0, .int (o_125.1), .null, .null]))]] : List va_W)) := vD_perm hD (bP ((((List.Perm.refl _)).cons _).trans (List.Perm.swap _ _ _)))
            subst ho9
            subst hQ
            have hph : ph9 (List.flatten ([[(q121, .inr (16, [.int 0, .int (o_125.1), .null, .null]))]] : List va_W)) (D9 + 1) q121 (pb0 0 (o_125.1)) := (ph_0 (fl_mem 0 rfl (List.mem_singleton.mpr rfl)) hz127)
            refine W.widen (k := (2 * C9 + 2)) (n := 4 * (2 * C9 + 2)) (by omega) (by omega) ?_
            exact W.aret (v := .ref q121) (rt := .object RX14) hx hb hr (Or.inl ⟨_, rfl⟩) (Or.inr ⟨_, rfl⟩) (fun t ht hW => ⟨⟨(), q121, rfl, trivial, (List.flatten ([[(q121, .inr (16, [.int 0, .int (o_125.1), .null, .null]))]] : List va_W)), hph, by rw [ht, fl_two]; exact hP, va_K.moved hW.alike hK, by rw [fl_two]; exact hD⟩, hS.F ht⟩) hS.2.2 dX13_part_91
          · refine lv_if_ne (tgt := 62) hx hb dX13_part_49 (by decide) (fun _ => ?_) (fun c => absurd c hc124)
            refine lv_aload_n hx hb dX13_part_62 rfl (lv_at hl 1 rfl) ?_
            refine lv_bipush (v := 9) hx hb dX13_part_63 (by decide) ?_
            obtain ⟨o_128, hc_128, hrun⟩ := bnd9 hrun
            have hPx : va_P (dC, dI) cls ((List.flatten ([[((p0a 0), .inr (14, [.ref xv, .int ((o_122.2) 0 1), .int ((o_122.2) 0 2), .int ((o_122.2) 0 3), .int ((o_122.2) 0 4), .ref (p0a 6), .null, .ref (p0a 8), .ref (p0a 9), .int ((o_122.2) 0 9), .int ((o_122.2) 0 10), .int ((o_122.2) 0 11), .int ((o_122.2) 0 12)]))]] : List va_W)) ++ (List.flatten ([[(q121, .inr (16, [.int 0, .int 0, .null, .null]))]] : List va_W))) H := vP_fa (vP_perm hP (bP ((((List.Perm.refl _)).cons _).trans (List.Perm.swap _ _ _))))
            have hDx : va_D A ((List.flatten ([[((p0a 0), .inr (14, [.ref xv, .int ((o_122.2) 0 1), .int ((o_122.2) 0 2), .int ((o_122.2) 0 3), .int ((o_122.2) 0 4), .ref (p0a 6), .null, .ref (p0a 8), .ref (p0a 9), .int ((o_122.2) 0 9), .int ((o_122.2) 0 10), .int ((o_122.2) 0 11), .int ((o_122.2) 0 12)]))]] : List va_W)) ++ (List.flatten ([[(q121, .inr (16, [.int 0, .int 0, .null, .null]))]] : List va_W))) := vD_fa (vD_perm hD (bP ((((List.Perm.refl _)).cons _).trans (List.Perm.swap _ _ _))))
            have hKx : va_K (dC, dI) cls ((List.flatten ([[]] : List (List (ClassId × FieldType)))) ++ (List.flatten ([[]] : List (List (ClassId × FieldType))))) s := vK_fa (vK_perm hK (bP ((((List.Perm.refl _)).cons _).trans (List.Perm.swap _ _ _))))
            have hPc := vP_l hPx
            have hDc := vD_l hDx
            have hKc := vK_l hKx
            have hFc := vfree hDx hS hA
            refine va_calli (va_runV (As := [.int 9]) (rest := [.int 0, .ref q121, .ref q121]) ⟨hx, hb, hml, hown, hts⟩ (kX13_draw l dC dI (p0a := (st0 (p0a 0) (st1 p0a 1 xv))) (p0w := (o_122.2)) (p1 := 9) (xv := xv) (xm := xm) (xf := xf) (sz := _) (o := o_128) (hrun := hc_128)) (cwV 1 hts (gi_V qw1563 qw1564 qw1565 qw1566 (gi_z qw1562)) rfl rfl rfl (by decide +kernel) ⟨rmF (Nat.le_of_ble_eq_true rfl), rmL (Nat.le_of_ble_eq_true rfl)⟩) ⟨PRE.blind, va_recv hKc hPc (ci := 14) (q0 := 0) rfl rfl, PRE.of (ENV.add hE xq9_m hro_x) hS hFc hPc hKc hDc⟩ rfl rfl hl.1 rfl (lv_room (Nat.le_of_ble_eq_true rfl)) dX13_part_65 ⟨(show (1) + 0 ≤ (2 * C9 + 2) from by omega), (show (4 * (1)) + 0 ≤ 4 * (2 * C9 + 2) from by omega)⟩) hS (fun q _ h => hFc q h) hFc (fun r129 u t H locs ht hvm hw hB hz1 hk1 hS => ?_)
            obtain ⟨b1, b2, b3⟩ := hB
            rw [ht] at b1
            obtain ⟨hP, hD, hK⟩ := JOINC (wc := (List.flatten ([[((p0a 0), .inr (14, [.ref xv, .int ((o_122.2) 0 1), .int ((o_122.2) 0 2), .int ((o_122.2) 0 3), .int ((o_122.2) 0 4), .ref (p0a 6), .null, .ref (p0a 8), .ref (p0a 9), .int ((o_122.2) 0 9), .int ((o_122.2) 0 10), .int ((o_122.2) 0 11), .int ((o_122.2) 0 12)]))]] : List va_W))) (wr := (List.flatten ([[(q121, .inr (16, [.int 0, .int 0, .null, .null]))]] : List va_W))) (w1 := (List.flatten ([[((p0a 0), .inr (14, [.ref xv, .int ((o_128.2) 0 1), .int ((o_128.2) 0 2), .int ((o_128.2) 0 3), .int ((o_128.2) 0 4), .ref (p0a 6), .null, .ref (p0a 8), .ref (p0a 9), .int ((o_128.2) 0 9), .int ((o_128.2) 0 10), .int ((o_128.2) 0 11), .int ((o_128.2) 0 12)]))]] : List va_W))) (t1 := (List.flatten ([[]] : List (List (ClassId × FieldType))))) hPx hDx hKx hk1 hFc b1 (va_K.moved hvm.symm b2) b3
            have hP : va_P (dC, dI) cls (List.flatten ([[(q121, .inr (16, [.int 0, .int 0, .null, .null]))], [((p0a 0), .inr (14, [.ref xv, .int ((o_128.2) 0 1), .int ((o_128.2) 0 2), .int ((o_128.2) 0 3), .int ((o_128.2) 0 4), .ref (p0a 6), .null, .ref (p0a 8), .ref (p0a 9), .int ((o_128.2) 0 9), .int ((o_128.2) 0 10), .int ((o_128.2) 0 11), .int ((o_128.2) 0 12)]))]] : List va_W)) H := vP_perm (vP_fb hP) (bP ((((List.Perm.refl _)).cons _).trans (List.Perm.swap _ _ _)))
            have hD : va_D A (List.flatten ([[(q121, .inr (16, [.int 0, .int 0, .null, .null]))], [((p0a 0), .inr (14, [.ref xv, .int ((o_128.2) 0 1), .int ((o_128.2) 0 2), .int ((o_128.2) 0 3), .int ((o_128.2) 0 4), .ref (p0a 6), .null, .ref (p0a 8), .ref (p0a 9), .int ((o_128.2) 0 9), .int ((o_128.2) 0 10), .int ((o_128.2) 0 11), .int ((o_128.2) 0 12)]))]] : List va_W)) := vD_perm (vD_fb hD) (bP ((((List.Perm.refl _)).cons _).trans (List.Perm.swap _ _ _)))
            have hK : va_K (dC, dI) cls (List.flatten ([[], []] : List (List (ClassId × FieldType)))) s := vK_perm (vK_fb hK) (bP ((((List.Perm.refl _)).cons _).trans (List.Perm.swap _ _ _)))
            obtain rfl : r129 = (o_128.1) := hw
            refine lv_null hx hb dX13_part_68 ?_
            refine lv_null hx hb dX13_part_69 ?_
            obtain ⟨hz130, hrun⟩ := chk9 hrun
            have hPx : va_P (dC, dI) cls ((List.flatten ([[(q121, .inr (16, [.int 0, .int 0, .null, .null]))]] : List va_W)) ++ (List.flatten ([[((p0a 0), .inr (14, [.ref xv, .int ((o_128.2) 0 1), .int ((o_128.2) 0 2), .int ((o_128.2) 0 3), .int ((o_128.2) 0 4), .ref (p0a 6), .null, .ref (p0a 8), .ref (p0a 9), .int ((o_128.2) 0 9), .int ((o_128.2) 0 10), .int ((o_128.2) 0 11), .int ((o_128.2) 0 12)]))]] : List va_W))) H := vP_fa (vP_perm hP (bP (List.Perm.refl _)))
            have hDx : va_D A ((List.flatten ([[(q121, .inr (16, [.int 0, .int 0, .null, .null]))]] : List va_W)) ++ (List.flatten ([[((p0a 0), .inr (14, [.ref xv, .int ((o_128.2) 0 1), .int ((o_128.2) 0 2), .int ((o_128.2) 0 3), .int ((o_128.2) 0 4), .ref (p0a 6), .null, .ref (p0a 8), .ref (p0a 9), .int ((o_128.2) 0 9), .int ((o_128.2) 0 10), .int ((o_128.2) 0 11), .int ((o_128.2) 0 12)]))]] : List va_W))) := vD_fa (vD_perm hD (bP (List.Perm.refl _)))
            have hKx : va_K (dC, dI) cls ((List.flatten ([[]] : List (List (ClassId × FieldType)))) ++ (List.flatten ([[]] : List (List (ClassId × FieldType))))) s := vK_fa (vK_perm hK (bP (List.Perm.refl _)))
            have hPc := vP_l hPx
            have hDc := vD_l hDx
            have hKc := vK_l hKx
            have hFc := vfree hDx hS hA
            refine va_callv (va_runI (As := [.int 0, .int (o_128.1), .null, .null]) (rest := [.ref q121]) ⟨hx, hb, hml, hown, hts⟩ (kX14_init_nn l dC dI (p0h := q121) (p1 := 0) (p2 := (o_128.1)) (sz := _)) (cwI 4 hts (gi_z qw1576) rfl rfl rfl (hts _ qw1570) (hts _ qw1577) (hts _ qw1578) rfl (by decide +kernel) ⟨rmF (Nat.le_of_ble_eq_true rfl), rmL (Nat.le_of_ble_eq_true rfl)⟩) ⟨PRE.blind, PRE.of hE hS hFc hPc hKc hDc⟩ rfl rfl hl.1 rfl (lv_room (Nat.le_of_ble_eq_true rfl)) dX13_part_70 ⟨(show (1) + 0 ≤ (2 * C9 + 2) from by omega), (show (4 * (1)) + 0 ≤ 4 * (2 * C9 + 2) from by omega)⟩) hS (fun q _ h => hFc q h) hFc (fun u t H locs ht hvm hw hB hz1 hk1 hS => ?_)
            obtain ⟨b1, b2, b3⟩ := hB
            rw [ht] at b1
            obtain ⟨hP, hD, hK⟩ := JOINC (wc := (List.flatten ([[(q121, .inr (16, [.int 0, .int 0, .null, .null]))]] : List va_W))) (wr := (List.flatten ([[((p0a 0), .inr (14, [.ref xv, .int ((o_128.2) 0 1), .int ((o_128.2) 0 2), .int ((o_128.2) 0 3), .int ((o_128.2) 0 4), .ref (p0a 6), .null, .ref (p0a 8), .ref (p0a 9), .int ((o_128.2) 0 9), .int ((o_128.2) 0 10), .int ((o_128.2) 0 11), .int ((o_128.2) 0 12)]))]] : List va_W))) (w1 := (List.flatten ([[(q121, .inr (16, [.int 0, .int (o_128.1), .null, .null]))]] : List va_W))) (t1 := (List.flatten ([[]] : List (List (ClassId × FieldType))))) hPx hDx hKx hk1 hFc b1 (va_K.moved hvm.symm b2) b3
            have hP : va_P (dC, dI) cls (List.flatten ([[(q121, .inr (16, [.int 0, .int (o_128.1), .null, .null]))], [((p0a 0), .inr (14, [.ref xv, .int ((o_128.2) 0 1), .int ((o_128.2) 0 2), .int ((o_128.2) 0 3), .int ((o_128.2) 0 4), .ref (p0a 6), .null, .ref (p0a 8), .ref (p0a 9), .int ((o_128.2) 0 9), .int ((o_128.2) 0 10), .int ((o_128.2) 0 11), .int ((o_128.2) 0 12)]))]] : List va_W)) H := vP_perm (vP_fb hP) (bP (List.Perm.refl _))
            have hD : va_D A (List.flatten ([[(q121, .inr (16, [.int 0, .int (o_128.1), .null, .null]))], [((p0a 0), .inr (14, [.ref xv, .int ((o_128.2) 0 1), .int ((o_128.2) 0 2), .int ((o_128.2) 0 3), .int ((o_128.2) 0 4), .ref (p0a 6), .null, .ref (p0a 8), .ref (p0a 9), .int ((o_128.2) 0 9), .int ((o_128.2) 0 10), .int ((o_128.2) 0 11), .int ((o_128.2) 0 12)]))]] : List va_W)) := vD_perm (vD_fb hD) (bP (List.Perm.refl _))
            have hK : va_K (dC, dI) cls (List.flatten ([[], []] : List (List (ClassId × FieldType)))) s := vK_perm (vK_fb hK) (bP (List.Perm.refl _))
            refine lv_goto (tgt := 91) hx hb dX13_part_73 (by decide) ?_
            have ho9 : ((pb0 0 (o_128.1)), (o_128.2)) = o := Option.some.inj hrun
            have hP : va_P (dC, dI) cls (List.flatten ([[((p0a 0), .inr (14, [.ref xv, .int ((o_128.2) 0 1), .int ((o_128.2) 0 2), .int ((o_128.2) 0 3), .int ((o_128.2) 0 4), .ref (p0a 6), .null, .ref (p0a 8), .ref (p0a 9), .int ((o_128.2) 0 9), .int ((o_128.2) 0 10), .int ((o_128.2) 0 11), .int ((o_128.2) 0 12)]))], [(q121, .inr (16, [.int 0, .int (o_128.1), .null, .null]))]] : List va_W)) H := vP_perm hP (bP ((((List.Perm.refl _)).cons _).trans (List.Perm.swap _ _ _)))
            have hD : va_D A (List.flatten ([[((p0a 0), .inr (14, [.ref xv, .int ((o_128.2) 0 1), .int ((o_128.2) 0 2), .int ((o_128.2) 0 3), .int ((o_128.2) 0 4), .ref (p0a 6), .null, .ref (p0a 8), .ref (p0a 9), .int ((o_128.2) 0 9), .int ((o_128.2) 0 10), .int ((o_128.2) 0 11), .int ((o_128.2) 0 12)]))], [(q121, .inr (16, [.int 0, .int (o_128.1), .null, .null]))]] : List va_W)) := vD_perm hD (bP ((((List.Perm.refl _)).cons _).trans (List.Perm.swap _ _ _)))
            subst ho9
            subst hQ
            have hph : ph9 (List.flatten ([[(q121, .inr (16, [.int 0, .int (o_128.1), .null, .null]))]] : List va_W)) (D9 + 1) q121 (pb0 0 (o_128.1)) := (ph_0 (fl_mem 0 rfl (List.mem_singleton.mpr rfl)) hz130)
            refine W.widen (k := (2 * C9 + 2)) (n := 4 * (2 * C9 + 2)) (by omega) (by omega) ?_
            exact W.aret (v := .ref q121) (rt := .object RX14) hx hb hr (Or.inl ⟨_, rfl⟩) (Or.inr ⟨_, rfl⟩) (fun t ht hW => ⟨⟨(), q121, rfl, trivial, (List.flatten ([[(q121, .inr (16, [.int 0, .int (o_128.1), .null, .null]))]] : List va_W)), hph, by rw [ht, fl_two]; exact hP, va_K.moved hW.alike hK, by rw [fl_two]; exact hD⟩, hS.F ht⟩) hS.2.2 dX13_part_91
        · refine lv_if_ne (tgt := 76) hx hb dX13_part_36 (by decide) (fun _ => ?_) (fun c => absurd c hc120)
          refine va_new (ci := 16) (fs := [.int 0, .int 0, .null, .null]) (C := RX14) (T := TX14) (N := 4) hx hb hts i_X14 tyX14 tyX14_ok hown (hts _ qw1568) (hts _ qw1569) (hts _ qw1570) hK hP hD hS hA rfl df_X14 (show 0 + 1 ≤ (2 * C9 + 2) from by omega) (show 0 + 4 ≤ 4 * (2 * C9 + 2) from by omega) dX13_part_76 (fun q131 H hP hD hS => ?_)
          replace hP := vP_new hP
          replace hD := vD_new hD
          have hP : va_P (dC, dI) cls (List.flatten ([[(q131, .inr (16, [.int 0, .int 0, .null, .null]))], [((p0a 0), .inr (14, [.ref xv, .int (w3 0 1), .int (w3 0 2), .int (w3 0 3), .int (w3 0 4), .ref (p0a 6), .null, .ref (p0a 8), .ref (p0a 9), .int (w3 0 9), .int (w3 0 10), .int (w3 0 11), .int (w3 0 12)]))]] : List va_W)) H := hP
          have hD : va_D A (List.flatten ([[(q131, .inr (16, [.int 0, .int 0, .null, .null]))], [((p0a 0), .inr (14, [.ref xv, .int (w3 0 1), .int (w3 0 2), .int (w3 0 3), .int (w3 0 4), .ref (p0a 6), .null, .ref (p0a 8), .ref (p0a 9), .int (w3 0 9), .int (w3 0 10), .int (w3 0 11), .int (w3 0 12)]))]] : List va_W)) := hD
          have hK : va_K (dC, dI) cls (List.flatten ([[], []] : List (List (ClassId × FieldType)))) s := hK
          refine W.widen (k := (1)) (n := (4 * (1))) (by omega) (by omega) ?_
          refine lv_dup hx hb dX13_part_79 rfl ?_
          refine lv_iconst (v := 1) hx hb dX13_part_80 (by decide) ?_
          refine lv_aload_n hx hb dX13_part_81 rfl (lv_at hl 1 rfl) ?_
          refine lv_iconst (v := 4) hx hb dX13_part_82 (by decide) ?_
          obtain ⟨o_132, hc_132, hrun⟩ := bnd9 hrun
          have hPx : va_P (dC, dI) cls ((List.flatten ([[((p0a 0), .inr (14, [.ref xv, .int (w3 0 1), .int (w3 0 2), .int (w3 0 3), .int (w3 0 4), .ref (p0a 6), .null, .ref (p0a 8), .ref (p0a 9), .int (w3 0 9), .int (w3 0 10), .int (w3 0 11), .int (w3 0 12)]))]] : List va_W)) ++ (List.flatten ([[(q131, .inr (16, [.int 0, .int 0, .null, .null]))]] : List va_W))) H := vP_fa (vP_perm hP (bP ((((List.Perm.refl _)).cons _).trans (List.Perm.swap _ _ _))))
          have hDx : va_D A ((List.flatten ([[((p0a 0), .inr (14, [.ref xv, .int (w3 0 1), .int (w3 0 2), .int (w3 0 3), .int (w3 0 4), .ref (p0a 6), .null, .ref (p0a 8), .ref (p0a 9), .int (w3 0 9), .int (w3 0 10), .int (w3 0 11), .int (w3 0 12)]))]] : List va_W)) ++ (List.flatten ([[(q131, .inr (16, [.int 0, .int 0, .null, .null]))]] : List va_W))) := vD_fa (vD_perm hD (bP ((((List.Perm.refl _)).cons _).trans (List.Perm.swap _ _ _))))
          have hKx : va_K (dC, dI) cls ((List.flatten ([[]] : List (List (ClassId × FieldType)))) ++ (List.flatten ([[]] : List (List (ClassId × FieldType))))) s := vK_fa (vK_perm hK (bP ((((List.Perm.refl _)).cons _).trans (List.Perm.swap _ _ _))))
          have hPc := vP_l hPx
          have hDc := vD_l hDx
          have hKc := vK_l hKx
          have hFc := vfree hDx hS hA
          refine va_calli (va_runV (As := [.int 4]) (rest := [.int 1, .ref q131, .ref q131]) ⟨hx, hb, hml, hown, hts⟩ (kX13_draw l dC dI (p0a := (st0 (p0a 0) (st1 p0a 1 xv))) (p0w := w3) (p1 := 4) (xv := xv) (xm := xm) (xf := xf) (sz := _) (o := o_132) (hrun := hc_132)) (cwV 1 hts (gi_V qw1563 qw1564 qw1565 qw1566 (gi_z qw1562)) rfl rfl rfl (by decide +kernel) ⟨rmF (Nat.le_of_ble_eq_true rfl), rmL (Nat.le_of_ble_eq_true rfl)⟩) ⟨PRE.blind, va_recv hKc hPc (ci := 14) (q0 := 0) rfl rfl, PRE.of (ENV.add hE xq9_m hro_x) hS hFc hPc hKc hDc⟩ rfl rfl hl.1 rfl (lv_room (Nat.le_of_ble_eq_true rfl)) dX13_part_83 ⟨(show (1) + 0 ≤ (2 * C9 + 2) from by omega), (show (4 * (1)) + 0 ≤ 4 * (2 * C9 + 2) from by omega)⟩) hS (fun q _ h => hFc q h) hFc (fun r133 u t H locs ht hvm hw hB hz1 hk1 hS => ?_)
          obtain ⟨b1, b2, b3⟩ := hB
          rw [ht] at b1
          obtain ⟨hP, hD, hK⟩ := JOINC (wc := (List.flatten ([[((p0a 0), .inr (14, [.ref xv, .int (w3 0 1), .int (w3 0 2), .int (w3 0 3), .int (w3 0 4), .ref (p0a 6), .null, .ref (p0a 8), .ref (p0a 9), .int (w3 0 9), .int (w3 0 10), .int (w3 0 11), .int (w3 0 12)]))]] : List va_W))) (wr := (List.flatten ([[(q131, .inr (16, [.int 0, .int 0, .null, .null]))]] : List va_W))) (w1 := (List.flatten ([[((p0a 0), .inr (14, [.ref xv, .int ((o_132.2) 0 1), .int ((o_132.2) 0 2), .int ((o_132.2) 0 3), .int ((o_132.2) 0 4), .ref (p0a 6), .null, .ref (p0a 8), .ref (p0a 9), .int ((o_132.2) 0 9), .int ((o_132.2) 0 10), .int ((o_132.2) 0 11), .int ((o_132.2) 0 12)]))]] : List va_W))) (t1 := (List.flatten ([[]] : List (List (ClassId × FieldType))))) hPx hDx hKx hk1 hFc b1 (va_K.moved hvm.symm b2) b3
          have hP : va_P (dC, dI) cls (List.flatten ([[(q131, .inr (16, [.int 0, .int 0, .null, .null]))], [((p0a 0), .inr (14, [.ref xv, .int ((o_132.2) 0 1), .int ((o_132.2) 0 2), .int ((o_132.2) 0 3), .int ((o_132.2) 0 4), .ref (p0a 6), .null, .ref (p0a 8), .ref (p0a 9), .int ((o_132.2) 0 9), .int ((o_132.2) 0 10), .int ((o_132.2) 0 11), .int ((o_132.2) 0 12)]))]] : List va_W)) H := vP_perm (vP_fb hP) (bP ((((List.Perm.refl _)).cons _).trans (List.Perm.swap _ _ _)))
          have hD : va_D A (List.flatten ([[(q131, .inr (16, [.int 0, .int 0, .null, .null]))], [((p0a 0), .inr (14, [.ref xv, .int ((o_132.2) 0 1), .int ((o_132.2) 0 2), .int ((o_132.2) 0 3), .int ((o_132.2) 0 4), .ref (p0a 6), .null, .ref (p0a 8), .ref (p0a 9), .int ((o_132.2) 0 9), .int ((o_132.2) 0 10), .int ((o_132.2) 0 11), .int ((o_132.2) 0 12)]))]] : List va_W)) := vD_perm (vD_fb hD) (bP ((((List.Perm.refl _)).cons _).trans (List.Perm.swap _ _ _)))
          have hK : va_K (dC, dI) cls (List.flatten ([[], []] : List (List (ClassId × FieldType)))) s := vK_perm (vK_fb hK) (bP ((((List.Perm.refl _)).cons _).trans (List.Perm.swap _ _ _)))
          obtain rfl : r133 = (o_132.1) := hw
          refine lv_null hx hb dX13_part_86 ?_
          refine lv_null hx hb dX13_part_87 ?_
          obtain ⟨hz134, hrun⟩ := chk9 hrun
          have hPx : va_P (dC, dI) cls ((List.flatten ([[(q131, .inr (16, [.int 0, .int 0, .null, .null]))]] : List va_W)) ++ (List.flatten ([[((p0a 0), .inr (14, [.ref xv, .int ((o_132.2) 0 1), .int ((o_132.2) 0 2), .int ((o_132.2) 0 3), .int ((o_132.2) 0 4), .ref (p0a 6), .null, .ref (p0a 8), .ref (p0a 9), .int ((o_132.2) 0 9), .int ((o_132.2) 0 10), .int ((o_132.2) 0 11), .int ((o_132.2) 0 12)]))]] : List va_W))) H := vP_fa (vP_perm hP (bP (List.Perm.refl _)))
          have hDx : va_D A ((List.flatten ([[(q131, .inr (16, [.int 0, .int 0, .null, .null]))]] : List va_W)) ++ (List.flatten ([[((p0a 0), .inr (14, [.ref xv, .int ((o_132.2) 0 1), .int ((o_132.2) 0 2), .int ((o_132.2) 0 3), .int ((o_132.2) 0 4), .ref (p0a 6), .null, .ref (p0a 8), .ref (p0a 9), .int ((o_132.2) 0 9), .int ((o_132.2) 0 10), .int ((o_132.2) 0 11), .int ((o_132.2) 0 12)]))]] : List va_W))) := vD_fa (vD_perm hD (bP (List.Perm.refl _)))
          have hKx : va_K (dC, dI) cls ((List.flatten ([[]] : List (List (ClassId × FieldType)))) ++ (List.flatten ([[]] : List (List (ClassId × FieldType))))) s := vK_fa (vK_perm hK (bP (List.Perm.refl _)))
          have hPc := vP_l hPx
          have hDc := vD_l hDx
          have hKc := vK_l hKx
          have hFc := vfree hDx hS hA
          refine va_callv (va_runI (As := [.int 1, .int (o_132.1), .null, .null]) (rest := [.ref q131]) ⟨hx, hb, hml, hown, hts⟩ (kX14_init_nn l dC dI (p0h := q131) (p1 := 1) (p2 := (o_132.1)) (sz := _)) (cwI 4 hts (gi_z qw1576) rfl rfl rfl (hts _ qw1570) (hts _ qw1577) (hts _ qw1578) rfl (by decide +kernel) ⟨rmF (Nat.le_of_ble_eq_true rfl), rmL (Nat.le_of_ble_eq_true rfl)⟩) ⟨PRE.blind, PRE.of hE hS hFc hPc hKc hDc⟩ rfl rfl hl.1 rfl (lv_room (Nat.le_of_ble_eq_true rfl)) dX13_part_88 ⟨(show (1) + 0 ≤ (2 * C9 + 2) from by omega), (show (4 * (1)) + 0 ≤ 4 * (2 * C9 + 2) from by omega)⟩) hS (fun q _ h => hFc q h) hFc (fun u t H locs ht hvm hw hB hz1 hk1 hS => ?_)
          obtain ⟨b1, b2, b3⟩ := hB
          rw [ht] at b1
          obtain ⟨hP, hD, hK⟩ := JOINC (wc := (List.flatten ([[(q131, .inr (16, [.int 0, .int 0, .null, .null]))]] : List va_W))) (wr := (List.flatten ([[((p0a 0), .inr (14, [.ref xv, .int ((o_132.2) 0 1), .int ((o_132.2) 0 2), .int ((o_132.2) 0 3), .int ((o_132.2) 0 4), .ref (p0a 6), .null, .ref (p0a 8), .ref (p0a 9), .int ((o_132.2) 0 9), .int ((o_132.2) 0 10), .int ((o_132.2) 0 11), .int ((o_132.2) 0 12)]))]] : List va_W))) (w1 := (List.flatten ([[(q131, .inr (16, [.int 1, .int (o_132.1), .null, .null]))]] : List va_W))) (t1 := (List.flatten ([[]] : List (List (ClassId × FieldType))))) hPx hDx hKx hk1 hFc b1 (va_K.moved hvm.symm b2) b3
          have hP : va_P (dC, dI) cls (List.flatten ([[(q131, .inr (16, [.int 1, .int (o_132.1), .null, .null]))], [((p0a 0), .inr (14, [.ref xv, .int ((o_132.2) 0 1), .int ((o_132.2) 0 2), .int ((o_132.2) 0 3), .int ((o_132.2) 0 4), .ref (p0a 6), .null, .ref (p0a 8), .ref (p0a 9), .int ((o_132.2) 0 9), .int ((o_132.2) 0 10), .int ((o_132.2) 0 11), .int ((o_132.2) 0 12)]))]] : List va_W)) H := vP_perm (vP_fb hP) (bP (List.Perm.refl _))
          have hD : va_D A (List.flatten ([[(q131, .inr (16, [.int 1, .int (o_132.1), .null, .null]))], [((p0a 0), .inr (14, [.ref xv, .int ((o_132.2) 0 1), .int ((o_132.2) 0 2), .int ((o_132.2) 0 3), .int ((o_132.2) 0 4), .ref (p0a 6), .null, .ref (p0a 8), .ref (p0a 9), .int ((o_132.2) 0 9), .int ((o_132.2) 0 10), .int ((o_132.2) 0 11), .int ((o_132.2) 0 12)]))]] : List va_W)) := vD_perm (vD_fb hD) (bP (List.Perm.refl _))
          have hK : va_K (dC, dI) cls (List.flatten ([[], []] : List (List (ClassId × FieldType)))) s := vK_perm (vK_fb hK) (bP (List.Perm.refl _))
          have ho9 : ((pb0 1 (o_132.1)), (o_132.2)) = o := Option.some.inj hrun
          have hP : va_P (dC, dI) cls (List.flatten ([[((p0a 0), .inr (14, [.ref xv, .int ((o_132.2) 0 1), .int ((o_132.2) 0 2), .int ((o_132.2) 0 3), .int ((o_132.2) 0 4), .ref (p0a 6), .null, .ref (p0a 8), .ref (p0a 9), .int ((o_132.2) 0 9), .int ((o_132.2) 0 10), .int ((o_132.2) 0 11), .int ((o_132.2) 0 12)]))], [(q131, .inr (16, [.int 1, .int (o_132.1), .null, .null]))]] : List va_W)) H := vP_perm hP (bP ((((List.Perm.refl _)).cons _).trans (List.Perm.swap _ _ _)))
          have hD : va_D A (List.flatten ([[((p0a 0), .inr (14, [.ref xv, .int ((o_132.2) 0 1), .int ((o_132.2) 0 2), .int ((o_132.2) 0 3), .int ((o_132.2) 0 4), .ref (p0a 6), .null, .ref (p0a 8), .ref (p0a 9), .int ((o_132.2) 0 9), .int ((o_132.2) 0 10), .int ((o_132.2) 0 11), .int ((o_132.2) 0 12)]))], [(q131, .inr (16, [.int 1, .int (o_132.1), .null, .null]))]] : List va_W)) := vD_perm hD (bP ((((List.Perm.refl _)).cons _).trans (List.Perm.swap _ _ _)))
          subst ho9
          subst hQ
          have hph : ph9 (List.flatten ([[(q131, .inr (16, [.int 1, .int (o_132.1), .null, .null]))]] : List va_W)) (D9 + 1) q131 (pb0 1 (o_132.1)) := (ph_0 (fl_mem 0 rfl (List.mem_singleton.mpr rfl)) hz134)
          refine W.widen (k := (2 * C9 + 2)) (n := 4 * (2 * C9 + 2)) (by omega) (by omega) ?_
          exact W.aret (v := .ref q131) (rt := .object RX14) hx hb hr (Or.inl ⟨_, rfl⟩) (Or.inr ⟨_, rfl⟩) (fun t ht hW => ⟨⟨(), q131, rfl, trivial, (List.flatten ([[(q131, .inr (16, [.int 1, .int (o_132.1), .null, .null]))]] : List va_W)), hph, by rw [ht, fl_two]; exact hP, va_K.moved hW.alike hK, by rw [fl_two]; exact hD⟩, hS.F ht⟩) hS.2.2 dX13_part_91
def rP (xm : Nat) (xf : RI) : Nat → ST → Int32 → Option (List Int32 × ST)
  | 0 => fun _ _ => none
  | D + 1 => fX13_part (rP xm xf D) xm xf
def cP : Nat → Nat
  | 0 => 0
  | D + 1 => 2 * cP D + 2
theorem rP_ok (l : Launch) (xv xm : Nat) (xf : RI) : ∀ (D : Nat) {zs : ZS} (dC : Nat → ClassId) (dI : Nat → Nat → Nat) (p0a : Nat → Nat) (p0w : ST) (p1 : Int32) (sz : Nat) (o : List Int32 × ST) (hrun : (rP xm xf D) p0w p1 = some o), Met l yX13_part (wz yX13_part cX13_part 5 (Option.some (Jvm.ClassFile.FieldType.object "GearboxLaw$Part"))) ({ frames := 8 * D, cells := cP D, slots := 4 * cP D, locals := 400 * D } : Room) (va_Pc [.ref (p0a 0), .int p1] (PRE (zA zs (xq9 xv xm xf)) dC dI (List.flatten ([[((p0a 0), .inr (14, [.ref xv, .int (p0w 0 1), .int (p0w 0 2), .int (p0w 0 3), .int (p0w 0 4), .ref (p0a 6), .null, .ref (p0a 8), .ref (p0a 9), .int (p0w 0 9), .int (p0w 0 10), .int (p0w 0 11), .int (p0w 0 12)]))]] : List va_W)) (List.flatten ([[]] : List (List (ClassId × FieldType)))) sz)) (va_Qr (fun (_ : Unit) => True) (fun _ ra t => ∃ wt : va_W, ph9 wt D ra o.1 ∧ POST dC dI (List.flatten ([[((p0a 0), .inr (14, [.ref xv, .int (o.2 0 1), .int (o.2 0 2), .int (o.2 0 3), .int (o.2 0 4), .ref (p0a 6), .null, .ref (p0a 8), .ref (p0a 9), .int (o.2 0 9), .int (o.2 0 10), .int (o.2 0 11), .int (o.2 0 12)]))], wt] : List va_W)) (List.flatten ([[]] : List (List (ClassId × FieldType)))) (va_A (List.flatten ([[((p0a 0), .inr (14, [.ref xv, .int (p0w 0 1), .int (p0w 0 2), .int (p0w 0 3), .int (p0w 0 4), .ref (p0a 6), .null, .ref (p0a 8), .ref (p0a 9), .int (p0w 0 9), .int (p0w 0 10), .int (p0w 0 11), .int (p0w 0 12)]))]] : List va_W)) sz) t) (va_A (List.flatten ([[((p0a 0), .inr (14, [.ref xv, .int (p0w 0 1), .int (p0w 0 2), .int (p0w 0 3), .int (p0w 0 4), .ref (p0a 6), .null, .ref (p0a 8), .ref (p0a 9), .int (p0w 0 9), .int (p0w 0 10), .int (p0w 0 11), .int (p0w 0 12)]))]] : List va_W)) sz)) (cP D) (4 * (cP D)) (va_A (List.flatten ([[((p0a 0), .inr (14, [.ref xv, .int (p0w 0 1), .int (p0w 0 2), .int (p0w 0 3), .int (p0w 0 4), .ref (p0a 6), .null, .ref (p0a 8), .ref (p0a 9), .int (p0w 0 9), .int (p0w 0 10), .int (p0w 0 11), .int (p0w 0 12)]))]] : List va_W)) sz) := by
  intro D
  induction D with
  | zero => intro zs dC dI p0a p0w p1 sz o hrun; exact (no9 rfl hrun).elim
  | succ D ih => exact fun {zs} => kX13_part l (rP xm xf D) (8 * D) (400 * D) (cP D) D xv xm xf ih
