abbrev cX4_fillBlock : ByteArray := prog_6_method_23_code
def yX4_fillBlock : MethodName := ⟨RX4, "fillBlock", "(LGearbox$Program;ILGearbox$Flow;I)V"⟩
theorem dX4_fillBlock_0 : decode cX4_fillBlock 0 = .ok (.iload 4, 2) := by decide +kernel
theorem dX4_fillBlock_2 : decode cX4_fillBlock 2 = .ok (.sipush 320, 3) := by decide +kernel
theorem dX4_fillBlock_5 : decode cX4_fillBlock 5 = .ok (.imul, 1) := by decide +kernel
theorem dX4_fillBlock_6 : decode cX4_fillBlock 6 = .ok (.istore 5, 2) := by decide +kernel
theorem dX4_fillBlock_8 : decode cX4_fillBlock 8 = .ok (.iload 4, 2) := by decide +kernel
theorem dX4_fillBlock_10 : decode cX4_fillBlock 10 = .ok (.ifCond .ne 18, 3) := by decide +kernel
theorem dX4_fillBlock_13 : decode cX4_fillBlock 13 = .ok (.aload_n 0, 1) := by decide +kernel
theorem dX4_fillBlock_14 : decode cX4_fillBlock 14 = .ok (.getfield 64, 3) := by decide +kernel
theorem dX4_fillBlock_17 : decode cX4_fillBlock 17 = .ok (.iconst 0, 1) := by decide +kernel
theorem dX4_fillBlock_18 : decode cX4_fillBlock 18 = .ok (.sipush 320, 3) := by decide +kernel
theorem dX4_fillBlock_21 : decode cX4_fillBlock 21 = .ok (.iconst (-1), 1) := by decide +kernel
theorem dX4_fillBlock_22 : decode cX4_fillBlock 22 = .ok (.invokestatic 255, 3) := by decide +kernel
theorem dX4_fillBlock_25 : decode cX4_fillBlock 25 = .ok (.goto 33, 3) := by decide +kernel
theorem dX4_fillBlock_28 : decode cX4_fillBlock 28 = .ok (.aload_n 0, 1) := by decide +kernel
theorem dX4_fillBlock_29 : decode cX4_fillBlock 29 = .ok (.getfield 64, 3) := by decide +kernel
theorem dX4_fillBlock_32 : decode cX4_fillBlock 32 = .ok (.aload_n 3, 1) := by decide +kernel
theorem dX4_fillBlock_33 : decode cX4_fillBlock 33 = .ok (.getfield 258, 3) := by decide +kernel
theorem dX4_fillBlock_36 : decode cX4_fillBlock 36 = .ok (.iload 4, 2) := by decide +kernel
theorem dX4_fillBlock_38 : decode cX4_fillBlock 38 = .ok (.iaload, 1) := by decide +kernel
theorem dX4_fillBlock_39 : decode cX4_fillBlock 39 = .ok (.sipush 320, 3) := by decide +kernel
theorem dX4_fillBlock_42 : decode cX4_fillBlock 42 = .ok (.imul, 1) := by decide +kernel
theorem dX4_fillBlock_43 : decode cX4_fillBlock 43 = .ok (.aload_n 0, 1) := by decide +kernel
theorem dX4_fillBlock_44 : decode cX4_fillBlock 44 = .ok (.getfield 64, 3) := by decide +kernel
theorem dX4_fillBlock_47 : decode cX4_fillBlock 47 = .ok (.iload 5, 2) := by decide +kernel
theorem dX4_fillBlock_49 : decode cX4_fillBlock 49 = .ok (.aload_n 1, 1) := by decide +kernel
theorem dX4_fillBlock_50 : decode cX4_fillBlock 50 = .ok (.getfield 108, 3) := by decide +kernel
theorem dX4_fillBlock_53 : decode cX4_fillBlock 53 = .ok (.iload_n 2, 1) := by decide +kernel
theorem dX4_fillBlock_54 : decode cX4_fillBlock 54 = .ok (.iaload, 1) := by decide +kernel
theorem dX4_fillBlock_55 : decode cX4_fillBlock 55 = .ok (.invokestatic 261, 3) := by decide +kernel
theorem dX4_fillBlock_58 : decode cX4_fillBlock 58 = .ok (.aload_n 3, 1) := by decide +kernel
theorem dX4_fillBlock_59 : decode cX4_fillBlock 59 = .ok (.getfield 240, 3) := by decide +kernel
theorem dX4_fillBlock_62 : decode cX4_fillBlock 62 = .ok (.iload 4, 2) := by decide +kernel
theorem dX4_fillBlock_64 : decode cX4_fillBlock 64 = .ok (.iaload, 1) := by decide +kernel
theorem dX4_fillBlock_65 : decode cX4_fillBlock 65 = .ok (.istore 6, 2) := by decide +kernel
theorem dX4_fillBlock_67 : decode cX4_fillBlock 67 = .ok (.iload 6, 2) := by decide +kernel
theorem dX4_fillBlock_69 : decode cX4_fillBlock 69 = .ok (.ifCond .lt 37, 3) := by decide +kernel
theorem dX4_fillBlock_72 : decode cX4_fillBlock 72 = .ok (.aload_n 0, 1) := by decide +kernel
theorem dX4_fillBlock_73 : decode cX4_fillBlock 73 = .ok (.getfield 64, 3) := by decide +kernel
theorem dX4_fillBlock_76 : decode cX4_fillBlock 76 = .ok (.iload 5, 2) := by decide +kernel
theorem dX4_fillBlock_78 : decode cX4_fillBlock 78 = .ok (.aload_n 0, 1) := by decide +kernel
theorem dX4_fillBlock_79 : decode cX4_fillBlock 79 = .ok (.getfield 61, 3) := by decide +kernel
theorem dX4_fillBlock_82 : decode cX4_fillBlock 82 = .ok (.iload 6, 2) := by decide +kernel
theorem dX4_fillBlock_84 : decode cX4_fillBlock 84 = .ok (.iaload, 1) := by decide +kernel
theorem dX4_fillBlock_85 : decode cX4_fillBlock 85 = .ok (.iadd, 1) := by decide +kernel
theorem dX4_fillBlock_86 : decode cX4_fillBlock 86 = .ok (.aload_n 3, 1) := by decide +kernel
theorem dX4_fillBlock_87 : decode cX4_fillBlock 87 = .ok (.getfield 243, 3) := by decide +kernel
theorem dX4_fillBlock_90 : decode cX4_fillBlock 90 = .ok (.iload 6, 2) := by decide +kernel
theorem dX4_fillBlock_92 : decode cX4_fillBlock 92 = .ok (.iaload, 1) := by decide +kernel
theorem dX4_fillBlock_93 : decode cX4_fillBlock 93 = .ok (.iastore, 1) := by decide +kernel
theorem dX4_fillBlock_94 : decode cX4_fillBlock 94 = .ok (.aload_n 3, 1) := by decide +kernel
theorem dX4_fillBlock_95 : decode cX4_fillBlock 95 = .ok (.getfield 246, 3) := by decide +kernel
theorem dX4_fillBlock_98 : decode cX4_fillBlock 98 = .ok (.iload 6, 2) := by decide +kernel
theorem dX4_fillBlock_100 : decode cX4_fillBlock 100 = .ok (.iaload, 1) := by decide +kernel
theorem dX4_fillBlock_101 : decode cX4_fillBlock 101 = .ok (.istore 6, 2) := by decide +kernel
theorem dX4_fillBlock_103 : decode cX4_fillBlock 103 = .ok (.goto (-36), 3) := by decide +kernel
theorem dX4_fillBlock_106 : decode cX4_fillBlock 106 = .ok (.aload_n 0, 1) := by decide +kernel
theorem dX4_fillBlock_107 : decode cX4_fillBlock 107 = .ok (.iload 4, 2) := by decide +kernel
theorem dX4_fillBlock_109 : decode cX4_fillBlock 109 = .ok (.invokevirtual 208, 3) := by decide +kernel
theorem dX4_fillBlock_112 : decode cX4_fillBlock 112 = .ok (.istore 6, 2) := by decide +kernel
theorem dX4_fillBlock_114 : decode cX4_fillBlock 114 = .ok (.iload 6, 2) := by decide +kernel
theorem dX4_fillBlock_116 : decode cX4_fillBlock 116 = .ok (.aload_n 0, 1) := by decide +kernel
theorem dX4_fillBlock_117 : decode cX4_fillBlock 117 = .ok (.iload 4, 2) := by decide +kernel
theorem dX4_fillBlock_119 : decode cX4_fillBlock 119 = .ok (.invokevirtual 211, 3) := by decide +kernel
theorem dX4_fillBlock_122 : decode cX4_fillBlock 122 = .ok (.if_icmp .ge 152, 3) := by decide +kernel
theorem dX4_fillBlock_125 : decode cX4_fillBlock 125 = .ok (.aload_n 1, 1) := by decide +kernel
theorem dX4_fillBlock_126 : decode cX4_fillBlock 126 = .ok (.getfield 146, 3) := by decide +kernel
theorem dX4_fillBlock_129 : decode cX4_fillBlock 129 = .ok (.iload 6, 2) := by decide +kernel
theorem dX4_fillBlock_131 : decode cX4_fillBlock 131 = .ok (.iaload, 1) := by decide +kernel
theorem dX4_fillBlock_132 : decode cX4_fillBlock 132 = .ok (.istore 7, 2) := by decide +kernel
theorem dX4_fillBlock_134 : decode cX4_fillBlock 134 = .ok (.aload_n 1, 1) := by decide +kernel
theorem dX4_fillBlock_135 : decode cX4_fillBlock 135 = .ok (.getfield 139, 3) := by decide +kernel
theorem dX4_fillBlock_138 : decode cX4_fillBlock 138 = .ok (.iload 6, 2) := by decide +kernel
theorem dX4_fillBlock_140 : decode cX4_fillBlock 140 = .ok (.iaload, 1) := by decide +kernel
theorem dX4_fillBlock_141 : decode cX4_fillBlock 141 = .ok (.lookupswitch 117 #[(21, 87), (30, 43), (31, 63), (32, 63)], 43) := by decide +kernel
theorem dX4_fillBlock_184 : decode cX4_fillBlock 184 = .ok (.aload_n 0, 1) := by decide +kernel
theorem dX4_fillBlock_185 : decode cX4_fillBlock 185 = .ok (.getfield 18, 3) := by decide +kernel
theorem dX4_fillBlock_188 : decode cX4_fillBlock 188 = .ok (.iload 6, 2) := by decide +kernel
theorem dX4_fillBlock_190 : decode cX4_fillBlock 190 = .ok (.aload_n 0, 1) := by decide +kernel
theorem dX4_fillBlock_191 : decode cX4_fillBlock 191 = .ok (.getfield 64, 3) := by decide +kernel
theorem dX4_fillBlock_194 : decode cX4_fillBlock 194 = .ok (.iload 5, 2) := by decide +kernel
theorem dX4_fillBlock_196 : decode cX4_fillBlock 196 = .ok (.iload 7, 2) := by decide +kernel
theorem dX4_fillBlock_198 : decode cX4_fillBlock 198 = .ok (.iadd, 1) := by decide +kernel
theorem dX4_fillBlock_199 : decode cX4_fillBlock 199 = .ok (.iaload, 1) := by decide +kernel
theorem dX4_fillBlock_200 : decode cX4_fillBlock 200 = .ok (.iastore, 1) := by decide +kernel
theorem dX4_fillBlock_201 : decode cX4_fillBlock 201 = .ok (.goto 67, 3) := by decide +kernel
theorem dX4_fillBlock_204 : decode cX4_fillBlock 204 = .ok (.aload_n 0, 1) := by decide +kernel
theorem dX4_fillBlock_205 : decode cX4_fillBlock 205 = .ok (.getfield 64, 3) := by decide +kernel
theorem dX4_fillBlock_208 : decode cX4_fillBlock 208 = .ok (.iload 5, 2) := by decide +kernel
theorem dX4_fillBlock_210 : decode cX4_fillBlock 210 = .ok (.iload 7, 2) := by decide +kernel
theorem dX4_fillBlock_212 : decode cX4_fillBlock 212 = .ok (.iadd, 1) := by decide +kernel
theorem dX4_fillBlock_213 : decode cX4_fillBlock 213 = .ok (.aload_n 0, 1) := by decide +kernel
theorem dX4_fillBlock_214 : decode cX4_fillBlock 214 = .ok (.aload_n 0, 1) := by decide +kernel
theorem dX4_fillBlock_215 : decode cX4_fillBlock 215 = .ok (.getfield 9, 3) := by decide +kernel
theorem dX4_fillBlock_218 : decode cX4_fillBlock 218 = .ok (.iload 6, 2) := by decide +kernel
theorem dX4_fillBlock_220 : decode cX4_fillBlock 220 = .ok (.iaload, 1) := by decide +kernel
theorem dX4_fillBlock_221 : decode cX4_fillBlock 221 = .ok (.invokevirtual 267, 3) := by decide +kernel
theorem dX4_fillBlock_224 : decode cX4_fillBlock 224 = .ok (.iastore, 1) := by decide +kernel
theorem dX4_fillBlock_225 : decode cX4_fillBlock 225 = .ok (.goto 43, 3) := by decide +kernel
theorem dX4_fillBlock_228 : decode cX4_fillBlock 228 = .ok (.aload_n 0, 1) := by decide +kernel
theorem dX4_fillBlock_229 : decode cX4_fillBlock 229 = .ok (.getfield 64, 3) := by decide +kernel
theorem dX4_fillBlock_232 : decode cX4_fillBlock 232 = .ok (.iload 5, 2) := by decide +kernel
theorem dX4_fillBlock_234 : decode cX4_fillBlock 234 = .ok (.iload 7, 2) := by decide +kernel
theorem dX4_fillBlock_236 : decode cX4_fillBlock 236 = .ok (.iadd, 1) := by decide +kernel
theorem dX4_fillBlock_237 : decode cX4_fillBlock 237 = .ok (.aload_n 0, 1) := by decide +kernel
theorem dX4_fillBlock_238 : decode cX4_fillBlock 238 = .ok (.getfield 18, 3) := by decide +kernel
theorem dX4_fillBlock_241 : decode cX4_fillBlock 241 = .ok (.iload 6, 2) := by decide +kernel
theorem dX4_fillBlock_243 : decode cX4_fillBlock 243 = .ok (.iaload, 1) := by decide +kernel
theorem dX4_fillBlock_244 : decode cX4_fillBlock 244 = .ok (.iastore, 1) := by decide +kernel
theorem dX4_fillBlock_245 : decode cX4_fillBlock 245 = .ok (.aload_n 0, 1) := by decide +kernel
theorem dX4_fillBlock_246 : decode cX4_fillBlock 246 = .ok (.aload_n 1, 1) := by decide +kernel
theorem dX4_fillBlock_247 : decode cX4_fillBlock 247 = .ok (.aload_n 3, 1) := by decide +kernel
theorem dX4_fillBlock_248 : decode cX4_fillBlock 248 = .ok (.iload 4, 2) := by decide +kernel
theorem dX4_fillBlock_250 : decode cX4_fillBlock 250 = .ok (.iload 6, 2) := by decide +kernel
theorem dX4_fillBlock_252 : decode cX4_fillBlock 252 = .ok (.invokevirtual 270, 3) := by decide +kernel
theorem dX4_fillBlock_255 : decode cX4_fillBlock 255 = .ok (.goto 13, 3) := by decide +kernel
theorem dX4_fillBlock_258 : decode cX4_fillBlock 258 = .ok (.aload_n 0, 1) := by decide +kernel
theorem dX4_fillBlock_259 : decode cX4_fillBlock 259 = .ok (.aload_n 1, 1) := by decide +kernel
theorem dX4_fillBlock_260 : decode cX4_fillBlock 260 = .ok (.aload_n 3, 1) := by decide +kernel
theorem dX4_fillBlock_261 : decode cX4_fillBlock 261 = .ok (.iload 4, 2) := by decide +kernel
theorem dX4_fillBlock_263 : decode cX4_fillBlock 263 = .ok (.iload 6, 2) := by decide +kernel
theorem dX4_fillBlock_265 : decode cX4_fillBlock 265 = .ok (.invokevirtual 270, 3) := by decide +kernel
theorem dX4_fillBlock_268 : decode cX4_fillBlock 268 = .ok (.iinc 6 1, 3) := by decide +kernel
theorem dX4_fillBlock_271 : decode cX4_fillBlock 271 = .ok (.goto (-157), 3) := by decide +kernel
theorem dX4_fillBlock_274 : decode cX4_fillBlock 274 = .ok (.return_, 1) := by decide +kernel
theorem qw0 : Cond.fieldLink RX4 64 "Gearbox$Maker" "now" "[I" ∈ gw := mq_2 (i := 162) rfl rfl
theorem qw5 : Cond.code yJ7_fill_fda19 cJ7_fill_fda19 5 (Option.none : Option Jvm.ClassFile.FieldType) ∈ gw := mq_6 (i := 129) rfl rfl
theorem qw6 : Cond.methodLink RX4 255 yJ7_fill_fda19 ∈ gw := mq_6 (i := 127) rfl rfl
theorem qw7 : Cond.static yJ7_fill_fda19 ∈ gw := mq_6 (i := 128) rfl rfl
theorem qw8 : Cond.fieldLink RX4 240 "Gearbox$Flow" "firstPhi" "[I" ∈ gw := mq_1 (i := 239) rfl rfl
theorem qw9 : Cond.fieldLink RX4 61 "Gearbox$Maker" "phiVariable" "[I" ∈ gw := mq_2 (i := 161) rfl rfl
theorem qw10 : Cond.fieldLink RX4 243 "Gearbox$Flow" "phiGives" "[I" ∈ gw := mq_2 (i := 60) rfl rfl
theorem qw11 : Cond.fieldLink RX4 246 "Gearbox$Flow" "phiNext" "[I" ∈ gw := mq_2 (i := 67) rfl rfl
theorem qw14 : Cond.code yX4_opsFrom cX4_opsFrom 2 (Option.some Jvm.ClassFile.FieldType.int) ∈ gw := mq_6 (i := 70) rfl rfl
theorem qw15 : Cond.methodLink RX4 208 yX4_opsFrom ∈ gw := mq_6 (i := 67) rfl rfl
theorem qw16 : Cond.instanceMethod yX4_opsFrom ∈ gw := mq_6 (i := 69) rfl rfl
theorem qw17 : Cond.selects RX4 yX4_opsFrom yX4_opsFrom ∈ gw := mk_s (i := 0) rfl rfl
theorem qw20 : Cond.code yX4_opsTo cX4_opsTo 2 (Option.some Jvm.ClassFile.FieldType.int) ∈ gw := mq_6 (i := 74) rfl rfl
theorem qw21 : Cond.methodLink RX4 211 yX4_opsTo ∈ gw := mq_6 (i := 71) rfl rfl
theorem qw22 : Cond.instanceMethod yX4_opsTo ∈ gw := mq_6 (i := 73) rfl rfl
theorem qw23 : Cond.selects RX4 yX4_opsTo yX4_opsTo ∈ gw := mk_s (i := 1) rfl rfl
theorem qw73 : Cond.code yX4_fillStep cX4_fillStep 9 (Option.none : Option Jvm.ClassFile.FieldType) ∈ gw := mq_7 (i := 101) rfl rfl
theorem qw74 : Cond.methodLink RX4 270 yX4_fillStep ∈ gw := mq_7 (i := 98) rfl rfl
theorem qw75 : Cond.instanceMethod yX4_fillStep ∈ gw := mq_7 (i := 100) rfl rfl
theorem qw76 : Cond.selects RX4 yX4_fillStep yX4_fillStep ∈ gw := mk_s (i := 3) rfl rfl
theorem qw77 : Cond.fieldLink RX4 258 "Gearbox$Flow" "dominator" "[I" ∈ gw := mq_2 (i := 38) rfl rfl
theorem qw78 : Cond.fieldLink RX4 108 "Gearbox$Program" "variables" "[I" ∈ gw := mq_3 (i := 166) rfl rfl
theorem qw79 : Cond.methodLink RX4 261 ⟨"java/lang/System", "arraycopy", "(Ljava/lang/Object;ILjava/lang/Object;II)V"⟩ ∈ gw := mq_7 (i := 93) rfl rfl
def fX4_fillBlock_L67 (p3n : Nat → Nat) (p3w : ST) (p4 : Int32) : Nat → Int32 → ST → Option ST
  | 0 => fun _ _ => none
  | n_67 + 1 => fun v6_67 p0w_67 => (if v6_67 < 0 then some p0w_67 else (if ixb v6_67 250 = true then (if ixb v6_67 (p3n 19) = true then (if ixb ((p4 * 320) + (p0w_67 19 (nn v6_67))) 19200 = true then (lt9 (upw p0w_67 20 (nn ((p4 * 320) + (p0w_67 19 (nn v6_67)))) (p3w 19 (nn v6_67))) fun (w6 : ST) => (if ixb v6_67 (p3n 20) = true then ((fX4_fillBlock_L67 p3n p3w p4 n_67) (p3w 20 (nn v6_67)) w6) else none)) else none) else none) else none))
def fX4_fillBlock_J268 (kk114 : Int32 → ST → ST → ST → (Nat → Nat) → Option (ST × ST × ST × (Nat → Nat))) (v6_114 : Int32) (p0w_268 : ST) (p3w_268 : ST) (p3_2w_268 : ST) (p3_2n_268 : Nat → Nat) : Option (ST × ST × ST × (Nat → Nat)) := (kk114 (v6_114 + 1) p0w_268 p3w_268 p3_2w_268 p3_2n_268)
theorem mo_fX4_fillBlock_J268 {kk114 : Int32 → ST → ST → ST → (Nat → Nat) → Option (ST × ST × ST × (Nat → Nat))} {v6_114 : Int32} {p0w_268 : ST} {p3w_268 : ST} {p3_2w_268 : ST} {p3_2n_268 : Nat → Nat} {o9q : ST × ST × ST × (Nat → Nat)} (hkk : ∀ (v6_114q : Int32) (p0w_114q : ST) (p3w_114q : ST) (p3_2w_114q : ST) (p3_2n_114q : Nat → Nat) (r9 : ST × ST × ST × (Nat → Nat)), kk114 v6_114q p0w_114q p3w_114q p3_2w_114q p3_2n_114q = some r9 → glX9 p3_2n_114q (r9.2.2.2)) (hrun : fX4_fillBlock_J268 kk114 v6_114 p0w_268 p3w_268 p3_2w_268 p3_2n_268 = some o9q) : glX9 p3_2n_268 (o9q.2.2.2) := by
  unfold fX4_fillBlock_J268 at hrun
  exact (hkk _ _ _ _ _ _ hrun)
def fX4_fillBlock_G255_30 (kk114 : Int32 → ST → ST → ST → (Nat → Nat) → Option (ST × ST × ST × (Nat → Nat))) (v6_114 : Int32) (w18 : ST) (o_19 : ST × ST × (Nat → Nat)) : Option (ST × ST × ST × (Nat → Nat)) := (fX4_fillBlock_J268 kk114 v6_114 w18 (o_19.1) (o_19.2.1) (o_19.2.2))
theorem mo_fX4_fillBlock_G255_30 {kk114 : Int32 → ST → ST → ST → (Nat → Nat) → Option (ST × ST × ST × (Nat → Nat))} {v6_114 : Int32} {w18 : ST} {o_19 : ST × ST × (Nat → Nat)} {o9q : ST × ST × ST × (Nat → Nat)} (hkk : ∀ (v6_114q : Int32) (p0w_114q : ST) (p3w_114q : ST) (p3_2w_114q : ST) (p3_2n_114q : Nat → Nat) (r9 : ST × ST × ST × (Nat → Nat)), kk114 v6_114q p0w_114q p3w_114q p3_2w_114q p3_2n_114q = some r9 → glX9 p3_2n_114q (r9.2.2.2)) (hrun : fX4_fillBlock_G255_30 kk114 v6_114 w18 o_19 = some o9q) : glX9 (o_19.2.2) (o9q.2.2.2) := by
  unfold fX4_fillBlock_G255_30 at hrun
  exact (mo_fX4_fillBlock_J268 hkk hrun)
def fX4_fillBlock_G268_58 (kk114 : Int32 → ST → ST → ST → (Nat → Nat) → Option (ST × ST × ST × (Nat → Nat))) (v6_114 : Int32) (p0w_114 : ST) (o_47 : ST × ST × (Nat → Nat)) : Option (ST × ST × ST × (Nat → Nat)) := (fX4_fillBlock_J268 kk114 v6_114 p0w_114 (o_47.1) (o_47.2.1) (o_47.2.2))
theorem mo_fX4_fillBlock_G268_58 {kk114 : Int32 → ST → ST → ST → (Nat → Nat) → Option (ST × ST × ST × (Nat → Nat))} {v6_114 : Int32} {p0w_114 : ST} {o_47 : ST × ST × (Nat → Nat)} {o9q : ST × ST × ST × (Nat → Nat)} (hkk : ∀ (v6_114q : Int32) (p0w_114q : ST) (p3w_114q : ST) (p3_2w_114q : ST) (p3_2n_114q : Nat → Nat) (r9 : ST × ST × ST × (Nat → Nat)), kk114 v6_114q p0w_114q p3w_114q p3_2w_114q p3_2n_114q = some r9 → glX9 p3_2n_114q (r9.2.2.2)) (hrun : fX4_fillBlock_G268_58 kk114 v6_114 p0w_114 o_47 = some o9q) : glX9 (o_47.2.2) (o9q.2.2.2) := by
  unfold fX4_fillBlock_G268_58 at hrun
  exact (mo_fX4_fillBlock_J268 hkk hrun)
def fX4_fillBlock_L114 (p1w : ST) (p4 : Int32) : Nat → Int32 → ST → ST → ST → (Nat → Nat) → Option (ST × ST × ST × (Nat → Nat))
  | 0 => fun _ _ _ _ _ => none
  | n_114 + 1 => fun v6_114 p0w_114 p3w_114 p3_2w_114 p3_2n_114 => ((fX4_opsTo p0w_114 p4).bind fun (o_10 : Int32) => (if o_10 ≤ v6_114 then some (p0w_114, p3w_114, p3_2w_114, p3_2n_114) else (if ixb v6_114 3200 = true then (if ixb v6_114 3200 = true then (if (p1w 9 (nn v6_114)) = 21 then (if ixb v6_114 3200 = true then (if ixb ((p4 * 320) + (p1w 10 (nn v6_114))) 19200 = true then (lt9 (upw p0w_114 20 (nn ((p4 * 320) + (p1w 10 (nn v6_114)))) (p0w_114 4 (nn v6_114))) fun (w18 : ST) => ((fX4_fillStep w18 p1w p3w_114 p4 v6_114 p3_2n_114 p3_2w_114).bind fun (o_19 : ST × ST × (Nat → Nat)) => (fX4_fillBlock_G255_30 (fX4_fillBlock_L114 p1w p4 n_114) v6_114 w18 o_19))) else none) else none) else (if (p1w 9 (nn v6_114)) = 30 then (if ixb ((p4 * 320) + (p1w 10 (nn v6_114))) 19200 = true then (if ixb v6_114 3200 = true then (lt9 (upw p0w_114 4 (nn v6_114) (p0w_114 20 (nn ((p4 * 320) + (p1w 10 (nn v6_114)))))) fun (w34 : ST) => (fX4_fillBlock_J268 (fX4_fillBlock_L114 p1w p4 n_114) v6_114 w34 p3w_114 p3_2w_114 p3_2n_114)) else none) else none) else (if (p1w 9 (nn v6_114)) = 31 then (if ixb v6_114 3200 = true then ((fX4_valueAt p0w_114 (p0w_114 2 (nn v6_114))).bind fun (o_37 : Int32) => (if ixb ((p4 * 320) + (p1w 10 (nn v6_114))) 19200 = true then (lt9 (upw p0w_114 20 (nn ((p4 * 320) + (p1w 10 (nn v6_114)))) o_37) fun (w40 : ST) => (fX4_fillBlock_J268 (fX4_fillBlock_L114 p1w p4 n_114) v6_114 w40 p3w_114 p3_2w_114 p3_2n_114)) else none)) else none) else (if (p1w 9 (nn v6_114)) = 32 then (if ixb v6_114 3200 = true then ((fX4_valueAt p0w_114 (p0w_114 2 (nn v6_114))).bind fun (o_43 : Int32) => (if ixb ((p4 * 320) + (p1w 10 (nn v6_114))) 19200 = true then (lt9 (upw p0w_114 20 (nn ((p4 * 320) + (p1w 10 (nn v6_114)))) o_43) fun (w46 : ST) => (fX4_fillBlock_J268 (fX4_fillBlock_L114 p1w p4 n_114) v6_114 w46 p3w_114 p3_2w_114 p3_2n_114)) else none)) else none) else ((fX4_fillStep p0w_114 p1w p3w_114 p4 v6_114 p3_2n_114 p3_2w_114).bind fun (o_47 : ST × ST × (Nat → Nat)) => (fX4_fillBlock_G268_58 (fX4_fillBlock_L114 p1w p4 n_114) v6_114 p0w_114 o_47)))))) else none) else none)))
theorem mo_fX4_fillBlock_L114 {p1w : ST} {p4 : Int32} : ∀ (n_114 : Nat) (v6_114 : Int32) (p0w_114 : ST) (p3w_114 : ST) (p3_2w_114 : ST) (p3_2n_114 : Nat → Nat) (o9q : ST × ST × ST × (Nat → Nat)), (fX4_fillBlock_L114 p1w p4 n_114) v6_114 p0w_114 p3w_114 p3_2w_114 p3_2n_114 = some o9q → glX9 p3_2n_114 (o9q.2.2.2) := by
  intro n_114
  induction n_114 with
  | zero => intro v6_114 p0w_114 p3w_114 p3_2w_114 p3_2n_114 o9q hrun; exact (no9 rfl hrun).elim
  | succ n_114 ih9 =>
    intro v6_114 p0w_114 p3w_114 p3_2w_114 p3_2n_114 o9q hrun
    unfold fX4_fillBlock_L114 at hrun
    obtain ⟨o_10, hc_10, hrun⟩ := bnd9 hrun
    rcases br9 hrun with ⟨hc12, hrun⟩ | ⟨hc12, hrun⟩
    · skip
      obtain rfl := (Option.some.inj hrun)
      exact (glX9_rf _)
    · skip
      obtain ⟨hq13, hrun⟩ := chk9 hrun
      obtain ⟨hq14, hrun⟩ := chk9 hrun
      rcases br9 hrun with ⟨hc15, hrun⟩ | ⟨hc15, hrun⟩
      · skip
        obtain ⟨hq16, hrun⟩ := chk9 hrun
        obtain ⟨hq17, hrun⟩ := chk9 hrun
        obtain ⟨w18, ew18, hrun⟩ := let9 hrun
        obtain ⟨o_19, hc_19, hrun⟩ := bnd9 hrun
        exact (glX9_tr (mo_fX4_fillStep hc_19) (mo_fX4_fillBlock_G255_30 ih9 hrun))
      rcases br9 hrun with ⟨hc31, hrun⟩ | ⟨hc31, hrun⟩
      · skip
        obtain ⟨hq32, hrun⟩ := chk9 hrun
        obtain ⟨hq33, hrun⟩ := chk9 hrun
        obtain ⟨w34, ew34, hrun⟩ := let9 hrun
        exact (mo_fX4_fillBlock_J268 ih9 hrun)
      rcases br9 hrun with ⟨hc35, hrun⟩ | ⟨hc35, hrun⟩
      · skip
        obtain ⟨hq36, hrun⟩ := chk9 hrun
        obtain ⟨o_37, hc_37, hrun⟩ := bnd9 hrun
        obtain ⟨hq39, hrun⟩ := chk9 hrun
        obtain ⟨w40, ew40, hrun⟩ := let9 hrun
        exact (mo_fX4_fillBlock_J268 ih9 hrun)
      rcases br9 hrun with ⟨hc41, hrun⟩ | ⟨hc41, hrun⟩
      · skip
        obtain ⟨hq42, hrun⟩ := chk9 hrun
        obtain ⟨o_43, hc_43, hrun⟩ := bnd9 hrun
        obtain ⟨hq45, hrun⟩ := chk9 hrun
        obtain ⟨w46, ew46, hrun⟩ := let9 hrun
        exact (mo_fX4_fillBlock_J268 ih9 hrun)
      obtain ⟨o_47, hc_47, hrun⟩ := bnd9 hrun
      exact (glX9_tr (mo_fX4_fillStep hc_47) (mo_fX4_fillBlock_G268_58 ih9 hrun))
def fX4_fillBlock_G274_59 (o114 : ST × ST × ST × (Nat → Nat)) : Option (ST × ST × ST × (Nat → Nat)) := some ((o114.1), (o114.2.1), (o114.2.2.1), (o114.2.2.2))
theorem mo_fX4_fillBlock_G274_59 {o114 : ST × ST × ST × (Nat → Nat)} {o9q : ST × ST × ST × (Nat → Nat)} (hrun : fX4_fillBlock_G274_59 o114 = some o9q) : glX9 (o114.2.2.2) (o9q.2.2.2) := by
  unfold fX4_fillBlock_G274_59 at hrun
  obtain rfl := (Option.some.inj hrun)
  exact (glX9_rf _)
def fX4_fillBlock_J58 (p1w : ST) (p3n : Nat → Nat) (p3w : ST) (p4 : Int32) (p3_2n : Nat → Nat) (p3_2w : ST) (p0w_58 : ST) : Option (ST × ST × ST × (Nat → Nat)) := (if ixb p4 60 = true then ((fX4_fillBlock_L67 p3n p3w p4 NF (p3w 6 (nn p4)) p0w_58).bind fun (o67 : ST) => ((fX4_opsFrom o67 p4).bind fun (o_8 : Int32) => ((fX4_fillBlock_L114 p1w p4 NF o_8 o67 p3w p3_2w p3_2n).bind fun (o114 : ST × ST × ST × (Nat → Nat)) => (fX4_fillBlock_G274_59 o114)))) else none)
theorem mo_fX4_fillBlock_J58 {p1w : ST} {p3n : Nat → Nat} {p3w : ST} {p4 : Int32} {p3_2n : Nat → Nat} {p3_2w : ST} {p0w_58 : ST} {o9q : ST × ST × ST × (Nat → Nat)} (hrun : fX4_fillBlock_J58 p1w p3n p3w p4 p3_2n p3_2w p0w_58 = some o9q) : glX9 p3_2n (o9q.2.2.2) := by
  unfold fX4_fillBlock_J58 at hrun
  obtain ⟨hq1, hrun⟩ := chk9 hrun
  obtain ⟨o67, hc67, hrun⟩ := bnd9 hrun
  obtain ⟨o_8, hc_8, hrun⟩ := bnd9 hrun
  obtain ⟨o114, hc114, hrun⟩ := bnd9 hrun
  exact (glX9_tr (mo_fX4_fillBlock_L114 _ _ _ _ _ _ _ hc114) (mo_fX4_fillBlock_G274_59 hrun))
def fX4_fillBlock (p0w : ST) (p1w : ST) (p2 : Int32) (p3n : Nat → Nat) (p3w : ST) (p4 : Int32) (p3_2n : Nat → Nat) (p3_2w : ST) : Option (ST × ST × ST × (Nat → Nat)) := (if p4 = 0 then ((fJ7_fill_fda19 19200 (p0w 20) 0 320 (-1)).bind fun (o_61 : RI) => (fX4_fillBlock_J58 p1w p3n p3w p4 p3_2n p3_2w (srw p0w 20 o_61))) else (if ixb p4 60 = true then (if ixb p2 6 = true then (if cpk ((p3w 12 (nn p4)) * 320) (p4 * 320) (p1w 5 (nn p2)) 19200 19200 = true then (lt9 (srw p0w 20 (va_cpy (p0w 20) (p0w 20) (nn ((p3w 12 (nn p4)) * 320)) (nn (p4 * 320)) (nn (p1w 5 (nn p2))))) fun (w65 : ST) => (fX4_fillBlock_J58 p1w p3n p3w p4 p3_2n p3_2w w65)) else none) else none) else none))
theorem mo_fX4_fillBlock {p0w : ST} {p1w : ST} {p2 : Int32} {p3n : Nat → Nat} {p3w : ST} {p4 : Int32} {p3_2n : Nat → Nat} {p3_2w : ST} {o9q : ST × ST × ST × (Nat → Nat)} (hrun : fX4_fillBlock p0w p1w p2 p3n p3w p4 p3_2n p3_2w = some o9q) : glX9 p3_2n (o9q.2.2.2) := by
  unfold fX4_fillBlock at hrun
  rcases br9 hrun with ⟨hc60, hrun⟩ | ⟨hc60, hrun⟩
  · skip
    obtain ⟨o_61, hc_61, hrun⟩ := bnd9 hrun
    exact (mo_fX4_fillBlock_J58 hrun)
  · skip
    obtain ⟨hq62, hrun⟩ := chk9 hrun
    obtain ⟨hq63, hrun⟩ := chk9 hrun
    obtain ⟨hq64, hrun⟩ := chk9 hrun
    obtain ⟨w65, ew65, hrun⟩ := let9 hrun
    exact (mo_fX4_fillBlock_J58 hrun)
set_option maxHeartbeats 16000000 in
set_option maxRecDepth 100000 in
theorem kX4_fillBlock {zs : Nat × Nat} (l : Launch) (dC : Nat → ClassId) (dI : Nat → Nat → Nat) (p0a : Nat → Nat) (p0k : Nat → ClassId) (p0w : ST) (p0l : SL) (p1a : Nat → Nat) (p1k : Nat → ClassId) (p1w : ST) (p1l : SL) (p2 : Int32) (p3a : Nat → Nat) (p3k : Nat → ClassId) (p3n : Nat → Nat) (p3w : ST) (p3l : SL) (p4 : Int32) (p3_2a : Nat → Nat) (p3_2k : Nat → ClassId) (p3_2n : Nat → Nat) (p3_2w : ST) (sz : Nat) (o : ST × ST × ST × (Nat → Nat)) (hrun : fX4_fillBlock p0w p1w p2 p3n p3w p4 p3_2n p3_2w = some o) : Met l yX4_fillBlock (wz yX4_fillBlock cX4_fillBlock 8 (Option.none : Option Jvm.ClassFile.FieldType)) ({ frames := 5, cells := (gcX9 p3_2n (o.2.2.2)), slots := (3 * (gcX9 p3_2n (o.2.2.2))), locals := 141 } : Room) (va_Pc [.ref (p0a 0), .ref (p1a 0), .int p2, .ref (p3a 0), .int p4] (PRE zs dC dI ((oX4 (p0a 0) p0a p0k p0w p0l) ++ (oX6 (p1a 0) p1a p1k p1w p1l) ++ (oX1 (p3a 0) p3a p3k p3n p3w p3l) ++ (oX9 (p3a 3) p3_2a p3_2k p3_2n p3_2w)) ((tX4 p0k) ++ (tX6 p1k) ++ (tX1 p3k) ++ (tX9 p3_2k)) sz)) (va_Qv (fun (_ : Unit) => True) (fun _ t => ∃ (xp3_2_1_z : Nat), ∃ (zp3_2_1_z : ClassId), ∃ (xp3_2_2_z : Nat), ∃ (zp3_2_2_z : ClassId), ∃ (xp3_2_3_z : Nat), ∃ (zp3_2_3_z : ClassId), ∃ (xp3_2_4_z : Nat), ∃ (zp3_2_4_z : ClassId), ∃ (xp3_2_5_z : Nat), ∃ (zp3_2_5_z : ClassId), POST dC dI ((oX4 (p0a 0) p0a p0k (o.1) p0l) ++ (oX6 (p1a 0) p1a p1k p1w p1l) ++ (oX1 (p3a 0) p3a p3k p3n (o.2.1) p3l) ++ (oX9 (p3a 3) (st1 (st1 (st1 (st1 (st1 p3_2a 2 xp3_2_1_z) 3 xp3_2_2_z) 4 xp3_2_3_z) 5 xp3_2_4_z) 6 xp3_2_5_z) (st1 (st1 (st1 (st1 (st1 p3_2k 2 zp3_2_1_z) 3 zp3_2_2_z) 4 zp3_2_3_z) 5 zp3_2_4_z) 6 zp3_2_5_z) (o.2.2.2) (o.2.2.1))) ((tX4 p0k) ++ (tX6 p1k) ++ (tX1 p3k) ++ (tX9 (st1 (st1 (st1 (st1 (st1 p3_2k 2 zp3_2_1_z) 3 zp3_2_2_z) 4 zp3_2_3_z) 5 zp3_2_4_z) 6 zp3_2_5_z))) (va_A ((oX4 (p0a 0) p0a p0k p0w p0l) ++ (oX6 (p1a 0) p1a p1k p1w p1l) ++ (oX1 (p3a 0) p3a p3k p3n p3w p3l) ++ (oX9 (p3a 3) p3_2a p3_2k p3_2n p3_2w)) sz) t) (va_A ((oX4 (p0a 0) p0a p0k p0w p0l) ++ (oX6 (p1a 0) p1a p1k p1w p1l) ++ (oX1 (p3a 0) p3a p3k p3n p3w p3l) ++ (oX9 (p3a 3) p3_2a p3_2k p3_2n p3_2w)) sz)) (gcX9 p3_2n (o.2.2.2)) (3 * (gcX9 p3_2n (o.2.2.2))) (va_A ((oX4 (p0a 0) p0a p0k p0w p0l) ++ (oX6 (p1a 0) p1a p1k p1w p1l) ++ (oX1 (p3a 0) p3a p3k p3n p3w p3l) ++ (oX9 (p3a 3) p3_2a p3_2k p3_2n p3_2w)) sz) := by
  refine Met.ofW (cc := cX4_fillBlock) (maxL := 8) (ret := (Option.none : Option Jvm.ClassFile.FieldType)) (by decide) rfl ?_
  intro p e s m args below meth c s₁ B hml hv
  obtain ⟨rfl, hsz, hP, hK, hD0, hE⟩ := hv
  have hx := B.exec
  have hb := B.bytes
  have hr := B.returns
  have hts0 := atoms_spec (ws := wz yX4_fillBlock cX4_fillBlock 8 (Option.none : Option Jvm.ClassFile.FieldType)) B.pre
  have hts : ∀ w ∈ gw, w.before _ s = true := fun w h => hts0 w (List.mem_cons_of_mem _ h)
  have hown : s.vm.findClass RX4 = some m.cls := findClass_of_methodNamed B.named
  have hlocks := B.notSynchronized
  subst hsz
  have hD := hD0.self (sz := s.heap.size)
  refine gQ9 ?_
  intro Q hQ
  generalize hAe : va_A ((oX4 (p0a 0) p0a p0k p0w p0l) ++ (oX6 (p1a 0) p1a p1k p1w p1l) ++ (oX1 (p3a 0) p3a p3k p3n p3w p3l) ++ (oX9 (p3a 3) p3_2a p3_2k p3_2n p3_2w)) s.heap.size = A at hD hE hQ
  have hA : ∀ q : Nat, s.heap.size ≤ q → A q := fun q h => by rw [← hAe]; exact Or.inr h
  have hS : va_S A s.heap s.heap [] := va_S.rf
  have hP : va_P (dC, dI) cls ((oX4 (p0a 0) p0a p0k p0w p0l) ++ (oX6 (p1a 0) p1a p1k p1w p1l) ++ (oX1 (p3a 0) p3a p3k p3n p3w p3l) ++ (oX9 (p3a 3) p3_2a p3_2k p3_2n p3_2w)) s.heap := hP
  have hl := lv_entry ([.ref (p0a 0), .ref (p1a 0), .int p2, .ref (p3a 0), .int p4]) (n := 8) (Nat.le_of_ble_eq_true rfl)
  rw [lg_entry_eq]
  generalize (lg_sl ([.ref (p0a 0), .ref (p1a 0), .int p2, .ref (p3a 0), .int p4]) ++ List.replicate (8 - (lg_sl ([.ref (p0a 0), .ref (p1a 0), .int p2, .ref (p3a 0), .int p4])).length) Slot.unset).toArray = ls at hl ⊢
  have hl : lv_has ls 8 [(0, .ref (p0a 0)), (1, .ref (p1a 0)), (2, .int p2), (3, .ref (p3a 0)), (4, .int p4)] := hl
  obtain ⟨H, hHe⟩ : ∃ H, H = s.heap := ⟨_, rfl⟩
  obtain ⟨locs, hle⟩ : ∃ locs : List Loc, locs = [] := ⟨_, rfl⟩
  rw [← hHe] at hP
  have hS : va_S A s.heap H locs := by rw [hHe, hle]; exact hS
  show W p l e ({ frames := 5, cells := (gcX9 p3_2n (o.2.2.2)), slots := (3 * (gcX9 p3_2n (o.2.2.2))), locals := 141 } : Room) s m ([.ref (p0a 0), .ref (p1a 0), .int p2, .ref (p3a 0), .int p4] : List Value).toArray below meth c s.heap [] 0 0 Q (F0 m 0 ls [])
  rw [← hle]
  refine wH9 hHe ?_
  have hg_p3_2 := glX9_rf p3_2n
  have hgn_p3_2 : glX9 p3_2n (o.2.2.2) := (mo_fX4_fillBlock hrun)
  refine W.widen (k := (gcX9 p3_2n p3_2n)) (n := (3 * (gcX9 p3_2n p3_2n))) (Nat.zero_le _) (Nat.zero_le _) ?_
  unfold fX4_fillBlock at hrun
  refine lv_iload hx hb dX4_fillBlock_0 (lv_at hl 4 rfl) ?_
  refine lv_sipush (v := 320) hx hb dX4_fillBlock_2 (by decide) ?_
  refine lv_imul hx hb dX4_fillBlock_5 ?_
  refine lv_istore (lv' := [(5, .int (p4 * 320)), (0, .ref (p0a 0)), (1, .ref (p1a 0)), (2, .int p2), (3, .ref (p3a 0)), (4, .int p4)]) hx hb dX4_fillBlock_6 hl (by decide) rfl (fun ls hl => ?_)
  refine lv_iload hx hb dX4_fillBlock_8 (lv_at hl 5 rfl) ?_
  have J58 : ∀ (p0w_58 : ST) (H : Heap) (locs : List Loc) (ls : Array Slot), (fX4_fillBlock_J58 p1w p3n p3w p4 p3_2n p3_2w p0w_58) = some o → va_P (dC, dI) cls ((oX4 (p0a 0) p0a p0k p0w_58 p0l) ++ (oX6 (p1a 0) p1a p1k p1w p1l) ++ (oX1 (p3a 0) p3a p3k p3n p3w p3l) ++ (oX9 (p3a 3) p3_2a p3_2k p3_2n p3_2w)) H → va_D A ((oX4 (p0a 0) p0a p0k p0w_58 p0l) ++ (oX6 (p1a 0) p1a p1k p1w p1l) ++ (oX1 (p3a 0) p3a p3k p3n p3w p3l) ++ (oX9 (p3a 3) p3_2a p3_2k p3_2n p3_2w)) → va_K (dC, dI) cls ((tX4 p0k) ++ (tX6 p1k) ++ (tX1 p3k) ++ (tX9 p3_2k)) s → va_S A s.heap H locs → lv_has ls 8 [(0, .ref (p0a 0)), (1, .ref (p1a 0)), (3, .ref (p3a 0)), (4, .int p4), (5, .int (p4 * 320))] → glX9 p3_2n p3_2n → W p l e ({ frames := 5, cells := (gcX9 p3_2n (o.2.2.2)), slots := (3 * (gcX9 p3_2n (o.2.2.2))), locals := 141 } : Room) s m ([.ref (p0a 0), .ref (p1a 0), .int p2, .ref (p3a 0), .int p4] : List Value).toArray below meth c H locs (gcX9 p3_2n p3_2n) (3 * (gcX9 p3_2n p3_2n)) Q (F0 m 58 ls []) := by
    intro p0w_58 H locs ls hrun hP hD hK hS hl hg_p3_2 
    have hgn_p3_2 : glX9 p3_2n (o.2.2.2) := (mo_fX4_fillBlock_J58 hrun)
    unfold fX4_fillBlock_J58 at hrun
    refine lv_aload_n hx hb dX4_fillBlock_58 rfl (lv_at hl 2 rfl) ?_
    refine va_get (D := (dC, dI)) (ci := 4) (v := .ref (p3a 6)) (C := RX1) (T := TX1) (N := 21) hx hb hts i_X1 hown hK hP 30 rfl rfl 5 (by decide) (hts _ qw8) (fun _ h9 => h9) rfl dX4_fillBlock_59 ?_
    refine lv_iload hx hb dX4_fillBlock_62 (lv_at hl 3 rfl) ?_
    obtain ⟨hq1, hrun⟩ := chk9 hrun
    refine va_iald hx hb hK hP 33 30 rfl rfl (ixb_in hq1) dX4_fillBlock_64 ?_
    refine lv_istore (lv' := [(6, .int (p3w 6 (nn p4))), (0, .ref (p0a 0)), (1, .ref (p1a 0)), (3, .ref (p3a 0)), (4, .int p4), (5, .int (p4 * 320))]) hx hb dX4_fillBlock_65 hl (by decide) rfl (fun ls hl => ?_)
    have L67 : ∀ (n_67 : Nat) (v6_67 : Int32) (p0w_67 : ST) (o67 : ST) (H : Heap) (locs : List Loc) (ls : Array Slot), (fX4_fillBlock_L67 p3n p3w p4 n_67) v6_67 p0w_67 = some o67 → va_P (dC, dI) cls ((oX4 (p0a 0) p0a p0k p0w_67 p0l) ++ (oX6 (p1a 0) p1a p1k p1w p1l) ++ (oX1 (p3a 0) p3a p3k p3n p3w p3l) ++ (oX9 (p3a 3) p3_2a p3_2k p3_2n p3_2w)) H → va_D A ((oX4 (p0a 0) p0a p0k p0w_67 p0l) ++ (oX6 (p1a 0) p1a p1k p1w p1l) ++ (oX1 (p3a 0) p3a p3k p3n p3w p3l) ++ (oX9 (p3a 3) p3_2a p3_2k p3_2n p3_2w)) → va_K (dC, dI) cls ((tX4 p0k) ++ (tX6 p1k) ++ (tX1 p3k) ++ (tX9 p3_2k)) s → va_S A s.heap H locs → lv_has ls 8 [(0, .ref (p0a 0)), (1, .ref (p1a 0)), (3, .ref (p3a 0)), (4, .int p4), (5, .int (p4 * 320)), (6, .int v6_67)] → glX9 p3_2n p3_2n → (∀ (H : Heap) (locs : List Loc) (ls : Array Slot), va_P (dC, dI) cls ((oX4 (p0a 0) p0a p0k o67 p0l) ++ (oX6 (p1a 0) p1a p1k p1w p1l) ++ (oX1 (p3a 0) p3a p3k p3n p3w p3l) ++ (oX9 (p3a 3) p3_2a p3_2k p3_2n p3_2w)) H → va_D A ((oX4 (p0a 0) p0a p0k o67 p0l) ++ (oX6 (p1a 0) p1a p1k p1w p1l) ++ (oX1 (p3a 0) p3a p3k p3n p3w p3l) ++ (oX9 (p3a 3) p3_2a p3_2k p3_2n p3_2w)) → va_K (dC, dI) cls ((tX4 p0k) ++ (tX6 p1k) ++ (tX1 p3k) ++ (tX9 p3_2k)) s → va_S A s.heap H locs → lv_has ls 8 [(0, .ref (p0a 0)), (1, .ref (p1a 0)), (3, .ref (p3a 0)), (4, .int p4), (5, .int (p4 * 320))] → glX9 p3_2n p3_2n → W p l e ({ frames := 5, cells := (gcX9 p3_2n (o.2.2.2)), slots := (3 * (gcX9 p3_2n (o.2.2.2))), locals := 141 } : Room) s m ([.ref (p0a 0), .ref (p1a 0), .int p2, .ref (p3a 0), .int p4] : List Value).toArray below meth c H locs (gcX9 p3_2n p3_2n) (3 * (gcX9 p3_2n p3_2n)) Q (F0 m 106 ls [])) → W p l e ({ frames := 5, cells := (gcX9 p3_2n (o.2.2.2)), slots := (3 * (gcX9 p3_2n (o.2.2.2))), locals := 141 } : Room) s m ([.ref (p0a 0), .ref (p1a 0), .int p2, .ref (p3a 0), .int p4] : List Value).toArray below meth c H locs (gcX9 p3_2n p3_2n) (3 * (gcX9 p3_2n p3_2n)) Q (F0 m 67 ls []) := by
      intro n_67
      induction n_67 with
      | zero => intro v6_67 p0w_67 o67 H locs ls hrun; exact (no9 rfl hrun).elim
      | succ n_67 IH67 =>
        intro v6_67 p0w_67 o67 H locs ls hrun hP hD hK hS hl hg_p3_2 hk67
        unfold fX4_fillBlock_L67 at hrun
        refine lv_iload hx hb dX4_fillBlock_67 (lv_at hl 5 rfl) ?_
        rcases br9 hrun with ⟨hc2, hrun⟩ | ⟨hc2, hrun⟩
        · refine lv_if_lt (tgt := 106) hx hb dX4_fillBlock_69 (by decide) (fun _ => ?_) (fun c => absurd hc2 c)
          obtain rfl := (Option.some.inj hrun)
          exact hk67 _ _ _ hP hD hK hS (lv_sub hl [0, 1, 2, 3, 4] rfl) hg_p3_2
        · refine lv_if_lt (tgt := 106) hx hb dX4_fillBlock_69 (by decide) (fun c => absurd c hc2) (fun _ => ?_)
          refine lv_aload_n hx hb dX4_fillBlock_72 rfl (lv_at hl 0 rfl) ?_
          refine va_get (D := (dC, dI)) (ci := 6) (v := .ref (p0a 20)) (C := RX4) (T := TX4) (N := 20) hx hb hts i_X4 hown hK hP 0 rfl rfl 19 (by decide) (hts _ qw0) (fun _ h9 => h9) rfl dX4_fillBlock_73 ?_
          refine lv_iload hx hb dX4_fillBlock_76 (lv_at hl 4 rfl) ?_
          refine lv_aload_n hx hb dX4_fillBlock_78 rfl (lv_at hl 0 rfl) ?_
          refine va_get (D := (dC, dI)) (ci := 6) (v := .ref (p0a 19)) (C := RX4) (T := TX4) (N := 20) hx hb hts i_X4 hown hK hP 0 rfl rfl 18 (by decide) (hts _ qw9) (fun _ h9 => h9) rfl dX4_fillBlock_79 ?_
          refine lv_iload hx hb dX4_fillBlock_82 (lv_at hl 5 rfl) ?_
          obtain ⟨hq3, hrun⟩ := chk9 hrun
          refine va_iald hx hb hK hP 17 16 rfl rfl (ixb_in hq3) dX4_fillBlock_84 ?_
          refine lv_iadd hx hb dX4_fillBlock_85 ?_
          refine lv_aload_n hx hb dX4_fillBlock_86 rfl (lv_at hl 2 rfl) ?_
          refine va_get (D := (dC, dI)) (ci := 4) (v := .ref (p3a 19)) (C := RX1) (T := TX1) (N := 21) hx hb hts i_X1 hown hK hP 30 rfl rfl 18 (by decide) (hts _ qw10) (fun _ h9 => h9) rfl dX4_fillBlock_87 ?_
          refine lv_iload hx hb dX4_fillBlock_90 (lv_at hl 5 rfl) ?_
          obtain ⟨hq4, hrun⟩ := chk9 hrun
          refine va_iald hx hb hK hP 45 42 rfl rfl (ixb_in hq4) dX4_fillBlock_92 ?_
          obtain ⟨hq5, hrun⟩ := chk9 hrun
          refine va_iast hx hb hK hP hD hS 18 17 rfl rfl (ixb_in hq5) dX4_fillBlock_93 (fun H locs hP hD hS => ?_)
          have hP : va_P (dC, dI) cls ((oX4 (p0a 0) p0a p0k (upw p0w_67 20 (nn ((p4 * 320) + (p0w_67 19 (nn v6_67)))) (p3w 19 (nn v6_67))) p0l) ++ (oX6 (p1a 0) p1a p1k p1w p1l) ++ (oX1 (p3a 0) p3a p3k p3n p3w p3l) ++ (oX9 (p3a 3) p3_2a p3_2k p3_2n p3_2w)) H := hP
          have hD : va_D A ((oX4 (p0a 0) p0a p0k (upw p0w_67 20 (nn ((p4 * 320) + (p0w_67 19 (nn v6_67)))) (p3w 19 (nn v6_67))) p0l) ++ (oX6 (p1a 0) p1a p1k p1w p1l) ++ (oX1 (p3a 0) p3a p3k p3n p3w p3l) ++ (oX9 (p3a 3) p3_2a p3_2k p3_2n p3_2w)) := hD
          obtain ⟨w6, ew6, hrun⟩ := let9 hrun
          rw [← ew6] at hP hD
          refine lv_aload_n hx hb dX4_fillBlock_94 rfl (lv_at hl 2 rfl) ?_
          refine va_get (D := (dC, dI)) (ci := 4) (v := .ref (p3a 20)) (C := RX1) (T := TX1) (N := 21) hx hb hts i_X1 hown hK hP 30 rfl rfl 19 (by decide) (hts _ qw11) (fun _ h9 => h9) rfl dX4_fillBlock_95 ?_
          refine lv_iload hx hb dX4_fillBlock_98 (lv_at hl 5 rfl) ?_
          obtain ⟨hq7, hrun⟩ := chk9 hrun
          refine va_iald hx hb hK hP 46 43 rfl rfl (ixb_in hq7) dX4_fillBlock_100 ?_
          refine lv_istore (lv' := [(6, .int (p3w 20 (nn v6_67))), (0, .ref (p0a 0)), (1, .ref (p1a 0)), (3, .ref (p3a 0)), (4, .int p4), (5, .int (p4 * 320))]) hx hb dX4_fillBlock_101 hl (by decide) rfl (fun ls hl => ?_)
          refine lv_goto (tgt := 67) hx hb dX4_fillBlock_103 (by decide) ?_
          exact IH67 (p3w 20 (nn v6_67)) w6 o67 _ _ _ hrun hP hD hK hS (lv_sub hl [1, 2, 3, 4, 5, 0] rfl) hg_p3_2 hk67
    obtain ⟨o67, hc67, hrun⟩ := bnd9 hrun
    refine L67 NF (p3w 6 (nn p4)) p0w_58 o67 _ _ _ hc67 hP hD hK hS (lv_sub hl [1, 2, 3, 4, 5, 0] rfl) hg_p3_2 ?_
    intro H locs ls hP hD hK hS hl hg_p3_2
    have hl := hl
    refine lv_aload_n hx hb dX4_fillBlock_106 rfl (lv_at hl 0 rfl) ?_
    refine lv_iload hx hb dX4_fillBlock_107 (lv_at hl 3 rfl) ?_
    obtain ⟨o_8, hc_8, hrun⟩ := bnd9 hrun
    have hPc := hP.sub (ws' := (oX4 (p0a 0) p0a p0k o67 p0l)) [0, 1, 2, 3, 4, 5, 6, 7, 8, 9, 10, 11, 12, 13, 14, 15, 16, 17, 18] rfl
    have hDc := hD.sub (ws' := (oX4 (p0a 0) p0a p0k o67 p0l)) [0, 1, 2, 3, 4, 5, 6, 7, 8, 9, 10, 11, 12, 13, 14, 15, 16, 17, 18] (by decide +kernel) rfl
    have hKc := hK.sub (tys' := (tX4 p0k)) [0, 1, 2, 3, 4, 5, 6, 7, 8, 9, 10, 11, 12, 13, 14, 15, 16, 17] rfl
    have hFc := va_free (wc := (oX4 (p0a 0) p0a p0k o67 p0l)) hD hS hA [0, 1, 2, 3, 4, 5, 6, 7, 8, 9, 10, 11, 12, 13, 14, 15, 16, 17, 18] rfl
    refine va_calli (va_runV (As := [.int p4]) (rest := []) ⟨hx, hb, hml, hown, hts⟩ (kX4_opsFrom l dC dI (p0a := (st0 (p0a 0) p0a)) (p0k := p0k) (p0w := o67) (p0l := p0l) (p1 := p4) (sz := _) (o := o_8) (hrun := hc_8)) (cwV 1 hts (gi_V qw15 qw16 qw17 qw18 (gi_z qw14)) rfl rfl rfl (by decide +kernel) ⟨Nat.le_of_ble_eq_true rfl, Nat.le_of_ble_eq_true rfl⟩) ⟨PRE.blind, va_recv hKc hPc (ci := 6) (q0 := 0) rfl rfl, PRE.of hE hS hFc hPc hKc hDc⟩ rfl rfl hl.1 rfl (lv_room (Nat.le_of_ble_eq_true rfl)) dX4_fillBlock_109 ⟨(show (gcX9 p3_2n p3_2n) + 0 ≤ (gcX9 p3_2n (o.2.2.2)) from by have q0 := gmX9 hg_p3_2 hgn_p3_2; omega), (show (3 * (gcX9 p3_2n p3_2n)) + 0 ≤ (3 * (gcX9 p3_2n (o.2.2.2))) from by have q0 := gmX9 hg_p3_2 hgn_p3_2; omega)⟩) hS (fun q _ h => hFc q h) hFc (fun r9 u t H locs ht hvm hw hB hz1 hk1 hS => ?_)
    obtain ⟨hP, hD, hK⟩ := JOIN (wr := ((oX6 (p1a 0) p1a p1k p1w p1l) ++ (oX1 (p3a 0) p3a p3k p3n p3w p3l) ++ (oX9 (p3a 3) p3_2a p3_2k p3_2n p3_2w))) hP hD hK [0, 1, 2, 3, 4, 5, 6, 7, 8, 9, 10, 11, 12, 13, 14, 15, 16, 17, 18] [19, 20, 21, 22, 23, 24, 25, 26, 27, 28, 29, 30, 31, 32, 33, 34, 35, 36, 37, 38, 39, 40, 41, 42, 43, 44, 45, 46, 47, 48, 49, 50, 51, 52, 53] [18, 19, 20, 21, 22, 23, 24, 25, 26, 27, 28, 29, 30, 31, 32, 33, 34, 35, 36, 37, 38, 39, 40, 41, 42, 43, 44, 45, 46, 47, 48, 49] rfl rfl (by decide +kernel) (by decide +kernel) rfl hk1 hFc ht hvm hB
    have hP : va_P (dC, dI) cls ((oX4 (p0a 0) p0a p0k o67 p0l) ++ (oX6 (p1a 0) p1a p1k p1w p1l) ++ (oX1 (p3a 0) p3a p3k p3n p3w p3l) ++ (oX9 (p3a 3) p3_2a p3_2k p3_2n p3_2w)) H := hP.sub [35, 36, 37, 38, 39, 40, 41, 42, 43, 44, 45, 46, 47, 48, 49, 50, 51, 52, 53, 0, 1, 2, 3, 4, 5, 6, 7, 8, 9, 10, 11, 12, 13, 14, 15, 16, 17, 18, 19, 20, 21, 22, 23, 24, 25, 26, 27, 28, 29, 30, 31, 32, 33, 34] rfl
    have hD : va_D A ((oX4 (p0a 0) p0a p0k o67 p0l) ++ (oX6 (p1a 0) p1a p1k p1w p1l) ++ (oX1 (p3a 0) p3a p3k p3n p3w p3l) ++ (oX9 (p3a 3) p3_2a p3_2k p3_2n p3_2w)) := hD.sub [35, 36, 37, 38, 39, 40, 41, 42, 43, 44, 45, 46, 47, 48, 49, 50, 51, 52, 53, 0, 1, 2, 3, 4, 5, 6, 7, 8, 9, 10, 11, 12, 13, 14, 15, 16, 17, 18, 19, 20, 21, 22, 23, 24, 25, 26, 27, 28, 29, 30, 31, 32, 33, 34] (by decide +kernel) rfl
    have hK : va_K (dC, dI) cls ((tX4 p0k) ++ (tX6 p1k) ++ (tX1 p3k) ++ (tX9 p3_2k)) s := hK.sub [32, 33, 34, 35, 36, 37, 38, 39, 40, 41, 42, 43, 44, 45, 46, 47, 48, 49, 0, 1, 2, 3, 4, 5, 6, 7, 8, 9, 10, 11, 12, 13, 14, 15, 16, 17, 18, 19, 20, 21, 22, 23, 24, 25, 26, 27, 28, 29, 30, 31] rfl
    obtain rfl : o_8 = r9 := hw.symm
    refine lv_istore (lv' := [(6, .int o_8), (0, .ref (p0a 0)), (1, .ref (p1a 0)), (3, .ref (p3a 0)), (4, .int p4), (5, .int (p4 * 320))]) hx hb dX4_fillBlock_112 hl (by decide) rfl (fun ls hl => ?_)
    obtain ⟨o114, hc114, hrun⟩ := bnd9 hrun
    have hgn_p3_2 : glX9 (o114.2.2.2) (o.2.2.2) := (mo_fX4_fillBlock_G274_59 hrun)
    have L114 : ∀ (n_114 : Nat) (v6_114 : Int32) (p0w_114 : ST) (p3w_114 : ST) (p3_2w_114 : ST) (p3_2n_114 : Nat → Nat) (xp3_2_1_114 : Nat) (zp3_2_1_114 : ClassId) (xp3_2_2_114 : Nat) (zp3_2_2_114 : ClassId) (xp3_2_3_114 : Nat) (zp3_2_3_114 : ClassId) (xp3_2_4_114 : Nat) (zp3_2_4_114 : ClassId) (xp3_2_5_114 : Nat) (zp3_2_5_114 : ClassId) (o114 : ST × ST × ST × (Nat → Nat)) (H : Heap) (locs : List Loc) (ls : Array Slot), (fX4_fillBlock_L114 p1w p4 n_114) v6_114 p0w_114 p3w_114 p3_2w_114 p3_2n_114 = some o114 → va_P (dC, dI) cls ((oX4 (p0a 0) p0a p0k p0w_114 p0l) ++ (oX6 (p1a 0) p1a p1k p1w p1l) ++ (oX1 (p3a 0) p3a p3k p3n p3w_114 p3l) ++ (oX9 (p3a 3) (st1 (st1 (st1 (st1 (st1 p3_2a 2 xp3_2_1_114) 3 xp3_2_2_114) 4 xp3_2_3_114) 5 xp3_2_4_114) 6 xp3_2_5_114) (st1 (st1 (st1 (st1 (st1 p3_2k 2 zp3_2_1_114) 3 zp3_2_2_114) 4 zp3_2_3_114) 5 zp3_2_4_114) 6 zp3_2_5_114) p3_2n_114 p3_2w_114)) H → va_D A ((oX4 (p0a 0) p0a p0k p0w_114 p0l) ++ (oX6 (p1a 0) p1a p1k p1w p1l) ++ (oX1 (p3a 0) p3a p3k p3n p3w_114 p3l) ++ (oX9 (p3a 3) (st1 (st1 (st1 (st1 (st1 p3_2a 2 xp3_2_1_114) 3 xp3_2_2_114) 4 xp3_2_3_114) 5 xp3_2_4_114) 6 xp3_2_5_114) (st1 (st1 (st1 (st1 (st1 p3_2k 2 zp3_2_1_114) 3 zp3_2_2_114) 4 zp3_2_3_114) 5 zp3_2_4_114) 6 zp3_2_5_114) p3_2n_114 p3_2w_114)) → va_K (dC, dI) cls ((tX4 p0k) ++ (tX6 p1k) ++ (tX1 p3k) ++ (tX9 (st1 (st1 (st1 (st1 (st1 p3_2k 2 zp3_2_1_114) 3 zp3_2_2_114) 4 zp3_2_3_114) 5 zp3_2_4_114) 6 zp3_2_5_114))) s → va_S A s.heap H locs → lv_has ls 8 [(0, .ref (p0a 0)), (1, .ref (p1a 0)), (3, .ref (p3a 0)), (4, .int p4), (5, .int (p4 * 320)), (6, .int v6_114)] → glX9 p3_2n p3_2n_114 → glX9 (o114.2.2.2) (o.2.2.2) → (∀ (xp3_2_1_114x : Nat) (zp3_2_1_114x : ClassId) (xp3_2_2_114x : Nat) (zp3_2_2_114x : ClassId) (xp3_2_3_114x : Nat) (zp3_2_3_114x : ClassId) (xp3_2_4_114x : Nat) (zp3_2_4_114x : ClassId) (xp3_2_5_114x : Nat) (zp3_2_5_114x : ClassId) (H : Heap) (locs : List Loc) (ls : Array Slot), va_P (dC, dI) cls ((oX4 (p0a 0) p0a p0k (o114.1) p0l) ++ (oX6 (p1a 0) p1a p1k p1w p1l) ++ (oX1 (p3a 0) p3a p3k p3n (o114.2.1) p3l) ++ (oX9 (p3a 3) (st1 (st1 (st1 (st1 (st1 p3_2a 2 xp3_2_1_114x) 3 xp3_2_2_114x) 4 xp3_2_3_114x) 5 xp3_2_4_114x) 6 xp3_2_5_114x) (st1 (st1 (st1 (st1 (st1 p3_2k 2 zp3_2_1_114x) 3 zp3_2_2_114x) 4 zp3_2_3_114x) 5 zp3_2_4_114x) 6 zp3_2_5_114x) (o114.2.2.2) (o114.2.2.1))) H → va_D A ((oX4 (p0a 0) p0a p0k (o114.1) p0l) ++ (oX6 (p1a 0) p1a p1k p1w p1l) ++ (oX1 (p3a 0) p3a p3k p3n (o114.2.1) p3l) ++ (oX9 (p3a 3) (st1 (st1 (st1 (st1 (st1 p3_2a 2 xp3_2_1_114x) 3 xp3_2_2_114x) 4 xp3_2_3_114x) 5 xp3_2_4_114x) 6 xp3_2_5_114x) (st1 (st1 (st1 (st1 (st1 p3_2k 2 zp3_2_1_114x) 3 zp3_2_2_114x) 4 zp3_2_3_114x) 5 zp3_2_4_114x) 6 zp3_2_5_114x) (o114.2.2.2) (o114.2.2.1))) → va_K (dC, dI) cls ((tX4 p0k) ++ (tX6 p1k) ++ (tX1 p3k) ++ (tX9 (st1 (st1 (st1 (st1 (st1 p3_2k 2 zp3_2_1_114x) 3 zp3_2_2_114x) 4 zp3_2_3_114x) 5 zp3_2_4_114x) 6 zp3_2_5_114x))) s → va_S A s.heap H locs → lv_has ls 8 [] → glX9 p3_2n (o114.2.2.2) → W p l e ({ frames := 5, cells := (gcX9 p3_2n (o.2.2.2)), slots := (3 * (gcX9 p3_2n (o.2.2.2))), locals := 141 } : Room) s m ([.ref (p0a 0), .ref (p1a 0), .int p2, .ref (p3a 0), .int p4] : List Value).toArray below meth c H locs (gcX9 p3_2n (o114.2.2.2)) (3 * (gcX9 p3_2n (o114.2.2.2))) Q (F0 m 274 ls [])) → W p l e ({ frames := 5, cells := (gcX9 p3_2n (o.2.2.2)), slots := (3 * (gcX9 p3_2n (o.2.2.2))), locals := 141 } : Room) s m ([.ref (p0a 0), .ref (p1a 0), .int p2, .ref (p3a 0), .int p4] : List Value).toArray below meth c H locs (gcX9 p3_2n p3_2n_114) (3 * (gcX9 p3_2n p3_2n_114)) Q (F0 m 114 ls []) := by
      intro n_114
      induction n_114 with
      | zero => intro v6_114 p0w_114 p3w_114 p3_2w_114 p3_2n_114 xp3_2_1_114 zp3_2_1_114 xp3_2_2_114 zp3_2_2_114 xp3_2_3_114 zp3_2_3_114 xp3_2_4_114 zp3_2_4_114 xp3_2_5_114 zp3_2_5_114 o114 H locs ls hrun; exact (no9 rfl hrun).elim
      | succ n_114 IH114 =>
        intro v6_114 p0w_114 p3w_114 p3_2w_114 p3_2n_114 xp3_2_1_114 zp3_2_1_114 xp3_2_2_114 zp3_2_2_114 xp3_2_3_114 zp3_2_3_114 xp3_2_4_114 zp3_2_4_114 xp3_2_5_114 zp3_2_5_114 o114 H locs ls hrun hP hD hK hS hl hg_p3_2 hgo_p3_2 hk114
        have hgn_p3_2 : glX9 p3_2n_114 (o.2.2.2) := (glX9_tr (mo_fX4_fillBlock_L114 (n_114 + 1) _ _ _ _ _ _ hrun) hgo_p3_2)
        unfold fX4_fillBlock_L114 at hrun
        refine lv_iload hx hb dX4_fillBlock_114 (lv_at hl 5 rfl) ?_
        refine lv_aload_n hx hb dX4_fillBlock_116 rfl (lv_at hl 0 rfl) ?_
        refine lv_iload hx hb dX4_fillBlock_117 (lv_at hl 3 rfl) ?_
        obtain ⟨o_10, hc_10, hrun⟩ := bnd9 hrun
        have hPc := hP.sub (ws' := (oX4 (p0a 0) p0a p0k p0w_114 p0l)) [0, 1, 2, 3, 4, 5, 6, 7, 8, 9, 10, 11, 12, 13, 14, 15, 16, 17, 18] rfl
        have hDc := hD.sub (ws' := (oX4 (p0a 0) p0a p0k p0w_114 p0l)) [0, 1, 2, 3, 4, 5, 6, 7, 8, 9, 10, 11, 12, 13, 14, 15, 16, 17, 18] (by decide +kernel) rfl
        have hKc := hK.sub (tys' := (tX4 p0k)) [0, 1, 2, 3, 4, 5, 6, 7, 8, 9, 10, 11, 12, 13, 14, 15, 16, 17] rfl
        have hFc := va_free (wc := (oX4 (p0a 0) p0a p0k p0w_114 p0l)) hD hS hA [0, 1, 2, 3, 4, 5, 6, 7, 8, 9, 10, 11, 12, 13, 14, 15, 16, 17, 18] rfl
        refine va_calli (va_runV (As := [.int p4]) (rest := [.int v6_114]) ⟨hx, hb, hml, hown, hts⟩ (kX4_opsTo l dC dI (p0a := (st0 (p0a 0) p0a)) (p0k := p0k) (p0w := p0w_114) (p0l := p0l) (p1 := p4) (sz := _) (o := o_10) (hrun := hc_10)) (cwV 1 hts (gi_V qw21 qw22 qw23 qw18 (gi_z qw20)) rfl rfl rfl (by decide +kernel) ⟨Nat.le_of_ble_eq_true rfl, Nat.le_of_ble_eq_true rfl⟩) ⟨PRE.blind, va_recv hKc hPc (ci := 6) (q0 := 0) rfl rfl, PRE.of hE hS hFc hPc hKc hDc⟩ rfl rfl hl.1 rfl (lv_room (Nat.le_of_ble_eq_true rfl)) dX4_fillBlock_119 ⟨(show (gcX9 p3_2n p3_2n_114) + 0 ≤ (gcX9 p3_2n (o.2.2.2)) from by have q0 := gmX9 hg_p3_2 hgn_p3_2; omega), (show (3 * (gcX9 p3_2n p3_2n_114)) + 0 ≤ (3 * (gcX9 p3_2n (o.2.2.2))) from by have q0 := gmX9 hg_p3_2 hgn_p3_2; omega)⟩) hS (fun q _ h => hFc q h) hFc (fun r11 u t H locs ht hvm hw hB hz1 hk1 hS => ?_)
        obtain ⟨hP, hD, hK⟩ := JOIN (wr := ((oX6 (p1a 0) p1a p1k p1w p1l) ++ (oX1 (p3a 0) p3a p3k p3n p3w_114 p3l) ++ (oX9 (p3a 3) (st1 (st1 (st1 (st1 (st1 p3_2a 2 xp3_2_1_114) 3 xp3_2_2_114) 4 xp3_2_3_114) 5 xp3_2_4_114) 6 xp3_2_5_114) (st1 (st1 (st1 (st1 (st1 p3_2k 2 zp3_2_1_114) 3 zp3_2_2_114) 4 zp3_2_3_114) 5 zp3_2_4_114) 6 zp3_2_5_114) p3_2n_114 p3_2w_114))) hP hD hK [0, 1, 2, 3, 4, 5, 6, 7, 8, 9, 10, 11, 12, 13, 14, 15, 16, 17, 18] [19, 20, 21, 22, 23, 24, 25, 26, 27, 28, 29, 30, 31, 32, 33, 34, 35, 36, 37, 38, 39, 40, 41, 42, 43, 44, 45, 46, 47, 48, 49, 50, 51, 52, 53] [18, 19, 20, 21, 22, 23, 24, 25, 26, 27, 28, 29, 30, 31, 32, 33, 34, 35, 36, 37, 38, 39, 40, 41, 42, 43, 44, 45, 46, 47, 48, 49] rfl rfl (by decide +kernel) (by decide +kernel) rfl hk1 hFc ht hvm hB
        have hP : va_P (dC, dI) cls ((oX4 (p0a 0) p0a p0k p0w_114 p0l) ++ (oX6 (p1a 0) p1a p1k p1w p1l) ++ (oX1 (p3a 0) p3a p3k p3n p3w_114 p3l) ++ (oX9 (p3a 3) (st1 (st1 (st1 (st1 (st1 p3_2a 2 xp3_2_1_114) 3 xp3_2_2_114) 4 xp3_2_3_114) 5 xp3_2_4_114) 6 xp3_2_5_114) (st1 (st1 (st1 (st1 (st1 p3_2k 2 zp3_2_1_114) 3 zp3_2_2_114) 4 zp3_2_3_114) 5 zp3_2_4_114) 6 zp3_2_5_114) p3_2n_114 p3_2w_114)) H := hP.sub [35, 36, 37, 38, 39, 40, 41, 42, 43, 44, 45, 46, 47, 48, 49, 50, 51, 52, 53, 0, 1, 2, 3, 4, 5, 6, 7, 8, 9, 10, 11, 12, 13, 14, 15, 16, 17, 18, 19, 20, 21, 22, 23, 24, 25, 26, 27, 28, 29, 30, 31, 32, 33, 34] rfl
        have hD : va_D A ((oX4 (p0a 0) p0a p0k p0w_114 p0l) ++ (oX6 (p1a 0) p1a p1k p1w p1l) ++ (oX1 (p3a 0) p3a p3k p3n p3w_114 p3l) ++ (oX9 (p3a 3) (st1 (st1 (st1 (st1 (st1 p3_2a 2 xp3_2_1_114) 3 xp3_2_2_114) 4 xp3_2_3_114) 5 xp3_2_4_114) 6 xp3_2_5_114) (st1 (st1 (st1 (st1 (st1 p3_2k 2 zp3_2_1_114) 3 zp3_2_2_114) 4 zp3_2_3_114) 5 zp3_2_4_114) 6 zp3_2_5_114) p3_2n_114 p3_2w_114)) := hD.sub [35, 36, 37, 38, 39, 40, 41, 42, 43, 44, 45, 46, 47, 48, 49, 50, 51, 52, 53, 0, 1, 2, 3, 4, 5, 6, 7, 8, 9, 10, 11, 12, 13, 14, 15, 16, 17, 18, 19, 20, 21, 22, 23, 24, 25, 26, 27, 28, 29, 30, 31, 32, 33, 34] (by decide +kernel) rfl
        have hK : va_K (dC, dI) cls ((tX4 p0k) ++ (tX6 p1k) ++ (tX1 p3k) ++ (tX9 (st1 (st1 (st1 (st1 (st1 p3_2k 2 zp3_2_1_114) 3 zp3_2_2_114) 4 zp3_2_3_114) 5 zp3_2_4_114) 6 zp3_2_5_114))) s := hK.sub [32, 33, 34, 35, 36, 37, 38, 39, 40, 41, 42, 43, 44, 45, 46, 47, 48, 49, 0, 1, 2, 3, 4, 5, 6, 7, 8, 9, 10, 11, 12, 13, 14, 15, 16, 17, 18, 19, 20, 21, 22, 23, 24, 25, 26, 27, 28, 29, 30, 31] rfl
        obtain rfl : o_10 = r11 := hw.symm
        rcases br9 hrun with ⟨hc12, hrun⟩ | ⟨hc12, hrun⟩
        · refine lv_icmp_ge (tgt := 274) hx hb dX4_fillBlock_122 (by decide) (fun _ => ?_) (fun c => absurd hc12 c)
          obtain rfl := (Option.some.inj hrun)
          exact hk114 xp3_2_1_114 zp3_2_1_114 xp3_2_2_114 zp3_2_2_114 xp3_2_3_114 zp3_2_3_114 xp3_2_4_114 zp3_2_4_114 xp3_2_5_114 zp3_2_5_114 _ _ _ hP hD hK hS (lv_sub hl [] rfl) hg_p3_2
        · refine lv_icmp_ge (tgt := 274) hx hb dX4_fillBlock_122 (by decide) (fun c => absurd c hc12) (fun _ => ?_)
          refine lv_aload_n hx hb dX4_fillBlock_125 rfl (lv_at hl 1 rfl) ?_
          refine va_get (D := (dC, dI)) (ci := 2) (v := .ref (p1a 10)) (C := RX6) (T := TX6) (N := 13) hx hb hts i_X6 hown hK hP 19 rfl rfl 9 (by decide) (hts _ qw24) (fun _ h9 => h9) rfl dX4_fillBlock_126 ?_
          refine lv_iload hx hb dX4_fillBlock_129 (lv_at hl 5 rfl) ?_
          obtain ⟨hq13, hrun⟩ := chk9 hrun
          refine va_iald hx hb hK hP 27 25 rfl rfl (ixb_in hq13) dX4_fillBlock_131 ?_
          refine lv_istore (lv' := [(7, .int (p1w 10 (nn v6_114))), (0, .ref (p0a 0)), (1, .ref (p1a 0)), (3, .ref (p3a 0)), (4, .int p4), (5, .int (p4 * 320)), (6, .int v6_114)]) hx hb dX4_fillBlock_132 hl (by decide) rfl (fun ls hl => ?_)
          refine lv_aload_n hx hb dX4_fillBlock_134 rfl (lv_at hl 2 rfl) ?_
          refine va_get (D := (dC, dI)) (ci := 2) (v := .ref (p1a 9)) (C := RX6) (T := TX6) (N := 13) hx hb hts i_X6 hown hK hP 19 rfl rfl 8 (by decide) (hts _ qw25) (fun _ h9 => h9) rfl dX4_fillBlock_135 ?_
          refine lv_iload hx hb dX4_fillBlock_138 (lv_at hl 6 rfl) ?_
          obtain ⟨hq14, hrun⟩ := chk9 hrun
          refine va_iald hx hb hK hP 26 24 rfl rfl (ixb_in hq14) dX4_fillBlock_140 ?_
          have J268 : ∀ (p0w_268 : ST) (p3w_268 : ST) (p3_2w_268 : ST) (p3_2n_268 : Nat → Nat) (xp3_2_1_268 : Nat) (zp3_2_1_268 : ClassId) (xp3_2_2_268 : Nat) (zp3_2_2_268 : ClassId) (xp3_2_3_268 : Nat) (zp3_2_3_268 : ClassId) (xp3_2_4_268 : Nat) (zp3_2_4_268 : ClassId) (xp3_2_5_268 : Nat) (zp3_2_5_268 : ClassId) (H : Heap) (locs : List Loc) (ls : Array Slot), (fX4_fillBlock_J268 (fX4_fillBlock_L114 p1w p4 n_114) v6_114 p0w_268 p3w_268 p3_2w_268 p3_2n_268) = some o114 → va_P (dC, dI) cls ((oX4 (p0a 0) p0a p0k p0w_268 p0l) ++ (oX6 (p1a 0) p1a p1k p1w p1l) ++ (oX1 (p3a 0) p3a p3k p3n p3w_268 p3l) ++ (oX9 (p3a 3) (st1 (st1 (st1 (st1 (st1 p3_2a 2 xp3_2_1_268) 3 xp3_2_2_268) 4 xp3_2_3_268) 5 xp3_2_4_268) 6 xp3_2_5_268) (st1 (st1 (st1 (st1 (st1 p3_2k 2 zp3_2_1_268) 3 zp3_2_2_268) 4 zp3_2_3_268) 5 zp3_2_4_268) 6 zp3_2_5_268) p3_2n_268 p3_2w_268)) H → va_D A ((oX4 (p0a 0) p0a p0k p0w_268 p0l) ++ (oX6 (p1a 0) p1a p1k p1w p1l) ++ (oX1 (p3a 0) p3a p3k p3n p3w_268 p3l) ++ (oX9 (p3a 3) (st1 (st1 (st1 (st1 (st1 p3_2a 2 xp3_2_1_268) 3 xp3_2_2_268) 4 xp3_2_3_268) 5 xp3_2_4_268) 6 xp3_2_5_268) (st1 (st1 (st1 (st1 (st1 p3_2k 2 zp3_2_1_268) 3 zp3_2_2_268) 4 zp3_2_3_268) 5 zp3_2_4_268) 6 zp3_2_5_268) p3_2n_268 p3_2w_268)) → va_K (dC, dI) cls ((tX4 p0k) ++ (tX6 p1k) ++ (tX1 p3k) ++ (tX9 (st1 (st1 (st1 (st1 (st1 p3_2k 2 zp3_2_1_268) 3 zp3_2_2_268) 4 zp3_2_3_268) 5 zp3_2_4_268) 6 zp3_2_5_268))) s → va_S A s.heap H locs → lv_has ls 8 [(0, .ref (p0a 0)), (1, .ref (p1a 0)), (3, .ref (p3a 0)), (4, .int p4), (5, .int (p4 * 320)), (6, .int v6_114)] → glX9 p3_2n p3_2n_268 → W p l e ({ frames := 5, cells := (gcX9 p3_2n (o.2.2.2)), slots := (3 * (gcX9 p3_2n (o.2.2.2))), locals := 141 } : Room) s m ([.ref (p0a 0), .ref (p1a 0), .int p2, .ref (p3a 0), .int p4] : List Value).toArray below meth c H locs (gcX9 p3_2n p3_2n_268) (3 * (gcX9 p3_2n p3_2n_268)) Q (F0 m 268 ls []) := by
            intro p0w_268 p3w_268 p3_2w_268 p3_2n_268 xp3_2_1_268 zp3_2_1_268 xp3_2_2_268 zp3_2_2_268 xp3_2_3_268 zp3_2_3_268 xp3_2_4_268 zp3_2_4_268 xp3_2_5_268 zp3_2_5_268 H locs ls hrun hP hD hK hS hl hg_p3_2 
            have hgn_p3_2 : glX9 p3_2n_268 (o.2.2.2) := (glX9_tr (mo_fX4_fillBlock_J268 (mo_fX4_fillBlock_L114 n_114) hrun) hgo_p3_2)
            unfold fX4_fillBlock_J268 at hrun
            refine lv_iinc (v := (v6_114 + 1)) (lv' := [(6, .int (v6_114 + 1)), (0, .ref (p0a 0)), (1, .ref (p1a 0)), (3, .ref (p3a 0)), (4, .int p4), (5, .int (p4 * 320))]) hx hb dX4_fillBlock_268 hl (k := 5) rfl rfl (by decide) rfl (fun ls hl => ?_)
            refine lv_goto (tgt := 114) hx hb dX4_fillBlock_271 (by decide) ?_
            exact IH114 (v6_114 + 1) p0w_268 p3w_268 p3_2w_268 p3_2n_268 xp3_2_1_268 zp3_2_1_268 xp3_2_2_268 zp3_2_2_268 xp3_2_3_268 zp3_2_3_268 xp3_2_4_268 zp3_2_4_268 xp3_2_5_268 zp3_2_5_268 o114 _ _ _ hrun hP hD hK hS (lv_sub hl [1, 2, 3, 4, 5, 0] rfl) hg_p3_2 hgo_p3_2 hk114
          rcases br9 hrun with ⟨hc15, hrun⟩ | ⟨hc15, hrun⟩
          · refine lv_lookup (off := 87) (tgt := 228) hx hb dX4_fillBlock_141 (by decide) (by rw [hc15]; decide) (by decide) ?_
            refine lv_aload_n hx hb dX4_fillBlock_228 rfl (lv_at hl 1 rfl) ?_
            refine va_get (D := (dC, dI)) (ci := 6) (v := .ref (p0a 20)) (C := RX4) (T := TX4) (N := 20) hx hb hts i_X4 hown hK hP 0 rfl rfl 19 (by decide) (hts _ qw0) (fun _ h9 => h9) rfl dX4_fillBlock_229 ?_
            refine lv_iload hx hb dX4_fillBlock_232 (lv_at hl 5 rfl) ?_
            refine lv_iload hx hb dX4_fillBlock_234 (lv_at hl 0 rfl) ?_
            refine lv_iadd hx hb dX4_fillBlock_236 ?_
            refine lv_aload_n hx hb dX4_fillBlock_237 rfl (lv_at hl 1 rfl) ?_
            refine va_get (D := (dC, dI)) (ci := 6) (v := .ref (p0a 4)) (C := RX4) (T := TX4) (N := 20) hx hb hts i_X4 hown hK hP 0 rfl rfl 3 (by decide) (hts _ qw26) (fun _ h9 => h9) rfl dX4_fillBlock_238 ?_
            refine lv_iload hx hb dX4_fillBlock_241 (lv_at hl 6 rfl) ?_
            obtain ⟨hq16, hrun⟩ := chk9 hrun
            refine va_iald hx hb hK hP 3 2 rfl rfl (ixb_in hq16) dX4_fillBlock_243 ?_
            obtain ⟨hq17, hrun⟩ := chk9 hrun
            refine va_iast hx hb hK hP hD hS 18 17 rfl rfl (ixb_in hq17) dX4_fillBlock_244 (fun H locs hP hD hS => ?_)
            have hP : va_P (dC, dI) cls ((oX4 (p0a 0) p0a p0k (upw p0w_114 20 (nn ((p4 * 320) + (p1w 10 (nn v6_114)))) (p0w_114 4 (nn v6_114))) p0l) ++ (oX6 (p1a 0) p1a p1k p1w p1l) ++ (oX1 (p3a 0) p3a p3k p3n p3w_114 p3l) ++ (oX9 (p3a 3) (st1 (st1 (st1 (st1 (st1 p3_2a 2 xp3_2_1_114) 3 xp3_2_2_114) 4 xp3_2_3_114) 5 xp3_2_4_114) 6 xp3_2_5_114) (st1 (st1 (st1 (st1 (st1 p3_2k 2 zp3_2_1_114) 3 zp3_2_2_114) 4 zp3_2_3_114) 5 zp3_2_4_114) 6 zp3_2_5_114) p3_2n_114 p3_2w_114)) H := hP
            have hD : va_D A ((oX4 (p0a 0) p0a p0k (upw p0w_114 20 (nn ((p4 * 320) + (p1w 10 (nn v6_114)))) (p0w_114 4 (nn v6_114))) p0l) ++ (oX6 (p1a 0) p1a p1k p1w p1l) ++ (oX1 (p3a 0) p3a p3k p3n p3w_114 p3l) ++ (oX9 (p3a 3) (st1 (st1 (st1 (st1 (st1 p3_2a 2 xp3_2_1_114) 3 xp3_2_2_114) 4 xp3_2_3_114) 5 xp3_2_4_114) 6 xp3_2_5_114) (st1 (st1 (st1 (st1 (st1 p3_2k 2 zp3_2_1_114) 3 zp3_2_2_114) 4 zp3_2_3_114) 5 zp3_2_4_114) 6 zp3_2_5_114) p3_2n_114 p3_2w_114)) := hD
            obtain ⟨w18, ew18, hrun⟩ := let9 hrun
            rw [← ew18] at hP hD
            refine lv_aload_n hx hb dX4_fillBlock_245 rfl (lv_at hl 1 rfl) ?_
            refine lv_aload_n hx hb dX4_fillBlock_246 rfl (lv_at hl 2 rfl) ?_
            refine lv_aload_n hx hb dX4_fillBlock_247 rfl (lv_at hl 3 rfl) ?_
            refine lv_iload hx hb dX4_fillBlock_248 (lv_at hl 4 rfl) ?_
            refine lv_iload hx hb dX4_fillBlock_250 (lv_at hl 6 rfl) ?_
            obtain ⟨o_19, hc_19, hrun⟩ := bnd9 hrun
            have hPc := hP.sub (ws' := ((oX4 (p0a 0) p0a p0k w18 p0l) ++ (oX6 (p1a 0) p1a p1k p1w p1l) ++ (oX1 (p3a 0) p3a p3k p3n p3w_114 p3l) ++ (oX9 (p3a 3) (st1 (st1 (st1 (st1 (st1 p3_2a 2 xp3_2_1_114) 3 xp3_2_2_114) 4 xp3_2_3_114) 5 xp3_2_4_114) 6 xp3_2_5_114) (st1 (st1 (st1 (st1 (st1 p3_2k 2 zp3_2_1_114) 3 zp3_2_2_114) 4 zp3_2_3_114) 5 zp3_2_4_114) 6 zp3_2_5_114) p3_2n_114 p3_2w_114))) [0, 1, 2, 3, 4, 5, 6, 7, 8, 9, 10, 11, 12, 13, 14, 15, 16, 17, 18, 19, 20, 21, 22, 23, 24, 25, 26, 27, 28, 29, 30, 31, 32, 33, 34, 35, 36, 37, 38, 39, 40, 41, 42, 43, 44, 45, 46, 47, 48, 49, 50, 51, 52, 53] rfl
            have hDc := hD.sub (ws' := ((oX4 (p0a 0) p0a p0k w18 p0l) ++ (oX6 (p1a 0) p1a p1k p1w p1l) ++ (oX1 (p3a 0) p3a p3k p3n p3w_114 p3l) ++ (oX9 (p3a 3) (st1 (st1 (st1 (st1 (st1 p3_2a 2 xp3_2_1_114) 3 xp3_2_2_114) 4 xp3_2_3_114) 5 xp3_2_4_114) 6 xp3_2_5_114) (st1 (st1 (st1 (st1 (st1 p3_2k 2 zp3_2_1_114) 3 zp3_2_2_114) 4 zp3_2_3_114) 5 zp3_2_4_114) 6 zp3_2_5_114) p3_2n_114 p3_2w_114))) [0, 1, 2, 3, 4, 5, 6, 7, 8, 9, 10, 11, 12, 13, 14, 15, 16, 17, 18, 19, 20, 21, 22, 23, 24, 25, 26, 27, 28, 29, 30, 31, 32, 33, 34, 35, 36, 37, 38, 39, 40, 41, 42, 43, 44, 45, 46, 47, 48, 49, 50, 51, 52, 53] (by decide +kernel) rfl
            have hKc := hK.sub (tys' := ((tX4 p0k) ++ (tX6 p1k) ++ (tX1 p3k) ++ (tX9 (st1 (st1 (st1 (st1 (st1 p3_2k 2 zp3_2_1_114) 3 zp3_2_2_114) 4 zp3_2_3_114) 5 zp3_2_4_114) 6 zp3_2_5_114)))) [0, 1, 2, 3, 4, 5, 6, 7, 8, 9, 10, 11, 12, 13, 14, 15, 16, 17, 18, 19, 20, 21, 22, 23, 24, 25, 26, 27, 28, 29, 30, 31, 32, 33, 34, 35, 36, 37, 38, 39, 40, 41, 42, 43, 44, 45, 46, 47, 48, 49] rfl
            have hFc := va_free (wc := ((oX4 (p0a 0) p0a p0k w18 p0l) ++ (oX6 (p1a 0) p1a p1k p1w p1l) ++ (oX1 (p3a 0) p3a p3k p3n p3w_114 p3l) ++ (oX9 (p3a 3) (st1 (st1 (st1 (st1 (st1 p3_2a 2 xp3_2_1_114) 3 xp3_2_2_114) 4 xp3_2_3_114) 5 xp3_2_4_114) 6 xp3_2_5_114) (st1 (st1 (st1 (st1 (st1 p3_2k 2 zp3_2_1_114) 3 zp3_2_2_114) 4 zp3_2_3_114) 5 zp3_2_4_114) 6 zp3_2_5_114) p3_2n_114 p3_2w_114))) hD hS hA [0, 1, 2, 3, 4, 5, 6, 7, 8, 9, 10, 11, 12, 13, 14, 15, 16, 17, 18, 19, 20, 21, 22, 23, 24, 25, 26, 27, 28, 29, 30, 31, 32, 33, 34, 35, 36, 37, 38, 39, 40, 41, 42, 43, 44, 45, 46, 47, 48, 49, 50, 51, 52, 53] rfl
            have hgn_p3_2 : glX9 (o_19.2.2) (o.2.2.2) := (glX9_tr (mo_fX4_fillBlock_G255_30 (mo_fX4_fillBlock_L114 n_114) hrun) hgo_p3_2)
            refine va_callv (va_runV (As := [.ref (p1a 0), .ref (p3a 0), .int p4, .int v6_114]) (rest := []) ⟨hx, hb, hml, hown, hts⟩ (kX4_fillStep l dC dI (p0a := (st0 (p0a 0) p0a)) (p0k := p0k) (p0w := w18) (p0l := p0l) (p1a := (st0 (p1a 0) p1a)) (p1k := p1k) (p1w := p1w) (p1l := p1l) (p2a := (st0 (p3a 0) p3a)) (p2k := p3k) (p2n := p3n) (p2w := p3w_114) (p2l := p3l) (p3 := p4) (p4 := v6_114) (p2_2a := (st1 (st1 (st1 (st1 (st1 p3_2a 2 xp3_2_1_114) 3 xp3_2_2_114) 4 xp3_2_3_114) 5 xp3_2_4_114) 6 xp3_2_5_114)) (p2_2k := (st1 (st1 (st1 (st1 (st1 p3_2k 2 zp3_2_1_114) 3 zp3_2_2_114) 4 zp3_2_3_114) 5 zp3_2_4_114) 6 zp3_2_5_114)) (p2_2n := p3_2n_114) (p2_2w := p3_2w_114) (sz := _) (o := o_19) (hrun := hc_19)) (cwV 4 hts (gi_V qw74 qw75 qw76 qw18 (gi_z qw73)) rfl rfl rfl (by decide +kernel) ⟨Nat.le_of_ble_eq_true rfl, Nat.le_of_ble_eq_true rfl⟩) ⟨PRE.blind, va_recv hKc hPc (ci := 6) (q0 := 0) rfl rfl, PRE.of hE hS hFc hPc hKc hDc⟩ rfl rfl hl.1 rfl (lv_room (Nat.le_of_ble_eq_true rfl)) dX4_fillBlock_252 ⟨(show (gcX9 p3_2n p3_2n_114) + (gcX9 p3_2n_114 (o_19.2.2)) ≤ (gcX9 p3_2n (o.2.2.2)) from by have q0 := gsX9 hg_p3_2 (mo_fX4_fillStep hc_19) hgn_p3_2; omega), (show (3 * (gcX9 p3_2n p3_2n_114)) + (3 * ((gcX9 p3_2n_114 (o_19.2.2)))) ≤ (3 * (gcX9 p3_2n (o.2.2.2))) from by have q0 := gsX9 hg_p3_2 (mo_fX4_fillStep hc_19) hgn_p3_2; omega)⟩) hS (fun q _ h => hFc q h) hFc (fun u t H locs ht hvm hw hB hz1 hk1 hS => ?_)
            obtain ⟨x20, z21, x22, z23, x24, z25, x26, z27, x28, z29, hB⟩ := hB
            obtain ⟨hP, hD, hK⟩ := JOIN (wr := ([] : va_W)) hP hD hK [0, 1, 2, 3, 4, 5, 6, 7, 8, 9, 10, 11, 12, 13, 14, 15, 16, 17, 18, 19, 20, 21, 22, 23, 24, 25, 26, 27, 28, 29, 30, 31, 32, 33, 34, 35, 36, 37, 38, 39, 40, 41, 42, 43, 44, 45, 46, 47, 48, 49, 50, 51, 52, 53] [] [] rfl rfl (by decide +kernel) (by decide +kernel) rfl hk1 hFc ht hvm hB
            have hP : va_P (dC, dI) cls ((oX4 (p0a 0) p0a p0k w18 p0l) ++ (oX6 (p1a 0) p1a p1k p1w p1l) ++ (oX1 (p3a 0) p3a p3k p3n (o_19.1) p3l) ++ (oX9 (p3a 3) (st1 (st1 (st1 (st1 (st1 p3_2a 2 x20) 3 x22) 4 x24) 5 x26) 6 x28) (st1 (st1 (st1 (st1 (st1 p3_2k 2 z21) 3 z23) 4 z25) 5 z27) 6 z29) (o_19.2.2) (o_19.2.1))) H := hP.sub [0, 1, 2, 3, 4, 5, 6, 7, 8, 9, 10, 11, 12, 13, 14, 15, 16, 17, 18, 19, 20, 21, 22, 23, 24, 25, 26, 27, 28, 29, 30, 31, 32, 33, 34, 35, 36, 37, 38, 39, 40, 41, 42, 43, 44, 45, 46, 47, 48, 49, 50, 51, 52, 53] rfl
            have hD : va_D A ((oX4 (p0a 0) p0a p0k w18 p0l) ++ (oX6 (p1a 0) p1a p1k p1w p1l) ++ (oX1 (p3a 0) p3a p3k p3n (o_19.1) p3l) ++ (oX9 (p3a 3) (st1 (st1 (st1 (st1 (st1 p3_2a 2 x20) 3 x22) 4 x24) 5 x26) 6 x28) (st1 (st1 (st1 (st1 (st1 p3_2k 2 z21) 3 z23) 4 z25) 5 z27) 6 z29) (o_19.2.2) (o_19.2.1))) := hD.sub [0, 1, 2, 3, 4, 5, 6, 7, 8, 9, 10, 11, 12, 13, 14, 15, 16, 17, 18, 19, 20, 21, 22, 23, 24, 25, 26, 27, 28, 29, 30, 31, 32, 33, 34, 35, 36, 37, 38, 39, 40, 41, 42, 43, 44, 45, 46, 47, 48, 49, 50, 51, 52, 53] (by decide +kernel) rfl
            have hK : va_K (dC, dI) cls ((tX4 p0k) ++ (tX6 p1k) ++ (tX1 p3k) ++ (tX9 (st1 (st1 (st1 (st1 (st1 p3_2k 2 z21) 3 z23) 4 z25) 5 z27) 6 z29))) s := hK.sub [0, 1, 2, 3, 4, 5, 6, 7, 8, 9, 10, 11, 12, 13, 14, 15, 16, 17, 18, 19, 20, 21, 22, 23, 24, 25, 26, 27, 28, 29, 30, 31, 32, 33, 34, 35, 36, 37, 38, 39, 40, 41, 42, 43, 44, 45, 46, 47, 48, 49] rfl
            refine W.widen (k := (gcX9 p3_2n (o_19.2.2))) (n := (3 * (gcX9 p3_2n (o_19.2.2)))) (by have a0 := gcX9_add hg_p3_2 (mo_fX4_fillStep hc_19); omega) (by have a0 := gcX9_add hg_p3_2 (mo_fX4_fillStep hc_19); omega) ?_
            have hg_p3_2 : glX9 p3_2n (o_19.2.2) := glX9_tr hg_p3_2 (mo_fX4_fillStep hc_19)
            unfold fX4_fillBlock_G255_30 at hrun
            refine lv_goto (tgt := 268) hx hb dX4_fillBlock_255 (by decide) ?_
            exact J268 w18 (o_19.1) (o_19.2.1) (o_19.2.2) x20 z21 x22 z23 x24 z25 x26 z27 x28 z29 _ _ _ hrun hP hD hK hS (lv_sub hl [1, 2, 3, 4, 5, 6] rfl) hg_p3_2
          rcases br9 hrun with ⟨hc31, hrun⟩ | ⟨hc31, hrun⟩
          · refine lv_lookup (off := 43) (tgt := 184) hx hb dX4_fillBlock_141 (by decide) (by rw [hc31]; decide) (by decide) ?_
            refine lv_aload_n hx hb dX4_fillBlock_184 rfl (lv_at hl 1 rfl) ?_
            refine va_get (D := (dC, dI)) (ci := 6) (v := .ref (p0a 4)) (C := RX4) (T := TX4) (N := 20) hx hb hts i_X4 hown hK hP 0 rfl rfl 3 (by decide) (hts _ qw26) (fun _ h9 => h9) rfl dX4_fillBlock_185 ?_
            refine lv_iload hx hb dX4_fillBlock_188 (lv_at hl 6 rfl) ?_
            refine lv_aload_n hx hb dX4_fillBlock_190 rfl (lv_at hl 1 rfl) ?_
            refine va_get (D := (dC, dI)) (ci := 6) (v := .ref (p0a 20)) (C := RX4) (T := TX4) (N := 20) hx hb hts i_X4 hown hK hP 0 rfl rfl 19 (by decide) (hts _ qw0) (fun _ h9 => h9) rfl dX4_fillBlock_191 ?_
            refine lv_iload hx hb dX4_fillBlock_194 (lv_at hl 5 rfl) ?_
            refine lv_iload hx hb dX4_fillBlock_196 (lv_at hl 0 rfl) ?_
            refine lv_iadd hx hb dX4_fillBlock_198 ?_
            obtain ⟨hq32, hrun⟩ := chk9 hrun
            refine va_iald hx hb hK hP 18 17 rfl rfl (ixb_in hq32) dX4_fillBlock_199 ?_
            obtain ⟨hq33, hrun⟩ := chk9 hrun
            refine va_iast hx hb hK hP hD hS 3 2 rfl rfl (ixb_in hq33) dX4_fillBlock_200 (fun H locs hP hD hS => ?_)
            have hP : va_P (dC, dI) cls ((oX4 (p0a 0) p0a p0k (upw p0w_114 4 (nn v6_114) (p0w_114 20 (nn ((p4 * 320) + (p1w 10 (nn v6_114)))))) p0l) ++ (oX6 (p1a 0) p1a p1k p1w p1l) ++ (oX1 (p3a 0) p3a p3k p3n p3w_114 p3l) ++ (oX9 (p3a 3) (st1 (st1 (st1 (st1 (st1 p3_2a 2 xp3_2_1_114) 3 xp3_2_2_114) 4 xp3_2_3_114) 5 xp3_2_4_114) 6 xp3_2_5_114) (st1 (st1 (st1 (st1 (st1 p3_2k 2 zp3_2_1_114) 3 zp3_2_2_114) 4 zp3_2_3_114) 5 zp3_2_4_114) 6 zp3_2_5_114) p3_2n_114 p3_2w_114)) H := hP
            have hD : va_D A ((oX4 (p0a 0) p0a p0k (upw p0w_114 4 (nn v6_114) (p0w_114 20 (nn ((p4 * 320) + (p1w 10 (nn v6_114)))))) p0l) ++ (oX6 (p1a 0) p1a p1k p1w p1l) ++ (oX1 (p3a 0) p3a p3k p3n p3w_114 p3l) ++ (oX9 (p3a 3) (st1 (st1 (st1 (st1 (st1 p3_2a 2 xp3_2_1_114) 3 xp3_2_2_114) 4 xp3_2_3_114) 5 xp3_2_4_114) 6 xp3_2_5_114) (st1 (st1 (st1 (st1 (st1 p3_2k 2 zp3_2_1_114) 3 zp3_2_2_114) 4 zp3_2_3_114) 5 zp3_2_4_114) 6 zp3_2_5_114) p3_2n_114 p3_2w_114)) := hD
            obtain ⟨w34, ew34, hrun⟩ := let9 hrun
            rw [← ew34] at hP hD
            refine lv_goto (tgt := 268) hx hb dX4_fillBlock_201 (by decide) ?_
            exact J268 w34 p3w_114 p3_2w_114 p3_2n_114 xp3_2_1_114 zp3_2_1_114 xp3_2_2_114 zp3_2_2_114 xp3_2_3_114 zp3_2_3_114 xp3_2_4_114 zp3_2_4_114 xp3_2_5_114 zp3_2_5_114 _ _ _ hrun hP hD hK hS (lv_sub hl [1, 2, 3, 4, 5, 6] rfl) hg_p3_2
          rcases br9 hrun with ⟨hc35, hrun⟩ | ⟨hc35, hrun⟩
          · refine lv_lookup (off := 63) (tgt := 204) hx hb dX4_fillBlock_141 (by decide) (by rw [hc35]; decide) (by decide) ?_
            refine lv_aload_n hx hb dX4_fillBlock_204 rfl (lv_at hl 1 rfl) ?_
            refine va_get (D := (dC, dI)) (ci := 6) (v := .ref (p0a 20)) (C := RX4) (T := TX4) (N := 20) hx hb hts i_X4 hown hK hP 0 rfl rfl 19 (by decide) (hts _ qw0) (fun _ h9 => h9) rfl dX4_fillBlock_205 ?_
            refine lv_iload hx hb dX4_fillBlock_208 (lv_at hl 5 rfl) ?_
            refine lv_iload hx hb dX4_fillBlock_210 (lv_at hl 0 rfl) ?_
            refine lv_iadd hx hb dX4_fillBlock_212 ?_
            refine lv_aload_n hx hb dX4_fillBlock_213 rfl (lv_at hl 1 rfl) ?_
            refine lv_aload_n hx hb dX4_fillBlock_214 rfl (lv_at hl 1 rfl) ?_
            refine va_get (D := (dC, dI)) (ci := 6) (v := .ref (p0a 2)) (C := RX4) (T := TX4) (N := 20) hx hb hts i_X4 hown hK hP 0 rfl rfl 1 (by decide) (hts _ qw27) (fun _ h9 => h9) rfl dX4_fillBlock_215 ?_
            refine lv_iload hx hb dX4_fillBlock_218 (lv_at hl 6 rfl) ?_
            obtain ⟨hq36, hrun⟩ := chk9 hrun
            refine va_iald hx hb hK hP 1 0 rfl rfl (ixb_in hq36) dX4_fillBlock_220 ?_
            obtain ⟨o_37, hc_37, hrun⟩ := bnd9 hrun
            have hPc := hP.sub (ws' := (oX4 (p0a 0) p0a p0k p0w_114 p0l)) [0, 1, 2, 3, 4, 5, 6, 7, 8, 9, 10, 11, 12, 13, 14, 15, 16, 17, 18] rfl
            have hDc := hD.sub (ws' := (oX4 (p0a 0) p0a p0k p0w_114 p0l)) [0, 1, 2, 3, 4, 5, 6, 7, 8, 9, 10, 11, 12, 13, 14, 15, 16, 17, 18] (by decide +kernel) rfl
            have hKc := hK.sub (tys' := (tX4 p0k)) [0, 1, 2, 3, 4, 5, 6, 7, 8, 9, 10, 11, 12, 13, 14, 15, 16, 17] rfl
            have hFc := va_free (wc := (oX4 (p0a 0) p0a p0k p0w_114 p0l)) hD hS hA [0, 1, 2, 3, 4, 5, 6, 7, 8, 9, 10, 11, 12, 13, 14, 15, 16, 17, 18] rfl
            refine va_calli (va_runV (As := [.int (p0w_114 2 (nn v6_114))]) (rest := [.int ((p4 * 320) + (p1w 10 (nn v6_114))), .ref (p0a 20)]) ⟨hx, hb, hml, hown, hts⟩ (kX4_valueAt l dC dI (p0a := (st0 (p0a 0) p0a)) (p0k := p0k) (p0w := p0w_114) (p0l := p0l) (p1 := (p0w_114 2 (nn v6_114))) (sz := _) (o := o_37) (hrun := hc_37)) (cwV 1 hts (gi_V qw29 qw30 qw31 qw18 (gi_z qw28)) rfl rfl rfl (by decide +kernel) ⟨Nat.le_of_ble_eq_true rfl, Nat.le_of_ble_eq_true rfl⟩) ⟨PRE.blind, va_recv hKc hPc (ci := 6) (q0 := 0) rfl rfl, PRE.of hE hS hFc hPc hKc hDc⟩ rfl rfl hl.1 rfl (lv_room (Nat.le_of_ble_eq_true rfl)) dX4_fillBlock_221 ⟨(show (gcX9 p3_2n p3_2n_114) + 0 ≤ (gcX9 p3_2n (o.2.2.2)) from by have q0 := gmX9 hg_p3_2 hgn_p3_2; omega), (show (3 * (gcX9 p3_2n p3_2n_114)) + 0 ≤ (3 * (gcX9 p3_2n (o.2.2.2))) from by have q0 := gmX9 hg_p3_2 hgn_p3_2; omega)⟩) hS (fun q _ h => hFc q h) hFc (fun r38 u t H locs ht hvm hw hB hz1 hk1 hS => ?_)
            obtain ⟨hP, hD, hK⟩ := JOIN (wr := ((oX6 (p1a 0) p1a p1k p1w p1l) ++ (oX1 (p3a 0) p3a p3k p3n p3w_114 p3l) ++ (oX9 (p3a 3) (st1 (st1 (st1 (st1 (st1 p3_2a 2 xp3_2_1_114) 3 xp3_2_2_114) 4 xp3_2_3_114) 5 xp3_2_4_114) 6 xp3_2_5_114) (st1 (st1 (st1 (st1 (st1 p3_2k 2 zp3_2_1_114) 3 zp3_2_2_114) 4 zp3_2_3_114) 5 zp3_2_4_114) 6 zp3_2_5_114) p3_2n_114 p3_2w_114))) hP hD hK [0, 1, 2, 3, 4, 5, 6, 7, 8, 9, 10, 11, 12, 13, 14, 15, 16, 17, 18] [19, 20, 21, 22, 23, 24, 25, 26, 27, 28, 29, 30, 31, 32, 33, 34, 35, 36, 37, 38, 39, 40, 41, 42, 43, 44, 45, 46, 47, 48, 49, 50, 51, 52, 53] [18, 19, 20, 21, 22, 23, 24, 25, 26, 27, 28, 29, 30, 31, 32, 33, 34, 35, 36, 37, 38, 39, 40, 41, 42, 43, 44, 45, 46, 47, 48, 49] rfl rfl (by decide +kernel) (by decide +kernel) rfl hk1 hFc ht hvm hB
            have hP : va_P (dC, dI) cls ((oX4 (p0a 0) p0a p0k p0w_114 p0l) ++ (oX6 (p1a 0) p1a p1k p1w p1l) ++ (oX1 (p3a 0) p3a p3k p3n p3w_114 p3l) ++ (oX9 (p3a 3) (st1 (st1 (st1 (st1 (st1 p3_2a 2 xp3_2_1_114) 3 xp3_2_2_114) 4 xp3_2_3_114) 5 xp3_2_4_114) 6 xp3_2_5_114) (st1 (st1 (st1 (st1 (st1 p3_2k 2 zp3_2_1_114) 3 zp3_2_2_114) 4 zp3_2_3_114) 5 zp3_2_4_114) 6 zp3_2_5_114) p3_2n_114 p3_2w_114)) H := hP.sub [35, 36, 37, 38, 39, 40, 41, 42, 43, 44, 45, 46, 47, 48, 49, 50, 51, 52, 53, 0, 1, 2, 3, 4, 5, 6, 7, 8, 9, 10, 11, 12, 13, 14, 15, 16, 17, 18, 19, 20, 21, 22, 23, 24, 25, 26, 27, 28, 29, 30, 31, 32, 33, 34] rfl
            have hD : va_D A ((oX4 (p0a 0) p0a p0k p0w_114 p0l) ++ (oX6 (p1a 0) p1a p1k p1w p1l) ++ (oX1 (p3a 0) p3a p3k p3n p3w_114 p3l) ++ (oX9 (p3a 3) (st1 (st1 (st1 (st1 (st1 p3_2a 2 xp3_2_1_114) 3 xp3_2_2_114) 4 xp3_2_3_114) 5 xp3_2_4_114) 6 xp3_2_5_114) (st1 (st1 (st1 (st1 (st1 p3_2k 2 zp3_2_1_114) 3 zp3_2_2_114) 4 zp3_2_3_114) 5 zp3_2_4_114) 6 zp3_2_5_114) p3_2n_114 p3_2w_114)) := hD.sub [35, 36, 37, 38, 39, 40, 41, 42, 43, 44, 45, 46, 47, 48, 49, 50, 51, 52, 53, 0, 1, 2, 3, 4, 5, 6, 7, 8, 9, 10, 11, 12, 13, 14, 15, 16, 17, 18, 19, 20, 21, 22, 23, 24, 25, 26, 27, 28, 29, 30, 31, 32, 33, 34] (by decide +kernel) rfl
            have hK : va_K (dC, dI) cls ((tX4 p0k) ++ (tX6 p1k) ++ (tX1 p3k) ++ (tX9 (st1 (st1 (st1 (st1 (st1 p3_2k 2 zp3_2_1_114) 3 zp3_2_2_114) 4 zp3_2_3_114) 5 zp3_2_4_114) 6 zp3_2_5_114))) s := hK.sub [32, 33, 34, 35, 36, 37, 38, 39, 40, 41, 42, 43, 44, 45, 46, 47, 48, 49, 0, 1, 2, 3, 4, 5, 6, 7, 8, 9, 10, 11, 12, 13, 14, 15, 16, 17, 18, 19, 20, 21, 22, 23, 24, 25, 26, 27, 28, 29, 30, 31] rfl
            obtain rfl : o_37 = r38 := hw.symm
            obtain ⟨hq39, hrun⟩ := chk9 hrun
            refine va_iast hx hb hK hP hD hS 18 17 rfl rfl (ixb_in hq39) dX4_fillBlock_224 (fun H locs hP hD hS => ?_)
            have hP : va_P (dC, dI) cls ((oX4 (p0a 0) p0a p0k (upw p0w_114 20 (nn ((p4 * 320) + (p1w 10 (nn v6_114)))) o_37) p0l) ++ (oX6 (p1a 0) p1a p1k p1w p1l) ++ (oX1 (p3a 0) p3a p3k p3n p3w_114 p3l) ++ (oX9 (p3a 3) (st1 (st1 (st1 (st1 (st1 p3_2a 2 xp3_2_1_114) 3 xp3_2_2_114) 4 xp3_2_3_114) 5 xp3_2_4_114) 6 xp3_2_5_114) (st1 (st1 (st1 (st1 (st1 p3_2k 2 zp3_2_1_114) 3 zp3_2_2_114) 4 zp3_2_3_114) 5 zp3_2_4_114) 6 zp3_2_5_114) p3_2n_114 p3_2w_114)) H := hP
            have hD : va_D A ((oX4 (p0a 0) p0a p0k (upw p0w_114 20 (nn ((p4 * 320) + (p1w 10 (nn v6_114)))) o_37) p0l) ++ (oX6 (p1a 0) p1a p1k p1w p1l) ++ (oX1 (p3a 0) p3a p3k p3n p3w_114 p3l) ++ (oX9 (p3a 3) (st1 (st1 (st1 (st1 (st1 p3_2a 2 xp3_2_1_114) 3 xp3_2_2_114) 4 xp3_2_3_114) 5 xp3_2_4_114) 6 xp3_2_5_114) (st1 (st1 (st1 (st1 (st1 p3_2k 2 zp3_2_1_114) 3 zp3_2_2_114) 4 zp3_2_3_114) 5 zp3_2_4_114) 6 zp3_2_5_114) p3_2n_114 p3_2w_114)) := hD
            obtain ⟨w40, ew40, hrun⟩ := let9 hrun
            rw [← ew40] at hP hD
            refine lv_goto (tgt := 268) hx hb dX4_fillBlock_225 (by decide) ?_
            exact J268 w40 p3w_114 p3_2w_114 p3_2n_114 xp3_2_1_114 zp3_2_1_114 xp3_2_2_114 zp3_2_2_114 xp3_2_3_114 zp3_2_3_114 xp3_2_4_114 zp3_2_4_114 xp3_2_5_114 zp3_2_5_114 _ _ _ hrun hP hD hK hS (lv_sub hl [1, 2, 3, 4, 5, 6] rfl) hg_p3_2
          rcases br9 hrun with ⟨hc41, hrun⟩ | ⟨hc41, hrun⟩
          · refine lv_lookup (off := 63) (tgt := 204) hx hb dX4_fillBlock_141 (by decide) (by rw [hc41]; decide) (by decide) ?_
            refine lv_aload_n hx hb dX4_fillBlock_204 rfl (lv_at hl 1 rfl) ?_
            refine va_get (D := (dC, dI)) (ci := 6) (v := .ref (p0a 20)) (C := RX4) (T := TX4) (N := 20) hx hb hts i_X4 hown hK hP 0 rfl rfl 19 (by decide) (hts _ qw0) (fun _ h9 => h9) rfl dX4_fillBlock_205 ?_
            refine lv_iload hx hb dX4_fillBlock_208 (lv_at hl 5 rfl) ?_
            refine lv_iload hx hb dX4_fillBlock_210 (lv_at hl 0 rfl) ?_
            refine lv_iadd hx hb dX4_fillBlock_212 ?_
            refine lv_aload_n hx hb dX4_fillBlock_213 rfl (lv_at hl 1 rfl) ?_
            refine lv_aload_n hx hb dX4_fillBlock_214 rfl (lv_at hl 1 rfl) ?_
            refine va_get (D := (dC, dI)) (ci := 6) (v := .ref (p0a 2)) (C := RX4) (T := TX4) (N := 20) hx hb hts i_X4 hown hK hP 0 rfl rfl 1 (by decide) (hts _ qw27) (fun _ h9 => h9) rfl dX4_fillBlock_215 ?_
            refine lv_iload hx hb dX4_fillBlock_218 (lv_at hl 6 rfl) ?_
            obtain ⟨hq42, hrun⟩ := chk9 hrun
            refine va_iald hx hb hK hP 1 0 rfl rfl (ixb_in hq42) dX4_fillBlock_220 ?_
            obtain ⟨o_43, hc_43, hrun⟩ := bnd9 hrun
            have hPc := hP.sub (ws' := (oX4 (p0a 0) p0a p0k p0w_114 p0l)) [0, 1, 2, 3, 4, 5, 6, 7, 8, 9, 10, 11, 12, 13, 14, 15, 16, 17, 18] rfl
            have hDc := hD.sub (ws' := (oX4 (p0a 0) p0a p0k p0w_114 p0l)) [0, 1, 2, 3, 4, 5, 6, 7, 8, 9, 10, 11, 12, 13, 14, 15, 16, 17, 18] (by decide +kernel) rfl
            have hKc := hK.sub (tys' := (tX4 p0k)) [0, 1, 2, 3, 4, 5, 6, 7, 8, 9, 10, 11, 12, 13, 14, 15, 16, 17] rfl
            have hFc := va_free (wc := (oX4 (p0a 0) p0a p0k p0w_114 p0l)) hD hS hA [0, 1, 2, 3, 4, 5, 6, 7, 8, 9, 10, 11, 12, 13, 14, 15, 16, 17, 18] rfl
            refine va_calli (va_runV (As := [.int (p0w_114 2 (nn v6_114))]) (rest := [.int ((p4 * 320) + (p1w 10 (nn v6_114))), .ref (p0a 20)]) ⟨hx, hb, hml, hown, hts⟩ (kX4_valueAt l dC dI (p0a := (st0 (p0a 0) p0a)) (p0k := p0k) (p0w := p0w_114) (p0l := p0l) (p1 := (p0w_114 2 (nn v6_114))) (sz := _) (o := o_43) (hrun := hc_43)) (cwV 1 hts (gi_V qw29 qw30 qw31 qw18 (gi_z qw28)) rfl rfl rfl (by decide +kernel) ⟨Nat.le_of_ble_eq_true rfl, Nat.le_of_ble_eq_true rfl⟩) ⟨PRE.blind, va_recv hKc hPc (ci := 6) (q0 := 0) rfl rfl, PRE.of hE hS hFc hPc hKc hDc⟩ rfl rfl hl.1 rfl (lv_room (Nat.le_of_ble_eq_true rfl)) dX4_fillBlock_221 ⟨(show (gcX9 p3_2n p3_2n_114) + 0 ≤ (gcX9 p3_2n (o.2.2.2)) from by have q0 := gmX9 hg_p3_2 hgn_p3_2; omega), (show (3 * (gcX9 p3_2n p3_2n_114)) + 0 ≤ (3 * (gcX9 p3_2n (o.2.2.2))) from by have q0 := gmX9 hg_p3_2 hgn_p3_2; omega)⟩) hS (fun q _ h => hFc q h) hFc (fun r44 u t H locs ht hvm hw hB hz1 hk1 hS => ?_)
            obtain ⟨hP, hD, hK⟩ := JOIN (wr := ((oX6 (p1a 0) p1a p1k p1w p1l) ++ (oX1 (p3a 0) p3a p3k p3n p3w_114 p3l) ++ (oX9 (p3a 3) (st1 (st1 (st1 (st1 (st1 p3_2a 2 xp3_2_1_114) 3 xp3_2_2_114) 4 xp3_2_3_114) 5 xp3_2_4_114) 6 xp3_2_5_114) (st1 (st1 (st1 (st1 (st1 p3_2k 2 zp3_2_1_114) 3 zp3_2_2_114) 4 zp3_2_3_114) 5 zp3_2_4_114) 6 zp3_2_5_114) p3_2n_114 p3_2w_114))) hP hD hK [0, 1, 2, 3, 4, 5, 6, 7, 8, 9, 10, 11, 12, 13, 14, 15, 16, 17, 18] [19, 20, 21, 22, 23, 24, 25, 26, 27, 28, 29, 30, 31, 32, 33, 34, 35, 36, 37, 38, 39, 40, 41, 42, 43, 44, 45, 46, 47, 48, 49, 50, 51, 52, 53] [18, 19, 20, 21, 22, 23, 24, 25, 26, 27, 28, 29, 30, 31, 32, 33, 34, 35, 36, 37, 38, 39, 40, 41, 42, 43, 44, 45, 46, 47, 48, 49] rfl rfl (by decide +kernel) (by decide +kernel) rfl hk1 hFc ht hvm hB
            have hP : va_P (dC, dI) cls ((oX4 (p0a 0) p0a p0k p0w_114 p0l) ++ (oX6 (p1a 0) p1a p1k p1w p1l) ++ (oX1 (p3a 0) p3a p3k p3n p3w_114 p3l) ++ (oX9 (p3a 3) (st1 (st1 (st1 (st1 (st1 p3_2a 2 xp3_2_1_114) 3 xp3_2_2_114) 4 xp3_2_3_114) 5 xp3_2_4_114) 6 xp3_2_5_114) (st1 (st1 (st1 (st1 (st1 p3_2k 2 zp3_2_1_114) 3 zp3_2_2_114) 4 zp3_2_3_114) 5 zp3_2_4_114) 6 zp3_2_5_114) p3_2n_114 p3_2w_114)) H := hP.sub [35, 36, 37, 38, 39, 40, 41, 42, 43, 44, 45, 46, 47, 48, 49, 50, 51, 52, 53, 0, 1, 2, 3, 4, 5, 6, 7, 8, 9, 10, 11, 12, 13, 14, 15, 16, 17, 18, 19, 20, 21, 22, 23, 24, 25, 26, 27, 28, 29, 30, 31, 32, 33, 34] rfl
            have hD : va_D A ((oX4 (p0a 0) p0a p0k p0w_114 p0l) ++ (oX6 (p1a 0) p1a p1k p1w p1l) ++ (oX1 (p3a 0) p3a p3k p3n p3w_114 p3l) ++ (oX9 (p3a 3) (st1 (st1 (st1 (st1 (st1 p3_2a 2 xp3_2_1_114) 3 xp3_2_2_114) 4 xp3_2_3_114) 5 xp3_2_4_114) 6 xp3_2_5_114) (st1 (st1 (st1 (st1 (st1 p3_2k 2 zp3_2_1_114) 3 zp3_2_2_114) 4 zp3_2_3_114) 5 zp3_2_4_114) 6 zp3_2_5_114) p3_2n_114 p3_2w_114)) := hD.sub [35, 36, 37, 38, 39, 40, 41, 42, 43, 44, 45, 46, 47, 48, 49, 50, 51, 52, 53, 0, 1, 2, 3, 4, 5, 6, 7, 8, 9, 10, 11, 12, 13, 14, 15, 16, 17, 18, 19, 20, 21, 22, 23, 24, 25, 26, 27, 28, 29, 30, 31, 32, 33, 34] (by decide +kernel) rfl
            have hK : va_K (dC, dI) cls ((tX4 p0k) ++ (tX6 p1k) ++ (tX1 p3k) ++ (tX9 (st1 (st1 (st1 (st1 (st1 p3_2k 2 zp3_2_1_114) 3 zp3_2_2_114) 4 zp3_2_3_114) 5 zp3_2_4_114) 6 zp3_2_5_114))) s := hK.sub [32, 33, 34, 35, 36, 37, 38, 39, 40, 41, 42, 43, 44, 45, 46, 47, 48, 49, 0, 1, 2, 3, 4, 5, 6, 7, 8, 9, 10, 11, 12, 13, 14, 15, 16, 17, 18, 19, 20, 21, 22, 23, 24, 25, 26, 27, 28, 29, 30, 31] rfl
            obtain rfl : o_43 = r44 := hw.symm
            obtain ⟨hq45, hrun⟩ := chk9 hrun
            refine va_iast hx hb hK hP hD hS 18 17 rfl rfl (ixb_in hq45) dX4_fillBlock_224 (fun H locs hP hD hS => ?_)
            have hP : va_P (dC, dI) cls ((oX4 (p0a 0) p0a p0k (upw p0w_114 20 (nn ((p4 * 320) + (p1w 10 (nn v6_114)))) o_43) p0l) ++ (oX6 (p1a 0) p1a p1k p1w p1l) ++ (oX1 (p3a 0) p3a p3k p3n p3w_114 p3l) ++ (oX9 (p3a 3) (st1 (st1 (st1 (st1 (st1 p3_2a 2 xp3_2_1_114) 3 xp3_2_2_114) 4 xp3_2_3_114) 5 xp3_2_4_114) 6 xp3_2_5_114) (st1 (st1 (st1 (st1 (st1 p3_2k 2 zp3_2_1_114) 3 zp3_2_2_114) 4 zp3_2_3_114) 5 zp3_2_4_114) 6 zp3_2_5_114) p3_2n_114 p3_2w_114)) H := hP
            have hD : va_D A ((oX4 (p0a 0) p0a p0k (upw p0w_114 20 (nn ((p4 * 320) + (p1w 10 (nn v6_114)))) o_43) p0l) ++ (oX6 (p1a 0) p1a p1k p1w p1l) ++ (oX1 (p3a 0) p3a p3k p3n p3w_114 p3l) ++ (oX9 (p3a 3) (st1 (st1 (st1 (st1 (st1 p3_2a 2 xp3_2_1_114) 3 xp3_2_2_114) 4 xp3_2_3_114) 5 xp3_2_4_114) 6 xp3_2_5_114) (st1 (st1 (st1 (st1 (st1 p3_2k 2 zp3_2_1_114) 3 zp3_2_2_114) 4 zp3_2_3_114) 5 zp3_2_4_114) 6 zp3_2_5_114) p3_2n_114 p3_2w_114)) := hD
            obtain ⟨w46, ew46, hrun⟩ := let9 hrun
            rw [← ew46] at hP hD
            refine lv_goto (tgt := 268) hx hb dX4_fillBlock_225 (by decide) ?_
            exact J268 w46 p3w_114 p3_2w_114 p3_2n_114 xp3_2_1_114 zp3_2_1_114 xp3_2_2_114 zp3_2_2_114 xp3_2_3_114 zp3_2_3_114 xp3_2_4_114 zp3_2_4_114 xp3_2_5_114 zp3_2_5_114 _ _ _ hrun hP hD hK hS (lv_sub hl [1, 2, 3, 4, 5, 6] rfl) hg_p3_2
          refine lv_lookup (off := 117) (tgt := 258) hx hb dX4_fillBlock_141 (by decide) (by rw [lv_osw hc15 (by decide), lv_osw hc31 (by decide), lv_osw hc35 (by decide), lv_osw hc41 (by decide)]; rfl) (by decide) ?_
          refine lv_aload_n hx hb dX4_fillBlock_258 rfl (lv_at hl 1 rfl) ?_
          refine lv_aload_n hx hb dX4_fillBlock_259 rfl (lv_at hl 2 rfl) ?_
          refine lv_aload_n hx hb dX4_fillBlock_260 rfl (lv_at hl 3 rfl) ?_
          refine lv_iload hx hb dX4_fillBlock_261 (lv_at hl 4 rfl) ?_
          refine lv_iload hx hb dX4_fillBlock_263 (lv_at hl 6 rfl) ?_
          obtain ⟨o_47, hc_47, hrun⟩ := bnd9 hrun
          have hPc := hP.sub (ws' := ((oX4 (p0a 0) p0a p0k p0w_114 p0l) ++ (oX6 (p1a 0) p1a p1k p1w p1l) ++ (oX1 (p3a 0) p3a p3k p3n p3w_114 p3l) ++ (oX9 (p3a 3) (st1 (st1 (st1 (st1 (st1 p3_2a 2 xp3_2_1_114) 3 xp3_2_2_114) 4 xp3_2_3_114) 5 xp3_2_4_114) 6 xp3_2_5_114) (st1 (st1 (st1 (st1 (st1 p3_2k 2 zp3_2_1_114) 3 zp3_2_2_114) 4 zp3_2_3_114) 5 zp3_2_4_114) 6 zp3_2_5_114) p3_2n_114 p3_2w_114))) [0, 1, 2, 3, 4, 5, 6, 7, 8, 9, 10, 11, 12, 13, 14, 15, 16, 17, 18, 19, 20, 21, 22, 23, 24, 25, 26, 27, 28, 29, 30, 31, 32, 33, 34, 35, 36, 37, 38, 39, 40, 41, 42, 43, 44, 45, 46, 47, 48, 49, 50, 51, 52, 53] rfl
          have hDc := hD.sub (ws' := ((oX4 (p0a 0) p0a p0k p0w_114 p0l) ++ (oX6 (p1a 0) p1a p1k p1w p1l) ++ (oX1 (p3a 0) p3a p3k p3n p3w_114 p3l) ++ (oX9 (p3a 3) (st1 (st1 (st1 (st1 (st1 p3_2a 2 xp3_2_1_114) 3 xp3_2_2_114) 4 xp3_2_3_114) 5 xp3_2_4_114) 6 xp3_2_5_114) (st1 (st1 (st1 (st1 (st1 p3_2k 2 zp3_2_1_114) 3 zp3_2_2_114) 4 zp3_2_3_114) 5 zp3_2_4_114) 6 zp3_2_5_114) p3_2n_114 p3_2w_114))) [0, 1, 2, 3, 4, 5, 6, 7, 8, 9, 10, 11, 12, 13, 14, 15, 16, 17, 18, 19, 20, 21, 22, 23, 24, 25, 26, 27, 28, 29, 30, 31, 32, 33, 34, 35, 36, 37, 38, 39, 40, 41, 42, 43, 44, 45, 46, 47, 48, 49, 50, 51, 52, 53] (by decide +kernel) rfl
          have hKc := hK.sub (tys' := ((tX4 p0k) ++ (tX6 p1k) ++ (tX1 p3k) ++ (tX9 (st1 (st1 (st1 (st1 (st1 p3_2k 2 zp3_2_1_114) 3 zp3_2_2_114) 4 zp3_2_3_114) 5 zp3_2_4_114) 6 zp3_2_5_114)))) [0, 1, 2, 3, 4, 5, 6, 7, 8, 9, 10, 11, 12, 13, 14, 15, 16, 17, 18, 19, 20, 21, 22, 23, 24, 25, 26, 27, 28, 29, 30, 31, 32, 33, 34, 35, 36, 37, 38, 39, 40, 41, 42, 43, 44, 45, 46, 47, 48, 49] rfl
          have hFc := va_free (wc := ((oX4 (p0a 0) p0a p0k p0w_114 p0l) ++ (oX6 (p1a 0) p1a p1k p1w p1l) ++ (oX1 (p3a 0) p3a p3k p3n p3w_114 p3l) ++ (oX9 (p3a 3) (st1 (st1 (st1 (st1 (st1 p3_2a 2 xp3_2_1_114) 3 xp3_2_2_114) 4 xp3_2_3_114) 5 xp3_2_4_114) 6 xp3_2_5_114) (st1 (st1 (st1 (st1 (st1 p3_2k 2 zp3_2_1_114) 3 zp3_2_2_114) 4 zp3_2_3_114) 5 zp3_2_4_114) 6 zp3_2_5_114) p3_2n_114 p3_2w_114))) hD hS hA [0, 1, 2, 3, 4, 5, 6, 7, 8, 9, 10, 11, 12, 13, 14, 15, 16, 17, 18, 19, 20, 21, 22, 23, 24, 25, 26, 27, 28, 29, 30, 31, 32, 33, 34, 35, 36, 37, 38, 39, 40, 41, 42, 43, 44, 45, 46, 47, 48, 49, 50, 51, 52, 53] rfl
          have hgn_p3_2 : glX9 (o_47.2.2) (o.2.2.2) := (glX9_tr (mo_fX4_fillBlock_G268_58 (mo_fX4_fillBlock_L114 n_114) hrun) hgo_p3_2)
          refine va_callv (va_runV (As := [.ref (p1a 0), .ref (p3a 0), .int p4, .int v6_114]) (rest := []) ⟨hx, hb, hml, hown, hts⟩ (kX4_fillStep l dC dI (p0a := (st0 (p0a 0) p0a)) (p0k := p0k) (p0w := p0w_114) (p0l := p0l) (p1a := (st0 (p1a 0) p1a)) (p1k := p1k) (p1w := p1w) (p1l := p1l) (p2a := (st0 (p3a 0) p3a)) (p2k := p3k) (p2n := p3n) (p2w := p3w_114) (p2l := p3l) (p3 := p4) (p4 := v6_114) (p2_2a := (st1 (st1 (st1 (st1 (st1 p3_2a 2 xp3_2_1_114) 3 xp3_2_2_114) 4 xp3_2_3_114) 5 xp3_2_4_114) 6 xp3_2_5_114)) (p2_2k := (st1 (st1 (st1 (st1 (st1 p3_2k 2 zp3_2_1_114) 3 zp3_2_2_114) 4 zp3_2_3_114) 5 zp3_2_4_114) 6 zp3_2_5_114)) (p2_2n := p3_2n_114) (p2_2w := p3_2w_114) (sz := _) (o := o_47) (hrun := hc_47)) (cwV 4 hts (gi_V qw74 qw75 qw76 qw18 (gi_z qw73)) rfl rfl rfl (by decide +kernel) ⟨Nat.le_of_ble_eq_true rfl, Nat.le_of_ble_eq_true rfl⟩) ⟨PRE.blind, va_recv hKc hPc (ci := 6) (q0 := 0) rfl rfl, PRE.of hE hS hFc hPc hKc hDc⟩ rfl rfl hl.1 rfl (lv_room (Nat.le_of_ble_eq_true rfl)) dX4_fillBlock_265 ⟨(show (gcX9 p3_2n p3_2n_114) + (gcX9 p3_2n_114 (o_47.2.2)) ≤ (gcX9 p3_2n (o.2.2.2)) from by have q0 := gsX9 hg_p3_2 (mo_fX4_fillStep hc_47) hgn_p3_2; omega), (show (3 * (gcX9 p3_2n p3_2n_114)) + (3 * ((gcX9 p3_2n_114 (o_47.2.2)))) ≤ (3 * (gcX9 p3_2n (o.2.2.2))) from by have q0 := gsX9 hg_p3_2 (mo_fX4_fillStep hc_47) hgn_p3_2; omega)⟩) hS (fun q _ h => hFc q h) hFc (fun u t H locs ht hvm hw hB hz1 hk1 hS => ?_)
          obtain ⟨x48, z49, x50, z51, x52, z53, x54, z55, x56, z57, hB⟩ := hB
          obtain ⟨hP, hD, hK⟩ := JOIN (wr := ([] : va_W)) hP hD hK [0, 1, 2, 3, 4, 5, 6, 7, 8, 9, 10, 11, 12, 13, 14, 15, 16, 17, 18, 19, 20, 21, 22, 23, 24, 25, 26, 27, 28, 29, 30, 31, 32, 33, 34, 35, 36, 37, 38, 39, 40, 41, 42, 43, 44, 45, 46, 47, 48, 49, 50, 51, 52, 53] [] [] rfl rfl (by decide +kernel) (by decide +kernel) rfl hk1 hFc ht hvm hB
          have hP : va_P (dC, dI) cls ((oX4 (p0a 0) p0a p0k p0w_114 p0l) ++ (oX6 (p1a 0) p1a p1k p1w p1l) ++ (oX1 (p3a 0) p3a p3k p3n (o_47.1) p3l) ++ (oX9 (p3a 3) (st1 (st1 (st1 (st1 (st1 p3_2a 2 x48) 3 x50) 4 x52) 5 x54) 6 x56) (st1 (st1 (st1 (st1 (st1 p3_2k 2 z49) 3 z51) 4 z53) 5 z55) 6 z57) (o_47.2.2) (o_47.2.1))) H := hP.sub [0, 1, 2, 3, 4, 5, 6, 7, 8, 9, 10, 11, 12, 13, 14, 15, 16, 17, 18, 19, 20, 21, 22, 23, 24, 25, 26, 27, 28, 29, 30, 31, 32, 33, 34, 35, 36, 37, 38, 39, 40, 41, 42, 43, 44, 45, 46, 47, 48, 49, 50, 51, 52, 53] rfl
          have hD : va_D A ((oX4 (p0a 0) p0a p0k p0w_114 p0l) ++ (oX6 (p1a 0) p1a p1k p1w p1l) ++ (oX1 (p3a 0) p3a p3k p3n (o_47.1) p3l) ++ (oX9 (p3a 3) (st1 (st1 (st1 (st1 (st1 p3_2a 2 x48) 3 x50) 4 x52) 5 x54) 6 x56) (st1 (st1 (st1 (st1 (st1 p3_2k 2 z49) 3 z51) 4 z53) 5 z55) 6 z57) (o_47.2.2) (o_47.2.1))) := hD.sub [0, 1, 2, 3, 4, 5, 6, 7, 8, 9, 10, 11, 12, 13, 14, 15, 16, 17, 18, 19, 20, 21, 22, 23, 24, 25, 26, 27, 28, 29, 30, 31, 32, 33, 34, 35, 36, 37, 38, 39, 40, 41, 42, 43, 44, 45, 46, 47, 48, 49, 50, 51, 52, 53] (by decide +kernel) rfl
          have hK : va_K (dC, dI) cls ((tX4 p0k) ++ (tX6 p1k) ++ (tX1 p3k) ++ (tX9 (st1 (st1 (st1 (st1 (st1 p3_2k 2 z49) 3 z51) 4 z53) 5 z55) 6 z57))) s := hK.sub [0, 1, 2, 3, 4, 5, 6, 7, 8, 9, 10, 11, 12, 13, 14, 15, 16, 17, 18, 19, 20, 21, 22, 23, 24, 25, 26, 27, 28, 29, 30, 31, 32, 33, 34, 35, 36, 37, 38, 39, 40, 41, 42, 43, 44, 45, 46, 47, 48, 49] rfl
          refine W.widen (k := (gcX9 p3_2n (o_47.2.2))) (n := (3 * (gcX9 p3_2n (o_47.2.2)))) (by have a0 := gcX9_add hg_p3_2 (mo_fX4_fillStep hc_47); omega) (by have a0 := gcX9_add hg_p3_2 (mo_fX4_fillStep hc_47); omega) ?_
          have hg_p3_2 : glX9 p3_2n (o_47.2.2) := glX9_tr hg_p3_2 (mo_fX4_fillStep hc_47)
          unfold fX4_fillBlock_G268_58 at hrun
          exact J268 p0w_114 (o_47.1) (o_47.2.1) (o_47.2.2) x48 z49 x50 z51 x52 z53 x54 z55 x56 z57 _ _ _ hrun hP hD hK hS (lv_sub hl [1, 2, 3, 4, 5, 6] rfl) hg_p3_2
    refine L114 NF o_8 o67 p3w p3_2w p3_2n (p3_2a 2) (p3_2k 2) (p3_2a 3) (p3_2k 3) (p3_2a 4) (p3_2k 4) (p3_2a 5) (p3_2k 5) (p3_2a 6) (p3_2k 6) o114 _ _ _ hc114 hP hD hK hS (lv_sub hl [1, 2, 3, 4, 5, 0] rfl) hg_p3_2 hgn_p3_2 ?_
    intro xp3_2_1_114x zp3_2_1_114x xp3_2_2_114x zp3_2_2_114x xp3_2_3_114x zp3_2_3_114x xp3_2_4_114x zp3_2_4_114x xp3_2_5_114x zp3_2_5_114x H locs ls hP hD hK hS hl hg_p3_2
    have hl := hl
    unfold fX4_fillBlock_G274_59 at hrun
    have ho9 : ((o114.1), (o114.2.1), (o114.2.2.1), (o114.2.2.2)) = o := Option.some.inj hrun
    subst ho9
    subst hQ
    exact W.vret hx hb hr (fun t ht hW => ⟨⟨(), rfl, trivial, ⟨xp3_2_1_114x, zp3_2_1_114x, xp3_2_2_114x, zp3_2_2_114x, xp3_2_3_114x, zp3_2_3_114x, xp3_2_4_114x, zp3_2_4_114x, xp3_2_5_114x, zp3_2_5_114x, by rw [ht]; exact hP, va_K.moved hW.alike hK, hD⟩⟩, hS.F ht⟩) hS.2.2 dX4_fillBlock_274
  rcases br9 hrun with ⟨hc60, hrun⟩ | ⟨hc60, hrun⟩
  · refine lv_if_ne (tgt := 28) hx hb dX4_fillBlock_10 (by decide) (fun c => absurd hc60 c) (fun _ => ?_)
    refine lv_aload_n hx hb dX4_fillBlock_13 rfl (lv_at hl 1 rfl) ?_
    refine va_get (D := (dC, dI)) (ci := 6) (v := .ref (p0a 20)) (C := RX4) (T := TX4) (N := 20) hx hb hts i_X4 hown hK hP 0 rfl rfl 19 (by decide) (hts _ qw0) (fun _ h9 => h9) rfl dX4_fillBlock_14 ?_
    refine lv_iconst (v := 0) hx hb dX4_fillBlock_17 (by decide) ?_
    refine lv_sipush (v := 320) hx hb dX4_fillBlock_18 (by decide) ?_
    refine lv_iconst (v := (-1)) hx hb dX4_fillBlock_21 (by decide) ?_
    obtain ⟨o_61, hc_61, hrun⟩ := bnd9 hrun
    have hPc := hP.sub (ws' := [((p0a 20), .inl ((p0k 20), 19200, .inl (p0w 20)))]) [18] rfl
    have hDc := hD.sub (ws' := [((p0a 20), .inl ((p0k 20), 19200, .inl (p0w 20)))]) [18] (by decide +kernel) rfl
    have hKc := hK.sub (tys' := [((p0k 20), .int)]) [17] rfl
    have hFc := va_free (wc := [((p0a 20), .inl ((p0k 20), 19200, .inl (p0w 20)))]) hD hS hA [18] rfl
    refine va_callv (va_runS (As := [.ref (p0a 20), .int 0, .int 320, .int (-1)]) (rest := []) ⟨hx, hb, hml, hown, hts⟩ (kJ7_fill_fda19 l dC dI (p0a := (p0a 20)) (p0k := (p0k 20)) (p0n := 19200) (p0f := (p0w 20)) (p1 := 0) (p2 := 320) (p3 := (-1)) (sz := _) (o := o_61) (hrun := hc_61)) (va_cwS 4 hts (gi_S qw6 qw7 qw4 (gi_z qw5)) rfl rfl rfl (by decide +kernel) ⟨Nat.le_of_ble_eq_true rfl, Nat.le_of_ble_eq_true rfl⟩) ⟨PRE.blind, PRE.of hE hS hFc hPc hKc hDc⟩ rfl rfl hl.1 rfl (lv_room (Nat.le_of_ble_eq_true rfl)) dX4_fillBlock_22 ⟨(show (gcX9 p3_2n p3_2n) + 0 ≤ (gcX9 p3_2n (o.2.2.2)) from by have q0 := gmX9 hg_p3_2 hgn_p3_2; omega), (show (3 * (gcX9 p3_2n p3_2n)) + 0 ≤ (3 * (gcX9 p3_2n (o.2.2.2))) from by have q0 := gmX9 hg_p3_2 hgn_p3_2; omega)⟩) hS (fun q _ h => hFc q h) hFc (fun u t H locs ht hvm hw hB hz1 hk1 hS => ?_)
    obtain ⟨hP, hD, hK⟩ := JOIN (wr := ([((p0a 0), .inr (6, [.ref (p0a 1), .ref (p0a 2), .ref (p0a 3), .ref (p0a 4), .ref (p0a 5), .int (p0w 0 5), .ref (p0a 7), .ref (p0a 8), .ref (p0a 9), .ref (p0a 10), .ref (p0a 11), .ref (p0a 12), .ref (p0a 13), .ref (p0a 14), .ref (p0a 15), .ref (p0a 16), .ref (p0a 17), .ref (p0a 18), .ref (p0a 19), .ref (p0a 20)])), ((p0a 2), .inl ((p0k 2), 3200, .inl (p0w 2))), ((p0a 3), .inl ((p0k 3), 3200, .inl (p0w 3))), ((p0a 4), .inl ((p0k 4), 3200, .inl (p0w 4))), ((p0a 5), .inl ((p0k 5), 512, .inl (p0w 5))), ((p0a 7), .inl ((p0k 7), 640, .inl (p0w 7))), ((p0a 8), .inl ((p0k 8), 640, .inl (p0w 8))), ((p0a 9), .inl ((p0k 9), 640, .inl (p0w 9))), ((p0a 10), .inl ((p0k 10), 640, .inl (p0w 10))), ((p0a 11), .inl ((p0k 11), 640, .inl (p0w 11))), ((p0a 12), .inl ((p0k 12), 640, .inl (p0w 12))), ((p0a 13), .inl ((p0k 13), 640, .inl (p0w 13))), ((p0a 14), .inl ((p0k 14), 640, .inl (p0w 14))), ((p0a 15), .inl ((p0k 15), 60, .inl (p0w 15))), ((p0a 16), .inl ((p0k 16), 320, .inr (.inl (p0l 16)))), ((p0a 17), .inl ((p0k 17), 320, .inr (.inl (p0l 17)))), ((p0a 18), .inl ((p0k 18), 60, .inr (.inl (p0l 18)))), ((p0a 19), .inl ((p0k 19), 250, .inl (p0w 19)))] ++ (oX6 (p1a 0) p1a p1k p1w p1l) ++ (oX1 (p3a 0) p3a p3k p3n p3w p3l) ++ (oX9 (p3a 3) p3_2a p3_2k p3_2n p3_2w))) hP hD hK [18] [0, 1, 2, 3, 4, 5, 6, 7, 8, 9, 10, 11, 12, 13, 14, 15, 16, 17, 19, 20, 21, 22, 23, 24, 25, 26, 27, 28, 29, 30, 31, 32, 33, 34, 35, 36, 37, 38, 39, 40, 41, 42, 43, 44, 45, 46, 47, 48, 49, 50, 51, 52, 53] [0, 1, 2, 3, 4, 5, 6, 7, 8, 9, 10, 11, 12, 13, 14, 15, 16, 18, 19, 20, 21, 22, 23, 24, 25, 26, 27, 28, 29, 30, 31, 32, 33, 34, 35, 36, 37, 38, 39, 40, 41, 42, 43, 44, 45, 46, 47, 48, 49] rfl rfl (by decide +kernel) (by decide +kernel) rfl hk1 hFc ht hvm hB
    have hP : va_P (dC, dI) cls ((oX4 (p0a 0) p0a p0k (srw p0w 20 o_61) p0l) ++ (oX6 (p1a 0) p1a p1k p1w p1l) ++ (oX1 (p3a 0) p3a p3k p3n p3w p3l) ++ (oX9 (p3a 3) p3_2a p3_2k p3_2n p3_2w)) H := hP.sub [0, 1, 2, 3, 4, 5, 6, 7, 8, 9, 10, 11, 12, 13, 14, 15, 16, 17, 53, 18, 19, 20, 21, 22, 23, 24, 25, 26, 27, 28, 29, 30, 31, 32, 33, 34, 35, 36, 37, 38, 39, 40, 41, 42, 43, 44, 45, 46, 47, 48, 49, 50, 51, 52] rfl
    have hD : va_D A ((oX4 (p0a 0) p0a p0k (srw p0w 20 o_61) p0l) ++ (oX6 (p1a 0) p1a p1k p1w p1l) ++ (oX1 (p3a 0) p3a p3k p3n p3w p3l) ++ (oX9 (p3a 3) p3_2a p3_2k p3_2n p3_2w)) := hD.sub [0, 1, 2, 3, 4, 5, 6, 7, 8, 9, 10, 11, 12, 13, 14, 15, 16, 17, 53, 18, 19, 20, 21, 22, 23, 24, 25, 26, 27, 28, 29, 30, 31, 32, 33, 34, 35, 36, 37, 38, 39, 40, 41, 42, 43, 44, 45, 46, 47, 48, 49, 50, 51, 52] (by decide +kernel) rfl
    have hK : va_K (dC, dI) cls ((tX4 p0k) ++ (tX6 p1k) ++ (tX1 p3k) ++ (tX9 p3_2k)) s := hK.sub [0, 1, 2, 3, 4, 5, 6, 7, 8, 9, 10, 11, 12, 13, 14, 15, 16, 49, 17, 18, 19, 20, 21, 22, 23, 24, 25, 26, 27, 28, 29, 30, 31, 32, 33, 34, 35, 36, 37, 38, 39, 40, 41, 42, 43, 44, 45, 46, 47, 48] rfl
    refine lv_goto (tgt := 58) hx hb dX4_fillBlock_25 (by decide) ?_
    exact J58 (srw p0w 20 o_61) _ _ _ hrun hP hD hK hS (lv_sub hl [1, 2, 4, 5, 0] rfl) hg_p3_2
  · refine lv_if_ne (tgt := 28) hx hb dX4_fillBlock_10 (by decide) (fun _ => ?_) (fun c => absurd c hc60)
    refine lv_aload_n hx hb dX4_fillBlock_28 rfl (lv_at hl 1 rfl) ?_
    refine va_get (D := (dC, dI)) (ci := 6) (v := .ref (p0a 20)) (C := RX4) (T := TX4) (N := 20) hx hb hts i_X4 hown hK hP 0 rfl rfl 19 (by decide) (hts _ qw0) (fun _ h9 => h9) rfl dX4_fillBlock_29 ?_
    refine lv_aload_n hx hb dX4_fillBlock_32 rfl (lv_at hl 4 rfl) ?_
    refine va_get (D := (dC, dI)) (ci := 4) (v := .ref (p3a 12)) (C := RX1) (T := TX1) (N := 21) hx hb hts i_X1 hown hK hP 30 rfl rfl 11 (by decide) (hts _ qw77) (fun _ h9 => h9) rfl dX4_fillBlock_33 ?_
    refine lv_iload hx hb dX4_fillBlock_36 (lv_at hl 5 rfl) ?_
    obtain ⟨hq62, hrun⟩ := chk9 hrun
    refine va_iald hx hb hK hP 39 36 rfl rfl (ixb_in hq62) dX4_fillBlock_38 ?_
    refine lv_sipush (v := 320) hx hb dX4_fillBlock_39 (by decide) ?_
    refine lv_imul hx hb dX4_fillBlock_42 ?_
    refine lv_aload_n hx hb dX4_fillBlock_43 rfl (lv_at hl 1 rfl) ?_
    refine va_get (D := (dC, dI)) (ci := 6) (v := .ref (p0a 20)) (C := RX4) (T := TX4) (N := 20) hx hb hts i_X4 hown hK hP 0 rfl rfl 19 (by decide) (hts _ qw0) (fun _ h9 => h9) rfl dX4_fillBlock_44 ?_
    refine lv_iload hx hb dX4_fillBlock_47 (lv_at hl 0 rfl) ?_
    refine lv_aload_n hx hb dX4_fillBlock_49 rfl (lv_at hl 2 rfl) ?_
    refine va_get (D := (dC, dI)) (ci := 2) (v := .ref (p1a 5)) (C := RX6) (T := TX6) (N := 13) hx hb hts i_X6 hown hK hP 19 rfl rfl 4 (by decide) (hts _ qw78) (fun _ h9 => h9) rfl dX4_fillBlock_50 ?_
    refine lv_iload_n hx hb dX4_fillBlock_53 rfl (lv_at hl 3 rfl) ?_
    obtain ⟨hq63, hrun⟩ := chk9 hrun
    refine va_iald hx hb hK hP 23 21 rfl rfl (ixb_in hq63) dX4_fillBlock_54 ?_
    obtain ⟨hq64, hrun⟩ := chk9 hrun
    refine va_copyi (ty := .int) (sp := ((p3w 12 (nn p4)) * 320)) (dp := (p4 * 320)) (n := (p1w 5 (nn p2))) hx hb (hml.trans hl.1.symm) hown (hts _ qw79) (hts _ qw50) (hts _ qw51) (hts _ qw52) hK hP hD hS 18 18 17 17 rfl rfl rfl rfl rfl (cpk_1 hq64) (cpk_2 hq64) (cpk_3 hq64) (cpk_4 hq64) (cpk_5 hq64) (fun _ _ => rfl) (Nat.le_of_ble_eq_true rfl) (Nat.le_of_ble_eq_true rfl) dX4_fillBlock_55 (fun H locs hP hD hS => ?_)
    have hP : va_P (dC, dI) cls ((oX4 (p0a 0) p0a p0k (srw p0w 20 (va_cpy (p0w 20) (p0w 20) (nn ((p3w 12 (nn p4)) * 320)) (nn (p4 * 320)) (nn (p1w 5 (nn p2))))) p0l) ++ (oX6 (p1a 0) p1a p1k p1w p1l) ++ (oX1 (p3a 0) p3a p3k p3n p3w p3l) ++ (oX9 (p3a 3) p3_2a p3_2k p3_2n p3_2w)) H := hP
    have hD : va_D A ((oX4 (p0a 0) p0a p0k (srw p0w 20 (va_cpy (p0w 20) (p0w 20) (nn ((p3w 12 (nn p4)) * 320)) (nn (p4 * 320)) (nn (p1w 5 (nn p2))))) p0l) ++ (oX6 (p1a 0) p1a p1k p1w p1l) ++ (oX1 (p3a 0) p3a p3k p3n p3w p3l) ++ (oX9 (p3a 3) p3_2a p3_2k p3_2n p3_2w)) := hD
    obtain ⟨w65, ew65, hrun⟩ := let9 hrun
    rw [← ew65] at hP hD
    exact J58 w65 _ _ _ hrun hP hD hK hS (lv_sub hl [1, 2, 4, 5, 0] rfl) hg_p3_2
