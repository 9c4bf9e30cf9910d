abbrev cX11_load : ByteArray := prog_1_method_4_code
def yX11_load : MethodName := ⟨RX11, "load", "()I"⟩
abbrev cX7_readProgram : ByteArray := prog_9_method_2_code
def yX7_readProgram : MethodName := ⟨RX7, "readProgram", "(LGearbox$Program;)I"⟩
abbrev cX6_clear : ByteArray := prog_8_method_2_code
def yX6_clear : MethodName := ⟨RX6, "clear", "()V"⟩
abbrev cX10_begin : ByteArray := prog_12_method_3_code
def yX10_begin : MethodName := ⟨RX10, "begin", "()V"⟩
abbrev cX10_advance : ByteArray := prog_12_method_4_code
def yX10_advance : MethodName := ⟨RX10, "advance", "()V"⟩
abbrev cX7_readFunction : ByteArray := prog_9_method_3_code
def yX7_readFunction : MethodName := ⟨RX7, "readFunction", "(I)V"⟩
abbrev cX7_expect : ByteArray := prog_9_method_25_code
def yX7_expect : MethodName := ⟨RX7, "expect", "(I)V"⟩
abbrev cX7_refuse : ByteArray := prog_9_method_26_code
def yX7_refuse : MethodName := ⟨RX7, "refuse", "()V"⟩
theorem dX10_advance_0 : decode cX10_advance 0 = .ok (.aload_n 0, 1) := by decide +kernel
theorem dX10_advance_1 : decode cX10_advance 1 = .ok (.getfield 19, 3) := by decide +kernel
theorem dX10_advance_4 : decode cX10_advance 4 = .ok (.aload_n 0, 1) := by decide +kernel
theorem dX10_advance_5 : decode cX10_advance 5 = .ok (.getfield 15, 3) := by decide +kernel
theorem dX10_advance_8 : decode cX10_advance 8 = .ok (.if_icmp .ge 44, 3) := by decide +kernel
theorem dX10_advance_52 : decode cX10_advance 52 = .ok (.aload_n 0, 1) := by decide +kernel
theorem dX10_advance_53 : decode cX10_advance 53 = .ok (.aload_n 0, 1) := by decide +kernel
theorem dX10_advance_54 : decode cX10_advance 54 = .ok (.getfield 19, 3) := by decide +kernel
theorem dX10_advance_57 : decode cX10_advance 57 = .ok (.putfield 28, 3) := by decide +kernel
theorem dX10_advance_60 : decode cX10_advance 60 = .ok (.aload_n 0, 1) := by decide +kernel
theorem dX10_advance_61 : decode cX10_advance 61 = .ok (.getfield 19, 3) := by decide +kernel
theorem dX10_advance_64 : decode cX10_advance 64 = .ok (.aload_n 0, 1) := by decide +kernel
theorem dX10_advance_65 : decode cX10_advance 65 = .ok (.getfield 15, 3) := by decide +kernel
theorem dX10_advance_68 : decode cX10_advance 68 = .ok (.if_icmp .lt 9, 3) := by decide +kernel
theorem dX10_advance_71 : decode cX10_advance 71 = .ok (.aload_n 0, 1) := by decide +kernel
theorem dX10_advance_72 : decode cX10_advance 72 = .ok (.iconst 0, 1) := by decide +kernel
theorem dX10_advance_73 : decode cX10_advance 73 = .ok (.putfield 31, 3) := by decide +kernel
theorem dX10_advance_76 : decode cX10_advance 76 = .ok (.return_, 1) := by decide +kernel
theorem dX10_begin_0 : decode cX10_begin 0 = .ok (.aload_n 0, 1) := by decide +kernel
theorem dX10_begin_1 : decode cX10_begin 1 = .ok (.iconst 0, 1) := by decide +kernel
theorem dX10_begin_2 : decode cX10_begin 2 = .ok (.putfield 19, 3) := by decide +kernel
theorem dX10_begin_5 : decode cX10_begin 5 = .ok (.aload_n 0, 1) := by decide +kernel
theorem dX10_begin_6 : decode cX10_begin 6 = .ok (.iconst 0, 1) := by decide +kernel
theorem dX10_begin_7 : decode cX10_begin 7 = .ok (.putfield 22, 3) := by decide +kernel
theorem dX10_begin_10 : decode cX10_begin 10 = .ok (.aload_n 0, 1) := by decide +kernel
theorem dX10_begin_11 : decode cX10_begin 11 = .ok (.invokevirtual 25, 3) := by decide +kernel
theorem dX10_begin_14 : decode cX10_begin 14 = .ok (.return_, 1) := by decide +kernel
theorem dX11_load_0 : decode cX11_load 0 = .ok (.aload_n 0, 1) := by decide +kernel
theorem dX11_load_1 : decode cX11_load 1 = .ok (.getfield 21, 3) := by decide +kernel
theorem dX11_load_4 : decode cX11_load 4 = .ok (.aload_n 0, 1) := by decide +kernel
theorem dX11_load_5 : decode cX11_load 5 = .ok (.getfield 65, 3) := by decide +kernel
theorem dX11_load_8 : decode cX11_load 8 = .ok (.invokevirtual 105, 3) := by decide +kernel
theorem dX11_load_11 : decode cX11_load 11 = .ok (.istore_n 1, 1) := by decide +kernel
theorem dX11_load_12 : decode cX11_load 12 = .ok (.aload_n 0, 1) := by decide +kernel
theorem dX11_load_13 : decode cX11_load 13 = .ok (.getfield 21, 3) := by decide +kernel
theorem dX11_load_16 : decode cX11_load 16 = .ok (.getfield 109, 3) := by decide +kernel
theorem dX11_load_19 : decode cX11_load 19 = .ok (.istore_n 2, 1) := by decide +kernel
theorem dX11_load_20 : decode cX11_load 20 = .ok (.aload_n 0, 1) := by decide +kernel
theorem dX11_load_21 : decode cX11_load 21 = .ok (.getfield 10, 3) := by decide +kernel
theorem dX11_load_24 : decode cX11_load 24 = .ok (.iconst 0, 1) := by decide +kernel
theorem dX11_load_25 : decode cX11_load 25 = .ok (.putfield 86, 3) := by decide +kernel
theorem dX11_load_28 : decode cX11_load 28 = .ok (.iconst 0, 1) := by decide +kernel
theorem dX11_load_29 : decode cX11_load 29 = .ok (.istore_n 3, 1) := by decide +kernel
theorem dX11_load_30 : decode cX11_load 30 = .ok (.iload_n 1, 1) := by decide +kernel
theorem dX11_load_31 : decode cX11_load 31 = .ok (.ifCond .ne 55, 3) := by decide +kernel
theorem dX11_load_86 : decode cX11_load 86 = .ok (.aload_n 0, 1) := by decide +kernel
theorem dX11_load_87 : decode cX11_load 87 = .ok (.iload_n 1, 1) := by decide +kernel
theorem dX11_load_88 : decode cX11_load 88 = .ok (.ifCond .ne 7, 3) := by decide +kernel
theorem dX11_load_95 : decode cX11_load 95 = .ok (.iload_n 2, 1) := by decide +kernel
theorem dX11_load_96 : decode cX11_load 96 = .ok (.putfield 82, 3) := by decide +kernel
theorem dX11_load_99 : decode cX11_load 99 = .ok (.iload_n 1, 1) := by decide +kernel
theorem dX11_load_100 : decode cX11_load 100 = .ok (.ifCond .ne 37, 3) := by decide +kernel
theorem dX11_load_137 : decode cX11_load 137 = .ok (.iload_n 1, 1) := by decide +kernel
theorem dX11_load_138 : decode cX11_load 138 = .ok (.ireturn, 1) := by decide +kernel
theorem dX6_clear_0 : decode cX6_clear 0 = .ok (.aload_n 0, 1) := by decide +kernel
theorem dX6_clear_1 : decode cX6_clear 1 = .ok (.iconst 0, 1) := by decide +kernel
theorem dX6_clear_2 : decode cX6_clear 2 = .ok (.putfield 43, 3) := by decide +kernel
theorem dX6_clear_5 : decode cX6_clear 5 = .ok (.aload_n 0, 1) := by decide +kernel
theorem dX6_clear_6 : decode cX6_clear 6 = .ok (.iconst 0, 1) := by decide +kernel
theorem dX6_clear_7 : decode cX6_clear 7 = .ok (.putfield 47, 3) := by decide +kernel
theorem dX6_clear_10 : decode cX6_clear 10 = .ok (.aload_n 0, 1) := by decide +kernel
theorem dX6_clear_11 : decode cX6_clear 11 = .ok (.iconst 0, 1) := by decide +kernel
theorem dX6_clear_12 : decode cX6_clear 12 = .ok (.putfield 50, 3) := by decide +kernel
theorem dX6_clear_15 : decode cX6_clear 15 = .ok (.return_, 1) := by decide +kernel
theorem dX7_expect_0 : decode cX7_expect 0 = .ok (.iload_n 1, 1) := by decide +kernel
theorem dX7_expect_1 : decode cX7_expect 1 = .ok (.bipush 40, 2) := by decide +kernel
theorem dX7_expect_3 : decode cX7_expect 3 = .ok (.if_icmp .eq 15, 3) := by decide +kernel
theorem dX7_expect_6 : decode cX7_expect 6 = .ok (.iload_n 1, 1) := by decide +kernel
theorem dX7_expect_7 : decode cX7_expect 7 = .ok (.bipush 91, 2) := by decide +kernel
theorem dX7_expect_9 : decode cX7_expect 9 = .ok (.if_icmp .eq 9, 3) := by decide +kernel
theorem dX7_expect_12 : decode cX7_expect 12 = .ok (.iload_n 1, 1) := by decide +kernel
theorem dX7_expect_13 : decode cX7_expect 13 = .ok (.bipush 123, 2) := by decide +kernel
theorem dX7_expect_15 : decode cX7_expect 15 = .ok (.if_icmp .ne 7, 3) := by decide +kernel
theorem dX7_expect_22 : decode cX7_expect 22 = .ok (.iconst 0, 1) := by decide +kernel
theorem dX7_expect_23 : decode cX7_expect 23 = .ok (.istore_n 2, 1) := by decide +kernel
theorem dX7_expect_24 : decode cX7_expect 24 = .ok (.aload_n 0, 1) := by decide +kernel
theorem dX7_expect_25 : decode cX7_expect 25 = .ok (.getfield 37, 3) := by decide +kernel
theorem dX7_expect_28 : decode cX7_expect 28 = .ok (.getfield 71, 3) := by decide +kernel
theorem dX7_expect_31 : decode cX7_expect 31 = .ok (.iload_n 1, 1) := by decide +kernel
theorem dX7_expect_32 : decode cX7_expect 32 = .ok (.if_icmp .ne 16, 3) := by decide +kernel
theorem dX7_expect_48 : decode cX7_expect 48 = .ok (.aload_n 0, 1) := by decide +kernel
theorem dX7_expect_49 : decode cX7_expect 49 = .ok (.invokevirtual 86, 3) := by decide +kernel
theorem dX7_readFunction_0 : decode cX7_readFunction 0 = .ok (.iload_n 1, 1) := by decide +kernel
theorem dX7_readFunction_1 : decode cX7_readFunction 1 = .ok (.bipush 6, 2) := by decide +kernel
theorem dX7_readFunction_3 : decode cX7_readFunction 3 = .ok (.if_icmp .lt 7, 3) := by decide +kernel
theorem dX7_readFunction_10 : decode cX7_readFunction 10 = .ok (.aload_n 0, 1) := by decide +kernel
theorem dX7_readFunction_11 : decode cX7_readFunction 11 = .ok (.iload_n 1, 1) := by decide +kernel
theorem dX7_readFunction_12 : decode cX7_readFunction 12 = .ok (.putfield 89, 3) := by decide +kernel
theorem dX7_readFunction_15 : decode cX7_readFunction 15 = .ok (.aload_n 0, 1) := by decide +kernel
theorem dX7_readFunction_16 : decode cX7_readFunction 16 = .ok (.iconst 0, 1) := by decide +kernel
theorem dX7_readFunction_17 : decode cX7_readFunction 17 = .ok (.putfield 92, 3) := by decide +kernel
theorem dX7_readFunction_20 : decode cX7_readFunction 20 = .ok (.aload_n 0, 1) := by decide +kernel
theorem dX7_readFunction_21 : decode cX7_readFunction 21 = .ok (.iconst 0, 1) := by decide +kernel
theorem dX7_readFunction_22 : decode cX7_readFunction 22 = .ok (.putfield 95, 3) := by decide +kernel
theorem dX7_readFunction_25 : decode cX7_readFunction 25 = .ok (.aload_n 0, 1) := by decide +kernel
theorem dX7_readFunction_26 : decode cX7_readFunction 26 = .ok (.bipush 7, 2) := by decide +kernel
theorem dX7_readFunction_28 : decode cX7_readFunction 28 = .ok (.invokevirtual 98, 3) := by decide +kernel
theorem dX7_readProgram_0 : decode cX7_readProgram 0 = .ok (.aload_n 0, 1) := by decide +kernel
theorem dX7_readProgram_1 : decode cX7_readProgram 1 = .ok (.aload_n 1, 1) := by decide +kernel
theorem dX7_readProgram_2 : decode cX7_readProgram 2 = .ok (.putfield 41, 3) := by decide +kernel
theorem dX7_readProgram_5 : decode cX7_readProgram 5 = .ok (.aload_n 0, 1) := by decide +kernel
theorem dX7_readProgram_6 : decode cX7_readProgram 6 = .ok (.getfield 41, 3) := by decide +kernel
theorem dX7_readProgram_9 : decode cX7_readProgram 9 = .ok (.invokevirtual 45, 3) := by decide +kernel
theorem dX7_readProgram_12 : decode cX7_readProgram 12 = .ok (.aload_n 0, 1) := by decide +kernel
theorem dX7_readProgram_13 : decode cX7_readProgram 13 = .ok (.iconst 0, 1) := by decide +kernel
theorem dX7_readProgram_14 : decode cX7_readProgram 14 = .ok (.putfield 50, 3) := by decide +kernel
theorem dX7_readProgram_17 : decode cX7_readProgram 17 = .ok (.aload_n 0, 1) := by decide +kernel
theorem dX7_readProgram_18 : decode cX7_readProgram 18 = .ok (.iconst (-1), 1) := by decide +kernel
theorem dX7_readProgram_19 : decode cX7_readProgram 19 = .ok (.putfield 54, 3) := by decide +kernel
theorem dX7_readProgram_22 : decode cX7_readProgram 22 = .ok (.aload_n 0, 1) := by decide +kernel
theorem dX7_readProgram_23 : decode cX7_readProgram 23 = .ok (.iconst 0, 1) := by decide +kernel
theorem dX7_readProgram_24 : decode cX7_readProgram 24 = .ok (.putfield 57, 3) := by decide +kernel
theorem dX7_readProgram_27 : decode cX7_readProgram 27 = .ok (.aload_n 0, 1) := by decide +kernel
theorem dX7_readProgram_28 : decode cX7_readProgram 28 = .ok (.iconst (-1), 1) := by decide +kernel
theorem dX7_readProgram_29 : decode cX7_readProgram 29 = .ok (.putfield 60, 3) := by decide +kernel
theorem dX7_readProgram_32 : decode cX7_readProgram 32 = .ok (.aload_n 0, 1) := by decide +kernel
theorem dX7_readProgram_33 : decode cX7_readProgram 33 = .ok (.iconst 0, 1) := by decide +kernel
theorem dX7_readProgram_34 : decode cX7_readProgram 34 = .ok (.putfield 63, 3) := by decide +kernel
theorem dX7_readProgram_37 : decode cX7_readProgram 37 = .ok (.aload_n 0, 1) := by decide +kernel
theorem dX7_readProgram_38 : decode cX7_readProgram 38 = .ok (.getfield 37, 3) := by decide +kernel
theorem dX7_readProgram_41 : decode cX7_readProgram 41 = .ok (.invokevirtual 66, 3) := by decide +kernel
theorem dX7_readProgram_44 : decode cX7_readProgram 44 = .ok (.iconst 0, 1) := by decide +kernel
theorem dX7_readProgram_45 : decode cX7_readProgram 45 = .ok (.istore_n 2, 1) := by decide +kernel
theorem dX7_readProgram_46 : decode cX7_readProgram 46 = .ok (.iload_n 2, 1) := by decide +kernel
theorem dX7_readProgram_47 : decode cX7_readProgram 47 = .ok (.bipush 6, 2) := by decide +kernel
theorem dX7_readProgram_49 : decode cX7_readProgram 49 = .ok (.if_icmp .gt 28, 3) := by decide +kernel
theorem dX7_readProgram_52 : decode cX7_readProgram 52 = .ok (.iload_n 2, 1) := by decide +kernel
theorem dX7_readProgram_53 : decode cX7_readProgram 53 = .ok (.ifCond .eq 13, 3) := by decide +kernel
theorem dX7_readProgram_66 : decode cX7_readProgram 66 = .ok (.aload_n 0, 1) := by decide +kernel
theorem dX7_readProgram_67 : decode cX7_readProgram 67 = .ok (.iload_n 2, 1) := by decide +kernel
theorem dX7_readProgram_68 : decode cX7_readProgram 68 = .ok (.invokevirtual 74, 3) := by decide +kernel
theorem dX7_readProgram_80 : decode cX7_readProgram 80 = .ok (.astore_n 2, 1) := by decide +kernel
theorem dX7_readProgram_81 : decode cX7_readProgram 81 = .ok (.aload_n 0, 1) := by decide +kernel
theorem dX7_readProgram_82 : decode cX7_readProgram 82 = .ok (.aload_n 0, 1) := by decide +kernel
theorem dX7_readProgram_83 : decode cX7_readProgram 83 = .ok (.getfield 37, 3) := by decide +kernel
theorem dX7_readProgram_86 : decode cX7_readProgram 86 = .ok (.getfield 80, 3) := by decide +kernel
theorem dX7_readProgram_89 : decode cX7_readProgram 89 = .ok (.putfield 60, 3) := by decide +kernel
theorem dX7_readProgram_92 : decode cX7_readProgram 92 = .ok (.iconst 1, 1) := by decide +kernel
theorem dX7_readProgram_93 : decode cX7_readProgram 93 = .ok (.ireturn, 1) := by decide +kernel
theorem dX7_refuse_0 : decode cX7_refuse 0 = .ok (.new 78, 3) := by decide +kernel
theorem dX7_refuse_3 : decode cX7_refuse 3 = .ok (.dup, 1) := by decide +kernel
theorem dX7_refuse_4 : decode cX7_refuse 4 = .ok (.ldc 236, 2) := by decide +kernel
theorem dX7_refuse_6 : decode cX7_refuse 6 = .ok (.invokespecial 238, 3) := by decide +kernel
theorem dX7_refuse_9 : decode cX7_refuse 9 = .ok (.athrow, 1) := by decide +kernel
theorem qw269 : Cond.fieldLink RX7 41 "Gearbox$Reader" "program" "LGearbox$Program;" ∈ gw := mq_1 (i := 101) rfl rfl
theorem qw270 : Cond.fieldLink RX6 43 "Gearbox$Program" "functions" "I" ∈ gw := mq_3 (i := 162) rfl rfl
theorem qw271 : Cond.fieldLink RX6 47 "Gearbox$Program" "ops" "I" ∈ gw := mq_3 (i := 186) rfl rfl
theorem qw272 : Cond.fieldLink RX6 50 "Gearbox$Program" "labels" "I" ∈ gw := mq_3 (i := 197) rfl rfl
theorem qw273 : Cond.code yX6_clear cX6_clear 1 (Option.none : Option Jvm.ClassFile.FieldType) ∈ gw := mq_4 (i := 106) rfl rfl
theorem qw274 : Cond.methodLink RX7 45 yX6_clear ∈ gw := mq_4 (i := 103) rfl rfl
theorem qw275 : Cond.instanceMethod yX6_clear ∈ gw := mq_4 (i := 104) rfl rfl
theorem qw276 : Cond.selects RX6 yX6_clear yX6_clear ∈ gw := mq_4 (i := 105) rfl rfl
theorem qw277 : Cond.fieldLink RX7 50 "Gearbox$Reader" "open" "I" ∈ gw := mq_1 (i := 103) rfl rfl
theorem qw278 : Cond.fieldLink RX7 54 "Gearbox$Reader" "tallPlace" "I" ∈ gw := mq_1 (i := 104) rfl rfl
theorem qw279 : Cond.fieldLink RX7 57 "Gearbox$Reader" "fault" "I" ∈ gw := mq_1 (i := 105) rfl rfl
theorem qw280 : Cond.fieldLink RX7 60 "Gearbox$Reader" "faultPlace" "I" ∈ gw := mq_1 (i := 98) rfl rfl
theorem qw281 : Cond.fieldLink RX7 63 "Gearbox$Reader" "calls" "I" ∈ gw := mq_1 (i := 116) rfl rfl
theorem qw282 : Cond.fieldLink RX10 19 "Gearbox$Tokens" "after" "I" ∈ gw := mq_1 (i := 72) rfl rfl
theorem qw283 : Cond.fieldLink RX10 22 "Gearbox$Tokens" "count" "I" ∈ gw := mq_1 (i := 73) rfl rfl
theorem qw284 : Cond.fieldLink RX10 28 "Gearbox$Tokens" "place" "I" ∈ gw := mq_1 (i := 67) rfl rfl
theorem qw285 : Cond.fieldLink RX10 31 "Gearbox$Tokens" "kind" "I" ∈ gw := mq_1 (i := 65) rfl rfl
theorem qw286 : Cond.code yX10_advance cX10_advance 2 (Option.none : Option Jvm.ClassFile.FieldType) ∈ gw := mq_4 (i := 114) rfl rfl
theorem qw287 : Cond.methodLink RX10 25 yX10_advance ∈ gw := mq_4 (i := 111) rfl rfl
theorem qw288 : Cond.instanceMethod yX10_advance ∈ gw := mq_4 (i := 112) rfl rfl
theorem qw289 : Cond.selects RX10 yX10_advance yX10_advance ∈ gw := mq_4 (i := 113) rfl rfl
theorem qw290 : Cond.code yX10_begin cX10_begin 1 (Option.none : Option Jvm.ClassFile.FieldType) ∈ gw := mq_4 (i := 110) rfl rfl
theorem qw291 : Cond.methodLink RX7 66 yX10_begin ∈ gw := mq_4 (i := 107) rfl rfl
theorem qw292 : Cond.instanceMethod yX10_begin ∈ gw := mq_4 (i := 108) rfl rfl
theorem qw293 : Cond.selects RX10 yX10_begin yX10_begin ∈ gw := mq_4 (i := 109) rfl rfl
theorem qw294 : Cond.fieldLink RX7 89 "Gearbox$Reader" "function" "I" ∈ gw := mq_1 (i := 102) rfl rfl
theorem qw295 : Cond.fieldLink RX7 92 "Gearbox$Reader" "seen" "I" ∈ gw := mq_1 (i := 108) rfl rfl
theorem qw296 : Cond.fieldLink RX7 95 "Gearbox$Reader" "loops" "I" ∈ gw := mq_1 (i := 111) rfl rfl
theorem qw297 : Cond.fieldLink RX7 71 "Gearbox$Tokens" "kind" "I" ∈ gw := mq_1 (i := 64) rfl rfl
theorem qw298 : Cond.classLink RX7 78 "java/lang/IllegalArgumentException" ∈ gw := mq_4 (i := 102) rfl rfl
theorem qw299 : Cond.code yX7_refuse cX7_refuse 1 (Option.none : Option Jvm.ClassFile.FieldType) ∈ gw := mq_4 (i := 239) rfl rfl
theorem qw300 : Cond.methodLink RX7 86 yX7_refuse ∈ gw := mq_4 (i := 236) rfl rfl
theorem qw301 : Cond.instanceMethod yX7_refuse ∈ gw := mq_4 (i := 238) rfl rfl
theorem qw302 : Cond.selects RX7 yX7_refuse yX7_refuse ∈ gw := mk_s (i := 5) rfl rfl
theorem qw303 : Cond.code yX7_expect cX7_expect 3 (Option.none : Option Jvm.ClassFile.FieldType) ∈ gw := mq_5 (i := 72) rfl rfl
theorem qw304 : Cond.methodLink RX7 98 yX7_expect ∈ gw := mq_5 (i := 69) rfl rfl
theorem qw305 : Cond.instanceMethod yX7_expect ∈ gw := mq_5 (i := 71) rfl rfl
theorem qw306 : Cond.selects RX7 yX7_expect yX7_expect ∈ gw := mk_s (i := 6) rfl rfl
theorem qw307 : Cond.code yX7_readFunction cX7_readFunction 2 (Option.none : Option Jvm.ClassFile.FieldType) ∈ gw := mq_4 (i := 235) rfl rfl
theorem qw308 : Cond.methodLink RX7 74 yX7_readFunction ∈ gw := mq_4 (i := 232) rfl rfl
theorem qw309 : Cond.instanceMethod yX7_readFunction ∈ gw := mq_4 (i := 234) rfl rfl
theorem qw310 : Cond.selects RX7 yX7_readFunction yX7_readFunction ∈ gw := mk_s (i := 7) rfl rfl
theorem qw311 : Cond.fieldLink RX7 80 "Gearbox$Tokens" "place" "I" ∈ gw := mq_1 (i := 66) rfl rfl
theorem qw312 : Cond.codeWith yX7_readProgram cX7_readProgram 3 (Option.some Jvm.ClassFile.FieldType.int) [(44, 77, 80, 78)] ∈ gw := mq_4 (i := 101) rfl rfl
theorem qw313 : Cond.methodLink RX11 105 yX7_readProgram ∈ gw := mq_4 (i := 98) rfl rfl
theorem qw314 : Cond.instanceMethod yX7_readProgram ∈ gw := mq_4 (i := 99) rfl rfl
theorem qw315 : Cond.selects RX7 yX7_readProgram yX7_readProgram ∈ gw := mq_4 (i := 100) rfl rfl
theorem qw316 : Cond.fieldLink RX11 109 "Gearbox$Reader" "faultPlace" "I" ∈ gw := mq_1 (i := 99) rfl rfl
set_option maxRecDepth 20000 in
theorem at_X7_238_a : ∀ w ∈ Bundle.ownAtoms RX7 238 "java/lang/IllegalArgumentException" ["java/lang/RuntimeException", "java/lang/Exception"], vx_no w = true → w ∈ tables_1 ∧ (goodWord w || mvb w) = true := (List.forall_mem_append.mpr ⟨(List.forall_mem_append.mpr ⟨(List.forall_mem_append.mpr ⟨(List.forall_mem_cons.mpr ⟨fun _ => ⟨tbl_1 (i := 17) rfl, rfl⟩, (List.forall_mem_cons.mpr ⟨fun _ => ⟨tbl_5 (i := 21) rfl, rfl⟩, (List.forall_mem_cons.mpr ⟨fun _ => ⟨tbl_5 (i := 30) rfl, rfl⟩, (List.forall_mem_cons.mpr ⟨fun _ => ⟨tbl_5 (i := 36) rfl, rfl⟩, (List.forall_mem_cons.mpr ⟨fun _ => ⟨tbl_5 (i := 39) rfl, rfl⟩, (List.forall_mem_cons.mpr ⟨fun _ => ⟨tbl_5 (i := 41) rfl, rfl⟩, (List.forall_mem_cons.mpr ⟨fun _ => ⟨tbl_5 (i := 22) rfl, rfl⟩, (List.forall_mem_cons.mpr ⟨fun _ => ⟨tbl_5 (i := 23) rfl, rfl⟩, (List.forall_mem_cons.mpr ⟨fun _ => ⟨tbl_1 (i := 53) rfl, rfl⟩, (List.forall_mem_cons.mpr ⟨fun _ => ⟨tbl_1 (i := 54) rfl, rfl⟩, (List.forall_mem_cons.mpr ⟨fun _ => ⟨tbl_5 (i := 24) rfl, rfl⟩, (List.forall_mem_cons.mpr ⟨fun _ => ⟨tbl_5 (i := 29) rfl, rfl⟩, (List.forall_mem_cons.mpr ⟨fun _ => ⟨tbl_5 (i := 37) rfl, rfl⟩, (List.forall_mem_cons.mpr ⟨fun _ => ⟨tbl_5 (i := 57) rfl, rfl⟩, (List.forall_mem_cons.mpr ⟨fun _ => ⟨tbl_5 (i := 11) rfl, rfl⟩, (List.forall_mem_cons.mpr ⟨fun _ => ⟨tbl_5 (i := 58) rfl, rfl⟩, (List.forall_mem_cons.mpr ⟨fun _ => ⟨tbl_5 (i := 13) rfl, rfl⟩, (List.forall_mem_cons.mpr ⟨fun _ => ⟨tbl_5 (i := 59) rfl, rfl⟩, (List.forall_mem_cons.mpr ⟨fun _ => ⟨tbl_5 (i := 15) rfl, rfl⟩, (List.forall_mem_cons.mpr ⟨fun _ => ⟨tbl_5 (i := 25) rfl, rfl⟩, (List.forall_mem_cons.mpr ⟨fun h => absurd h (by decide +kernel), (List.forall_mem_cons.mpr ⟨fun _ => ⟨tbl_5 (i := 27) rfl, rfl⟩, (List.forall_mem_cons.mpr ⟨fun h => absurd h (by decide +kernel), (List.forall_mem_cons.mpr ⟨fun _ => ⟨tbl_5 (i := 17) rfl, rfl⟩, (fun _ h => absurd h List.not_mem_nil)⟩)⟩)⟩)⟩)⟩)⟩)⟩)⟩)⟩)⟩)⟩)⟩)⟩)⟩)⟩)⟩)⟩)⟩)⟩)⟩)⟩)⟩)⟩)⟩), (List.forall_mem_cons.mpr ⟨fun _ => ⟨tbl_5 (i := 53) rfl, rfl⟩, (List.forall_mem_cons.mpr ⟨fun _ => ⟨tbl_5 (i := 54) rfl, rfl⟩, (List.forall_mem_cons.mpr ⟨fun _ => ⟨tbl_5 (i := 56) rfl, rfl⟩, (List.forall_mem_cons.mpr ⟨fun _ => ⟨tbl_5 (i := 17) rfl, rfl⟩, (fun _ h => absurd h List.not_mem_nil)⟩)⟩)⟩)⟩)⟩), (List.forall_mem_append.mpr ⟨(List.forall_mem_cons.mpr ⟨fun _ => ⟨tbl_5 (i := 44) rfl, rfl⟩, (List.forall_mem_cons.mpr ⟨fun _ => ⟨tbl_5 (i := 45) rfl, rfl⟩, (List.forall_mem_cons.mpr ⟨fun _ => ⟨tbl_5 (i := 46) rfl, rfl⟩, (List.forall_mem_cons.mpr ⟨fun _ => ⟨tbl_5 (i := 47) rfl, rfl⟩, (List.forall_mem_cons.mpr ⟨fun _ => ⟨tbl_5 (i := 3) rfl, rfl⟩, (fun _ h => absurd h List.not_mem_nil)⟩)⟩)⟩)⟩)⟩), (List.forall_mem_append.mpr ⟨(List.forall_mem_cons.mpr ⟨fun _ => ⟨tbl_5 (i := 47) rfl, rfl⟩, (List.forall_mem_cons.mpr ⟨fun _ => ⟨tbl_5 (i := 48) rfl, rfl⟩, (List.forall_mem_cons.mpr ⟨fun _ => ⟨tbl_5 (i := 49) rfl, rfl⟩, (List.forall_mem_cons.mpr ⟨fun _ => ⟨tbl_5 (i := 50) rfl, rfl⟩, (List.forall_mem_cons.mpr ⟨fun _ => ⟨tbl_5 (i := 5) rfl, rfl⟩, (fun _ h => absurd h List.not_mem_nil)⟩)⟩)⟩)⟩)⟩), (List.forall_mem_cons.mpr ⟨fun _ => ⟨tbl_5 (i := 50) rfl, rfl⟩, (List.forall_mem_cons.mpr ⟨fun _ => ⟨tbl_5 (i := 51) rfl, rfl⟩, (List.forall_mem_cons.mpr ⟨fun _ => ⟨tbl_5 (i := 52) rfl, rfl⟩, (List.forall_mem_cons.mpr ⟨fun _ => ⟨tbl_5 (i := 53) rfl, rfl⟩, (List.forall_mem_cons.mpr ⟨fun _ => ⟨tbl_5 (i := 7) rfl, rfl⟩, (fun _ h => absurd h List.not_mem_nil)⟩)⟩)⟩)⟩)⟩)⟩)⟩)⟩), (List.forall_mem_cons.mpr ⟨fun _ => ⟨tbl_5 (i := 43) rfl, rfl⟩, (List.forall_mem_cons.mpr ⟨fun _ => ⟨tbl_5 (i := 0) rfl, rfl⟩, (List.forall_mem_cons.mpr ⟨fun _ => ⟨tbl_5 (i := 1) rfl, rfl⟩, (List.forall_mem_cons.mpr ⟨fun _ => ⟨tbl_5 (i := 8) rfl, rfl⟩, (List.forall_mem_cons.mpr ⟨fun _ => ⟨tbl_5 (i := 9) rfl, rfl⟩, (List.forall_mem_cons.mpr ⟨fun _ => ⟨tbl_5 (i := 10) rfl, rfl⟩, (List.forall_mem_cons.mpr ⟨fun _ => ⟨tbl_5 (i := 12) rfl, rfl⟩, (List.forall_mem_cons.mpr ⟨fun _ => ⟨tbl_5 (i := 14) rfl, rfl⟩, (List.forall_mem_cons.mpr ⟨fun _ => ⟨tbl_5 (i := 16) rfl, rfl⟩, (List.forall_mem_cons.mpr ⟨fun h => absurd h (by decide +kernel), (List.forall_mem_cons.mpr ⟨fun h => absurd h (by decide +kernel), (List.forall_mem_cons.mpr ⟨fun _ => ⟨tbl_5 (i := 20) rfl, rfl⟩, (List.forall_mem_cons.mpr ⟨fun _ => ⟨tbl_5 (i := 19) rfl, rfl⟩, (List.forall_mem_cons.mpr ⟨fun _ => ⟨tbl_5 (i := 18) rfl, rfl⟩, (fun _ h => absurd h List.not_mem_nil)⟩)⟩)⟩)⟩)⟩)⟩)⟩)⟩)⟩)⟩)⟩)⟩)⟩)⟩)⟩)
theorem at_X7_238 {zs : Nat × Nat} {args : Array Value} {s : State} {A : Nat → Prop} {H : Heap} (hts : ∀ w ∈ gw, w.before args s = true) (hE : ENV zs A s H) : ∀ w ∈ vx_atS RX7 238 "java/lang/IllegalArgumentException" ["java/lang/RuntimeException", "java/lang/Exception"], w.before args s = true := at_of at_X7_238_a hts hE
theorem at_X7_238_g {ik : Nat} : ∀ w ∈ Cond.classLink RX7 ik "java/lang/IllegalArgumentException" :: Cond.initialized "java/lang/IllegalArgumentException" :: vx_atS RX7 238 "java/lang/IllegalArgumentException" ["java/lang/RuntimeException", "java/lang/Exception"], vx_ot w = true := List.forall_mem_cons.mpr ⟨rfl, List.forall_mem_cons.mpr ⟨rfl, at_ot at_X7_238_a⟩⟩
set_option maxHeartbeats 4000000 in
set_option maxRecDepth 100000 in
/-- Gearbox$Program.clear, from the state that its caller has -/
theorem kX6_clear_n14 {zs : Nat × Nat} (l : Launch) (dC : Nat → ClassId) (dI : Nat → Nat → Nat) (a0 : Nat) (a42 : Nat) (a43 : Nat) (a44 : Nat) (a45 : Nat) (a46 : Nat) (a47 : Nat) (a48 : Nat) (a49 : Nat) (a50 : Nat) (a51 : Nat) (sz : Nat)  : Met l yX6_clear (wz yX6_clear cX6_clear 1 (Option.none : Option Jvm.ClassFile.FieldType)) ({ frames := 0, cells := 0, slots := 0, locals := 0 }) (va_Pc [.ref a0] (PRE zs dC dI [(a0, .inr (2, [.int 0, .ref a42, .ref a43, .ref a44, .ref a45, .ref a46, .ref a47, .int 0, .ref a48, .ref a49, .ref a50, .int 0, .ref a51]))] [] sz)) (va_Qv (fun (_ : Unit) => True) (fun _ t => POST dC dI [(a0, .inr (2, [.int 0, .ref a42, .ref a43, .ref a44, .ref a45, .ref a46, .ref a47, .int 0, .ref a48, .ref a49, .ref a50, .int 0, .ref a51]))] [] (va_A [(a0, .inr (2, [.int 0, .ref a42, .ref a43, .ref a44, .ref a45, .ref a46, .ref a47, .int 0, .ref a48, .ref a49, .ref a50, .int 0, .ref a51]))] sz) t) (va_A [(a0, .inr (2, [.int 0, .ref a42, .ref a43, .ref a44, .ref a45, .ref a46, .ref a47, .int 0, .ref a48, .ref a49, .ref a50, .int 0, .ref a51]))] sz)) 0 0 (va_A [(a0, .inr (2, [.int 0, .ref a42, .ref a43, .ref a44, .ref a45, .ref a46, .ref a47, .int 0, .ref a48, .ref a49, .ref a50, .int 0, .ref a51]))] sz) := by
  refine Met.ofW (cc := cX6_clear) (maxL := 1) (ret := (Option.none : Option Jvm.ClassFile.FieldType)) (by decide) rfl ?_
  intro p e s m args below meth c s₁ B hml hv
  obtain ⟨rfl, hsz, hP, hK, hD0, hE⟩ := hv
  have hx := B.exec
  have hb := B.bytes
  have hr := B.returns
  have hts0 := atoms_spec (ws := wz yX6_clear cX6_clear 1 (Option.none : Option Jvm.ClassFile.FieldType)) B.pre
  have hts : ∀ w ∈ gw, w.before _ s = true := fun w h => hts0 w (List.mem_cons_of_mem _ h)
  have hown : s.vm.findClass RX6 = some m.cls := findClass_of_methodNamed B.named
  have hlocks := B.notSynchronized
  subst hsz
  have hD := hD0.self (sz := s.heap.size)
  generalize hAe : va_A [(a0, .inr (2, [.int 0, .ref a42, .ref a43, .ref a44, .ref a45, .ref a46, .ref a47, .int 0, .ref a48, .ref a49, .ref a50, .int 0, .ref a51]))] s.heap.size = A at hD hE ⊢
  have hA : ∀ q : Nat, s.heap.size ≤ q → A q := fun q h => by rw [← hAe]; exact Or.inr h
  have hS : va_S A s.heap s.heap [] := va_S.rf
  have hP : va_P (dC, dI) cls [(a0, .inr (2, [.int 0, .ref a42, .ref a43, .ref a44, .ref a45, .ref a46, .ref a47, .int 0, .ref a48, .ref a49, .ref a50, .int 0, .ref a51]))] s.heap := hP
  have hl := lv_entry ([.ref a0]) (n := 1) (Nat.le_of_ble_eq_true rfl)
  rw [lg_entry_eq]
  generalize (lg_sl ([.ref a0]) ++ List.replicate (1 - (lg_sl ([.ref a0])).length) Slot.unset).toArray = ls at hl ⊢
  have hl : lv_has ls 1 [(0, .ref a0)] := hl
  refine lv_aload_n hx hb dX6_clear_0 rfl (lv_at hl 0 rfl) ?_
  refine lv_iconst (v := 0) hx hb dX6_clear_1 (by decide) ?_
  refine va_put (D := (dC, dI)) (ci := 2) (v := .int 0) (ty := .int) (C := RX6) (T := TX6) (N := 13) hx hb hts i_X6 tyX6 tyX6_ok nmX6 hown hK hP hD hS 0 rfl rfl 0 (by decide) (hts _ qw270) (fun _ h9 => h9) rfl (by decide +kernel) rfl rfl (Nat.le_of_ble_eq_true rfl) dX6_clear_2 (fun H locs hP hD hS => ?_)
  have hP : va_P (dC, dI) cls [(a0, .inr (2, [.int 0, .ref a42, .ref a43, .ref a44, .ref a45, .ref a46, .ref a47, .int 0, .ref a48, .ref a49, .ref a50, .int 0, .ref a51]))] H := hP
  have hD : va_D A [(a0, .inr (2, [.int 0, .ref a42, .ref a43, .ref a44, .ref a45, .ref a46, .ref a47, .int 0, .ref a48, .ref a49, .ref a50, .int 0, .ref a51]))] := hD
  refine lv_aload_n hx hb dX6_clear_5 rfl (lv_at hl 0 rfl) ?_
  refine lv_iconst (v := 0) hx hb dX6_clear_6 (by decide) ?_
  refine va_put (D := (dC, dI)) (ci := 2) (v := .int 0) (ty := .int) (C := RX6) (T := TX6) (N := 13) hx hb hts i_X6 tyX6 tyX6_ok nmX6 hown hK hP hD hS 0 rfl rfl 7 (by decide) (hts _ qw271) (fun _ h9 => h9) rfl (by decide +kernel) rfl rfl (Nat.le_of_ble_eq_true rfl) dX6_clear_7 (fun H locs hP hD hS => ?_)
  have hP : va_P (dC, dI) cls [(a0, .inr (2, [.int 0, .ref a42, .ref a43, .ref a44, .ref a45, .ref a46, .ref a47, .int 0, .ref a48, .ref a49, .ref a50, .int 0, .ref a51]))] H := hP
  have hD : va_D A [(a0, .inr (2, [.int 0, .ref a42, .ref a43, .ref a44, .ref a45, .ref a46, .ref a47, .int 0, .ref a48, .ref a49, .ref a50, .int 0, .ref a51]))] := hD
  refine lv_aload_n hx hb dX6_clear_10 rfl (lv_at hl 0 rfl) ?_
  refine lv_iconst (v := 0) hx hb dX6_clear_11 (by decide) ?_
  refine va_put (D := (dC, dI)) (ci := 2) (v := .int 0) (ty := .int) (C := RX6) (T := TX6) (N := 13) hx hb hts i_X6 tyX6 tyX6_ok nmX6 hown hK hP hD hS 0 rfl rfl 11 (by decide) (hts _ qw272) (fun _ h9 => h9) rfl (by decide +kernel) rfl rfl (Nat.le_of_ble_eq_true rfl) dX6_clear_12 (fun H locs hP hD hS => ?_)
  have hP : va_P (dC, dI) cls [(a0, .inr (2, [.int 0, .ref a42, .ref a43, .ref a44, .ref a45, .ref a46, .ref a47, .int 0, .ref a48, .ref a49, .ref a50, .int 0, .ref a51]))] H := hP
  have hD : va_D A [(a0, .inr (2, [.int 0, .ref a42, .ref a43, .ref a44, .ref a45, .ref a46, .ref a47, .int 0, .ref a48, .ref a49, .ref a50, .int 0, .ref a51]))] := hD
  have hP9 : va_P (dC, dI) cls [(a0, .inr (2, [.int 0, .ref a42, .ref a43, .ref a44, .ref a45, .ref a46, .ref a47, .int 0, .ref a48, .ref a49, .ref a50, .int 0, .ref a51]))] H := hP.sub [0] rfl
  have hD9 : va_D A [(a0, .inr (2, [.int 0, .ref a42, .ref a43, .ref a44, .ref a45, .ref a46, .ref a47, .int 0, .ref a48, .ref a49, .ref a50, .int 0, .ref a51]))] := hD.sub [0] (by decide) rfl
  have hK9 : va_K (dC, dI) cls [] s := hK.sub [] rfl
  exact W.vret hx hb hr (fun t ht hW => ⟨⟨(), rfl, trivial, ⟨by rw [ht]; exact hP9, va_K.moved hW.alike hK9, hD9⟩⟩, hS.F ht⟩) hS.2.2 dX6_clear_15
set_option maxHeartbeats 4000000 in
set_option maxRecDepth 100000 in
/-- Gearbox$Tokens.advance, from the state that its caller has -/
theorem kX10_advance_n16 {zs : Nat × Nat} (l : Launch) (dC : Nat → ClassId) (dI : Nat → Nat → Nat) (a0 : Nat) (a11 : Nat) (sz : Nat)  : Met l yX10_advance (wz yX10_advance cX10_advance 2 (Option.none : Option Jvm.ClassFile.FieldType)) ({ frames := 0, cells := 0, slots := 0, locals := 0 }) (va_Pc [.ref a0] (PRE zs dC dI [(a0, .inr (0, [.ref a11, .int 0, .int 0, .int 0, .int 0, .long 0, .int 0, .int 0]))] [] sz)) (va_Qv (fun (_ : Unit) => True) (fun _ t => POST dC dI [(a0, .inr (0, [.ref a11, .int 0, .int 0, .int 0, .int 0, .long 0, .int 0, .int 0]))] [] (va_A [(a0, .inr (0, [.ref a11, .int 0, .int 0, .int 0, .int 0, .long 0, .int 0, .int 0]))] sz) t) (va_A [(a0, .inr (0, [.ref a11, .int 0, .int 0, .int 0, .int 0, .long 0, .int 0, .int 0]))] sz)) 0 0 (va_A [(a0, .inr (0, [.ref a11, .int 0, .int 0, .int 0, .int 0, .long 0, .int 0, .int 0]))] sz) := by
  refine Met.ofW (cc := cX10_advance) (maxL := 2) (ret := (Option.none : Option Jvm.ClassFile.FieldType)) (by decide) rfl ?_
  intro p e s m args below meth c s₁ B hml hv
  obtain ⟨rfl, hsz, hP, hK, hD0, hE⟩ := hv
  have hx := B.exec
  have hb := B.bytes
  have hr := B.returns
  have hts0 := atoms_spec (ws := wz yX10_advance cX10_advance 2 (Option.none : Option Jvm.ClassFile.FieldType)) B.pre
  have hts : ∀ w ∈ gw, w.before _ s = true := fun w h => hts0 w (List.mem_cons_of_mem _ h)
  have hown : s.vm.findClass RX10 = some m.cls := findClass_of_methodNamed B.named
  have hlocks := B.notSynchronized
  subst hsz
  have hD := hD0.self (sz := s.heap.size)
  generalize hAe : va_A [(a0, .inr (0, [.ref a11, .int 0, .int 0, .int 0, .int 0, .long 0, .int 0, .int 0]))] s.heap.size = A at hD hE ⊢
  have hA : ∀ q : Nat, s.heap.size ≤ q → A q := fun q h => by rw [← hAe]; exact Or.inr h
  have hS : va_S A s.heap s.heap [] := va_S.rf
  have hP : va_P (dC, dI) cls [(a0, .inr (0, [.ref a11, .int 0, .int 0, .int 0, .int 0, .long 0, .int 0, .int 0]))] s.heap := hP
  have hl := lv_entry ([.ref a0]) (n := 2) (Nat.le_of_ble_eq_true rfl)
  rw [lg_entry_eq]
  generalize (lg_sl ([.ref a0]) ++ List.replicate (2 - (lg_sl ([.ref a0])).length) Slot.unset).toArray = ls at hl ⊢
  have hl : lv_has ls 2 [(0, .ref a0)] := hl
  refine lv_aload_n hx hb dX10_advance_0 rfl (lv_at hl 0 rfl) ?_
  refine va_get (D := (dC, dI)) (ci := 0) (v := .int 0) (C := RX10) (T := TX10) (N := 8) hx hb hts i_X10 hown hK hP 0 rfl rfl 6 (by decide) (hts _ qw282) (fun _ h9 => h9) rfl dX10_advance_1 ?_
  refine lv_aload_n hx hb dX10_advance_4 rfl (lv_at hl 0 rfl) ?_
  refine va_get (D := (dC, dI)) (ci := 0) (v := .int 0) (C := RX10) (T := TX10) (N := 8) hx hb hts i_X10 hown hK hP 0 rfl rfl 1 (by decide) (hts _ qw208) (fun _ h9 => h9) rfl dX10_advance_5 ?_
  refine lv_icmp_ge (tgt := 52) hx hb dX10_advance_8 (by decide) (fun _ => ?_) (fun c => absurd (by decide) c)
  refine lv_aload_n hx hb dX10_advance_52 rfl (lv_at hl 0 rfl) ?_
  refine lv_aload_n hx hb dX10_advance_53 rfl (lv_at hl 0 rfl) ?_
  refine va_get (D := (dC, dI)) (ci := 0) (v := .int 0) (C := RX10) (T := TX10) (N := 8) hx hb hts i_X10 hown hK hP 0 rfl rfl 6 (by decide) (hts _ qw282) (fun _ h9 => h9) rfl dX10_advance_54 ?_
  refine va_put (D := (dC, dI)) (ci := 0) (v := .int 0) (ty := .int) (C := RX10) (T := TX10) (N := 8) hx hb hts i_X10 tyX10 tyX10_ok nmX10 hown hK hP hD hS 0 rfl rfl 3 (by decide) (hts _ qw284) (fun _ h9 => h9) rfl (by decide +kernel) rfl rfl (Nat.le_of_ble_eq_true rfl) dX10_advance_57 (fun H locs hP hD hS => ?_)
  have hP : va_P (dC, dI) cls [(a0, .inr (0, [.ref a11, .int 0, .int 0, .int 0, .int 0, .long 0, .int 0, .int 0]))] H := hP
  have hD : va_D A [(a0, .inr (0, [.ref a11, .int 0, .int 0, .int 0, .int 0, .long 0, .int 0, .int 0]))] := hD
  refine lv_aload_n hx hb dX10_advance_60 rfl (lv_at hl 0 rfl) ?_
  refine va_get (D := (dC, dI)) (ci := 0) (v := .int 0) (C := RX10) (T := TX10) (N := 8) hx hb hts i_X10 hown hK hP 0 rfl rfl 6 (by decide) (hts _ qw282) (fun _ h9 => h9) rfl dX10_advance_61 ?_
  refine lv_aload_n hx hb dX10_advance_64 rfl (lv_at hl 0 rfl) ?_
  refine va_get (D := (dC, dI)) (ci := 0) (v := .int 0) (C := RX10) (T := TX10) (N := 8) hx hb hts i_X10 hown hK hP 0 rfl rfl 1 (by decide) (hts _ qw208) (fun _ h9 => h9) rfl dX10_advance_65 ?_
  refine lv_icmp_lt (tgt := 77) hx hb dX10_advance_68 (by decide) (fun c => absurd c (by decide)) (fun _ => ?_)
  refine lv_aload_n hx hb dX10_advance_71 rfl (lv_at hl 0 rfl) ?_
  refine lv_iconst (v := 0) hx hb dX10_advance_72 (by decide) ?_
  refine va_put (D := (dC, dI)) (ci := 0) (v := .int 0) (ty := .int) (C := RX10) (T := TX10) (N := 8) hx hb hts i_X10 tyX10 tyX10_ok nmX10 hown hK hP hD hS 0 rfl rfl 2 (by decide) (hts _ qw285) (fun _ h9 => h9) rfl (by decide +kernel) rfl rfl (Nat.le_of_ble_eq_true rfl) dX10_advance_73 (fun H locs hP hD hS => ?_)
  have hP : va_P (dC, dI) cls [(a0, .inr (0, [.ref a11, .int 0, .int 0, .int 0, .int 0, .long 0, .int 0, .int 0]))] H := hP
  have hD : va_D A [(a0, .inr (0, [.ref a11, .int 0, .int 0, .int 0, .int 0, .long 0, .int 0, .int 0]))] := hD
  have hP9 : va_P (dC, dI) cls [(a0, .inr (0, [.ref a11, .int 0, .int 0, .int 0, .int 0, .long 0, .int 0, .int 0]))] H := hP.sub [0] rfl
  have hD9 : va_D A [(a0, .inr (0, [.ref a11, .int 0, .int 0, .int 0, .int 0, .long 0, .int 0, .int 0]))] := hD.sub [0] (by decide) rfl
  have hK9 : va_K (dC, dI) cls [] s := hK.sub [] rfl
  exact W.vret hx hb hr (fun t ht hW => ⟨⟨(), rfl, trivial, ⟨by rw [ht]; exact hP9, va_K.moved hW.alike hK9, hD9⟩⟩, hS.F ht⟩) hS.2.2 dX10_advance_76
set_option maxHeartbeats 4000000 in
set_option maxRecDepth 100000 in
/-- Gearbox$Tokens.begin, from the state that its caller has -/
theorem kX10_begin_n15 {zs : Nat × Nat} (l : Launch) (dC : Nat → ClassId) (dI : Nat → Nat → Nat) (a0 : Nat) (a11 : Nat) (sz : Nat)  : Met l yX10_begin (wz yX10_begin cX10_begin 1 (Option.none : Option Jvm.ClassFile.FieldType)) ({ frames := 1, cells := 0, slots := 0, locals := 21 }) (va_Pc [.ref a0] (PRE zs dC dI [(a0, .inr (0, [.ref a11, .int 0, .int 0, .int 0, .int 0, .long 0, .int 0, .int 0]))] [] sz)) (va_Qv (fun (_ : Unit) => True) (fun _ t => POST dC dI [(a0, .inr (0, [.ref a11, .int 0, .int 0, .int 0, .int 0, .long 0, .int 0, .int 0]))] [] (va_A [(a0, .inr (0, [.ref a11, .int 0, .int 0, .int 0, .int 0, .long 0, .int 0, .int 0]))] sz) t) (va_A [(a0, .inr (0, [.ref a11, .int 0, .int 0, .int 0, .int 0, .long 0, .int 0, .int 0]))] sz)) 0 0 (va_A [(a0, .inr (0, [.ref a11, .int 0, .int 0, .int 0, .int 0, .long 0, .int 0, .int 0]))] sz) := by
  refine Met.ofW (cc := cX10_begin) (maxL := 1) (ret := (Option.none : Option Jvm.ClassFile.FieldType)) (by decide) rfl ?_
  intro p e s m args below meth c s₁ B hml hv
  obtain ⟨rfl, hsz, hP, hK, hD0, hE⟩ := hv
  have hx := B.exec
  have hb := B.bytes
  have hr := B.returns
  have hts0 := atoms_spec (ws := wz yX10_begin cX10_begin 1 (Option.none : Option Jvm.ClassFile.FieldType)) B.pre
  have hts : ∀ w ∈ gw, w.before _ s = true := fun w h => hts0 w (List.mem_cons_of_mem _ h)
  have hown : s.vm.findClass RX10 = some m.cls := findClass_of_methodNamed B.named
  have hlocks := B.notSynchronized
  subst hsz
  have hD := hD0.self (sz := s.heap.size)
  generalize hAe : va_A [(a0, .inr (0, [.ref a11, .int 0, .int 0, .int 0, .int 0, .long 0, .int 0, .int 0]))] s.heap.size = A at hD hE ⊢
  have hA : ∀ q : Nat, s.heap.size ≤ q → A q := fun q h => by rw [← hAe]; exact Or.inr h
  have hS : va_S A s.heap s.heap [] := va_S.rf
  have hP : va_P (dC, dI) cls [(a0, .inr (0, [.ref a11, .int 0, .int 0, .int 0, .int 0, .long 0, .int 0, .int 0]))] s.heap := hP
  have hl := lv_entry ([.ref a0]) (n := 1) (Nat.le_of_ble_eq_true rfl)
  rw [lg_entry_eq]
  generalize (lg_sl ([.ref a0]) ++ List.replicate (1 - (lg_sl ([.ref a0])).length) Slot.unset).toArray = ls at hl ⊢
  have hl : lv_has ls 1 [(0, .ref a0)] := hl
  refine lv_aload_n hx hb dX10_begin_0 rfl (lv_at hl 0 rfl) ?_
  refine lv_iconst (v := 0) hx hb dX10_begin_1 (by decide) ?_
  refine va_put (D := (dC, dI)) (ci := 0) (v := .int 0) (ty := .int) (C := RX10) (T := TX10) (N := 8) hx hb hts i_X10 tyX10 tyX10_ok nmX10 hown hK hP hD hS 0 rfl rfl 6 (by decide) (hts _ qw282) (fun _ h9 => h9) rfl (by decide +kernel) rfl rfl (Nat.le_of_ble_eq_true rfl) dX10_begin_2 (fun H locs hP hD hS => ?_)
  have hP : va_P (dC, dI) cls [(a0, .inr (0, [.ref a11, .int 0, .int 0, .int 0, .int 0, .long 0, .int 0, .int 0]))] H := hP
  have hD : va_D A [(a0, .inr (0, [.ref a11, .int 0, .int 0, .int 0, .int 0, .long 0, .int 0, .int 0]))] := hD
  refine lv_aload_n hx hb dX10_begin_5 rfl (lv_at hl 0 rfl) ?_
  refine lv_iconst (v := 0) hx hb dX10_begin_6 (by decide) ?_
  refine va_put (D := (dC, dI)) (ci := 0) (v := .int 0) (ty := .int) (C := RX10) (T := TX10) (N := 8) hx hb hts i_X10 tyX10 tyX10_ok nmX10 hown hK hP hD hS 0 rfl rfl 7 (by decide) (hts _ qw283) (fun _ h9 => h9) rfl (by decide +kernel) rfl rfl (Nat.le_of_ble_eq_true rfl) dX10_begin_7 (fun H locs hP hD hS => ?_)
  have hP : va_P (dC, dI) cls [(a0, .inr (0, [.ref a11, .int 0, .int 0, .int 0, .int 0, .long 0, .int 0, .int 0]))] H := hP
  have hD : va_D A [(a0, .inr (0, [.ref a11, .int 0, .int 0, .int 0, .int 0, .long 0, .int 0, .int 0]))] := hD
  refine lv_aload_n hx hb dX10_begin_10 rfl (lv_at hl 0 rfl) ?_
  have hPc := hP.sub (ws' := [(a0, .inr (0, [.ref a11, .int 0, .int 0, .int 0, .int 0, .long 0, .int 0, .int 0]))]) [0] rfl
  have hDc := hD.sub (ws' := [(a0, .inr (0, [.ref a11, .int 0, .int 0, .int 0, .int 0, .long 0, .int 0, .int 0]))]) [0] (by decide) rfl
  have hKc := hK.sub (tys' := []) [] rfl
  have hFc := va_free (wc := [(a0, .inr (0, [.ref a11, .int 0, .int 0, .int 0, .int 0, .long 0, .int 0, .int 0]))]) hD hS hA [0] rfl
  refine va_callv (va_runV (As := []) (rest := []) ⟨hx, hb, hml, hown, hts⟩ (kX10_advance_n16 l dC dI (a0 := a0) (a11 := a11) (sz := _)) (cwV 0 hts (gi_V qw287 qw288 qw289 qw151 (gi_z qw286)) rfl rfl rfl (by decide +kernel) ⟨Nat.le_of_ble_eq_true rfl, Nat.le_of_ble_eq_true rfl⟩) ⟨PRE.blind, va_recv hKc hPc (ci := 0) (q0 := 0) rfl rfl, PRE.of hE hS hFc hPc hKc hDc⟩ rfl rfl hl.1 rfl (lv_room (Nat.le_of_ble_eq_true rfl)) dX10_begin_11 ⟨Nat.le_of_ble_eq_true rfl, Nat.le_of_ble_eq_true rfl⟩) hS (fun q _ h => hFc q h) hFc (fun u t H locs ht hvm hw hB hz1 hk1 hS => ?_)
  obtain ⟨hP, hD, hK⟩ := JOIN (wr := []) hP hD hK [0] [] [] rfl rfl (by decide) (by decide) rfl hk1 hFc ht hvm hB
  have hP : va_P (dC, dI) cls [(a0, .inr (0, [.ref a11, .int 0, .int 0, .int 0, .int 0, .long 0, .int 0, .int 0]))] H := hP
  have hD : va_D A [(a0, .inr (0, [.ref a11, .int 0, .int 0, .int 0, .int 0, .long 0, .int 0, .int 0]))] := hD
  have hK : va_K (dC, dI) cls [] s := hK
  refine W.widen (k := 0) (n := 0) (Nat.le_of_ble_eq_true rfl) (Nat.le_of_ble_eq_true rfl) ?_
  have hP9 : va_P (dC, dI) cls [(a0, .inr (0, [.ref a11, .int 0, .int 0, .int 0, .int 0, .long 0, .int 0, .int 0]))] H := hP.sub [0] rfl
  have hD9 : va_D A [(a0, .inr (0, [.ref a11, .int 0, .int 0, .int 0, .int 0, .long 0, .int 0, .int 0]))] := hD.sub [0] (by decide) rfl
  have hK9 : va_K (dC, dI) cls [] s := hK.sub [] rfl
  exact W.vret hx hb hr (fun t ht hW => ⟨⟨(), rfl, trivial, ⟨by rw [ht]; exact hP9, va_K.moved hW.alike hK9, hD9⟩⟩, hS.F ht⟩) hS.2.2 dX10_begin_14
set_option maxHeartbeats 4000000 in
set_option maxRecDepth 100000 in
/-- Gearbox$Reader.refuse, from the state that its caller has -/
theorem kX7_refuse_n19 {zs : Nat × Nat} (l : Launch) (dC : Nat → ClassId) (dI : Nat → Nat → Nat) (a0 : Nat) (a2 : Nat) (a10 : Nat) (a13 : Nat) (a14 : Nat) (a15 : Nat) (a16 : Nat) (a17 : Nat) (a18 : Nat) (a19 : Nat) (a20 : Nat) (sz : Nat) (hl9 : l.stackTraces = false)  : vx_Met l yX7_refuse (wz yX7_refuse cX7_refuse 1 (Option.none : Option Jvm.ClassFile.FieldType)) ({ frames := 6, cells := 1, slots := 6, locals := 100 }) (va_Pc [.ref a0] (PRE zs dC dI [(a0, .inr (1, [.int (-1), .ref a2, .ref a10, .int 0, .int 0, .int (-1), .int 0, .ref a13, .ref a14, .int 0, .ref a15, .ref a16, .int 0, .ref a17, .ref a18, .ref a19, .ref a20, .int 0]))] [] sz)) (va_Qv (fun (_ : Unit) => False) (fun _ _ => True) (va_A [(a0, .inr (1, [.int (-1), .ref a2, .ref a10, .int 0, .int 0, .int (-1), .int 0, .ref a13, .ref a14, .int 0, .ref a15, .ref a16, .int 0, .ref a17, .ref a18, .ref a19, .ref a20, .int 0]))] sz)) (vx_X (fun (_ : Unit) => True) (fun E _ t => E = "java/lang/IllegalArgumentException" ∧ POST dC dI [(a0, .inr (1, [.int (-1), .ref a2, .ref a10, .int 0, .int 0, .int (-1), .int 0, .ref a13, .ref a14, .int 0, .ref a15, .ref a16, .int 0, .ref a17, .ref a18, .ref a19, .ref a20, .int 0]))] [] (va_A [(a0, .inr (1, [.int (-1), .ref a2, .ref a10, .int 0, .int 0, .int (-1), .int 0, .ref a13, .ref a14, .int 0, .ref a15, .ref a16, .int 0, .ref a17, .ref a18, .ref a19, .ref a20, .int 0]))] sz) t) (va_A [(a0, .inr (1, [.int (-1), .ref a2, .ref a10, .int 0, .int 0, .int (-1), .int 0, .ref a13, .ref a14, .int 0, .ref a15, .ref a16, .int 0, .ref a17, .ref a18, .ref a19, .ref a20, .int 0]))] sz)) 1 6 (va_A [(a0, .inr (1, [.int (-1), .ref a2, .ref a10, .int 0, .int 0, .int (-1), .int 0, .ref a13, .ref a14, .int 0, .ref a15, .ref a16, .int 0, .ref a17, .ref a18, .ref a19, .ref a20, .int 0]))] sz) := by
  refine vx_ofW (cc := cX7_refuse) (maxL := 1) (ret := (Option.none : Option Jvm.ClassFile.FieldType)) (by decide) rfl ?_
  intro p e s m args below meth c s₁ B hml hnt hv
  obtain ⟨rfl, hsz, hP, hK, hD0, hE⟩ := hv
  have hx := B.exec
  have hb := B.bytes
  have hr := B.returns
  have hts0 := atoms_spec (ws := wz yX7_refuse cX7_refuse 1 (Option.none : Option Jvm.ClassFile.FieldType)) B.pre
  have hts : ∀ w ∈ gw, w.before _ s = true := fun w h => hts0 w (List.mem_cons_of_mem _ h)
  have hown : s.vm.findClass RX7 = some m.cls := findClass_of_methodNamed B.named
  have hlocks := B.notSynchronized
  subst hsz
  have hD := hD0.self (sz := s.heap.size)
  generalize hAe : va_A [(a0, .inr (1, [.int (-1), .ref a2, .ref a10, .int 0, .int 0, .int (-1), .int 0, .ref a13, .ref a14, .int 0, .ref a15, .ref a16, .int 0, .ref a17, .ref a18, .ref a19, .ref a20, .int 0]))] s.heap.size = A at hD hE ⊢
  have hA : ∀ q : Nat, s.heap.size ≤ q → A q := fun q h => by rw [← hAe]; exact Or.inr h
  have hS : va_S A s.heap s.heap [] := va_S.rf
  have hP : va_P (dC, dI) cls [(a0, .inr (1, [.int (-1), .ref a2, .ref a10, .int 0, .int 0, .int (-1), .int 0, .ref a13, .ref a14, .int 0, .ref a15, .ref a16, .int 0, .ref a17, .ref a18, .ref a19, .ref a20, .int 0]))] s.heap := hP
  have hl := lv_entry ([.ref a0]) (n := 1) (Nat.le_of_ble_eq_true rfl)
  rw [lg_entry_eq]
  generalize (lg_sl ([.ref a0]) ++ List.replicate (1 - (lg_sl ([.ref a0])).length) Slot.unset).toArray = ls at hl ⊢
  have hl : lv_has ls 1 [(0, .ref a0)] := hl
  obtain ⟨sa, hsa⟩ := hE.2.2.2.1 RX7 236 "this token cannot stand here" (tbl_5 (i := 42) rfl)
  have hP9 : va_P (dC, dI) cls [(a0, .inr (1, [.int (-1), .ref a2, .ref a10, .int 0, .int 0, .int (-1), .int 0, .ref a13, .ref a14, .int 0, .ref a15, .ref a16, .int 0, .ref a17, .ref a18, .ref a19, .ref a20, .int 0]))] s.heap := hP.sub [0] rfl
  have hD9 : va_D A [(a0, .inr (1, [.int (-1), .ref a2, .ref a10, .int 0, .int 0, .int (-1), .int 0, .ref a13, .ref a14, .int 0, .ref a15, .ref a16, .int 0, .ref a17, .ref a18, .ref a19, .ref a20, .int 0]))] := hD.sub [0] (by decide) rfl
  have hK9 : va_K (dC, dI) cls [] s := hK.sub [] rfl
  exact vx_throwS hx hb hl9 hown rfl (by decide) (hts _ qw298) (hts _ qw214) hsa (at_X7_238 hts hE) at_X7_238_g hE.2.2.2.2.1.1 hE.2.2.2.2.1.2 hS (by rw [hml]; exact hl.1) dX7_refuse_0 dX7_refuse_3 dX7_refuse_4 dX7_refuse_6 dX7_refuse_9 (fun x hx9 => (hnt x hx9).elim) (by decide) (by decide) (Nat.le_of_ble_eq_true rfl) (Nat.le_of_ble_eq_true rfl) hlocks (fun t hal hz hq => ⟨(), trivial, ⟨rfl, POST.keep hP9 hD9 hK9 hal hq⟩, ⟨Nat.le_trans hS.1 hz, fun q a b => (hq q (Nat.lt_of_lt_of_le a hS.1)).trans (hS.2.1 q a b)⟩⟩) hS.2.2 (Nat.le_of_ble_eq_true rfl) (Nat.le_of_ble_eq_true rfl)
set_option maxHeartbeats 4000000 in
set_option maxRecDepth 100000 in
/-- Gearbox$Reader.expect, from the state that its caller has -/
theorem kX7_expect_n18 {zs : Nat × Nat} (l : Launch) (dC : Nat → ClassId) (dI : Nat → Nat → Nat) (a0 : Nat) (a2 : Nat) (a10 : Nat) (a11 : Nat) (a13 : Nat) (a14 : Nat) (a15 : Nat) (a16 : Nat) (a17 : Nat) (a18 : Nat) (a19 : Nat) (a20 : Nat) (sz : Nat) (hl9 : l.stackTraces = false)  : vx_Met l yX7_expect (wz yX7_expect cX7_expect 3 (Option.none : Option Jvm.ClassFile.FieldType)) ({ frames := 7, cells := 1, slots := 6, locals := 120 }) (va_Pc [.ref a0, .int 7] (PRE zs dC dI [(a0, .inr (1, [.int (-1), .ref a2, .ref a10, .int 0, .int 0, .int (-1), .int 0, .ref a13, .ref a14, .int 0, .ref a15, .ref a16, .int 0, .ref a17, .ref a18, .ref a19, .ref a20, .int 0])), (a2, .inr (0, [.ref a11, .int 0, .int 0, .int 0, .int 0, .long 0, .int 0, .int 0]))] [] sz)) (va_Qv (fun (_ : Unit) => False) (fun _ _ => True) (va_A [(a0, .inr (1, [.int (-1), .ref a2, .ref a10, .int 0, .int 0, .int (-1), .int 0, .ref a13, .ref a14, .int 0, .ref a15, .ref a16, .int 0, .ref a17, .ref a18, .ref a19, .ref a20, .int 0])), (a2, .inr (0, [.ref a11, .int 0, .int 0, .int 0, .int 0, .long 0, .int 0, .int 0]))] sz)) (vx_X (fun (_ : Unit) => True) (fun E _ t => E = "java/lang/IllegalArgumentException" ∧ POST dC dI [(a2, .inr (0, [.ref a11, .int 0, .int 0, .int 0, .int 0, .long 0, .int 0, .int 0])), (a0, .inr (1, [.int (-1), .ref a2, .ref a10, .int 0, .int 0, .int (-1), .int 0, .ref a13, .ref a14, .int 0, .ref a15, .ref a16, .int 0, .ref a17, .ref a18, .ref a19, .ref a20, .int 0]))] [] (va_A [(a0, .inr (1, [.int (-1), .ref a2, .ref a10, .int 0, .int 0, .int (-1), .int 0, .ref a13, .ref a14, .int 0, .ref a15, .ref a16, .int 0, .ref a17, .ref a18, .ref a19, .ref a20, .int 0])), (a2, .inr (0, [.ref a11, .int 0, .int 0, .int 0, .int 0, .long 0, .int 0, .int 0]))] sz) t) (va_A [(a0, .inr (1, [.int (-1), .ref a2, .ref a10, .int 0, .int 0, .int (-1), .int 0, .ref a13, .ref a14, .int 0, .ref a15, .ref a16, .int 0, .ref a17, .ref a18, .ref a19, .ref a20, .int 0])), (a2, .inr (0, [.ref a11, .int 0, .int 0, .int 0, .int 0, .long 0, .int 0, .int 0]))] sz)) 1 6 (va_A [(a0, .inr (1, [.int (-1), .ref a2, .ref a10, .int 0, .int 0, .int (-1), .int 0, .ref a13, .ref a14, .int 0, .ref a15, .ref a16, .int 0, .ref a17, .ref a18, .ref a19, .ref a20, .int 0])), (a2, .inr (0, [.ref a11, .int 0, .int 0, .int 0, .int 0, .long 0, .int 0, .int 0]))] sz) := by
  refine vx_ofW (cc := cX7_expect) (maxL := 3) (ret := (Option.none : Option Jvm.ClassFile.FieldType)) (by decide) rfl ?_
  intro p e s m args below meth c s₁ B hml hnt hv
  obtain ⟨rfl, hsz, hP, hK, hD0, hE⟩ := hv
  have hx := B.exec
  have hb := B.bytes
  have hr := B.returns
  have hts0 := atoms_spec (ws := wz yX7_expect cX7_expect 3 (Option.none : Option Jvm.ClassFile.FieldType)) B.pre
  have hts : ∀ w ∈ gw, w.before _ s = true := fun w h => hts0 w (List.mem_cons_of_mem _ h)
  have hown : s.vm.findClass RX7 = some m.cls := findClass_of_methodNamed B.named
  have hlocks := B.notSynchronized
  subst hsz
  have hD := hD0.self (sz := s.heap.size)
  generalize hAe : va_A [(a0, .inr (1, [.int (-1), .ref a2, .ref a10, .int 0, .int 0, .int (-1), .int 0, .ref a13, .ref a14, .int 0, .ref a15, .ref a16, .int 0, .ref a17, .ref a18, .ref a19, .ref a20, .int 0])), (a2, .inr (0, [.ref a11, .int 0, .int 0, .int 0, .int 0, .long 0, .int 0, .int 0]))] s.heap.size = A at hD hE ⊢
  have hA : ∀ q : Nat, s.heap.size ≤ q → A q := fun q h => by rw [← hAe]; exact Or.inr h
  have hS : va_S A s.heap s.heap [] := va_S.rf
  have hP : va_P (dC, dI) cls [(a0, .inr (1, [.int (-1), .ref a2, .ref a10, .int 0, .int 0, .int (-1), .int 0, .ref a13, .ref a14, .int 0, .ref a15, .ref a16, .int 0, .ref a17, .ref a18, .ref a19, .ref a20, .int 0])), (a2, .inr (0, [.ref a11, .int 0, .int 0, .int 0, .int 0, .long 0, .int 0, .int 0]))] s.heap := hP
  have hl := lv_entry ([.ref a0, .int 7]) (n := 3) (Nat.le_of_ble_eq_true rfl)
  rw [lg_entry_eq]
  generalize (lg_sl ([.ref a0, .int 7]) ++ List.replicate (3 - (lg_sl ([.ref a0, .int 7])).length) Slot.unset).toArray = ls at hl ⊢
  have hl : lv_has ls 3 [(0, .ref a0), (1, .int 7)] := hl
  refine lv_iload_n hx hb dX7_expect_0 rfl (lv_at hl 1 rfl) ?_
  refine lv_bipush (v := 40) hx hb dX7_expect_1 (by decide) ?_
  refine lv_icmp_eq (tgt := 18) hx hb dX7_expect_3 (by decide) (fun c => absurd c (by decide)) (fun _ => ?_)
  refine lv_iload_n hx hb dX7_expect_6 rfl (lv_at hl 1 rfl) ?_
  refine lv_bipush (v := 91) hx hb dX7_expect_7 (by decide) ?_
  refine lv_icmp_eq (tgt := 18) hx hb dX7_expect_9 (by decide) (fun c => absurd c (by decide)) (fun _ => ?_)
  refine lv_iload_n hx hb dX7_expect_12 rfl (lv_at hl 1 rfl) ?_
  refine lv_bipush (v := 123) hx hb dX7_expect_13 (by decide) ?_
  refine lv_icmp_ne (tgt := 22) hx hb dX7_expect_15 (by decide) (fun _ => ?_) (fun c => absurd c (by decide))
  refine lv_iconst (v := 0) hx hb dX7_expect_22 (by decide) ?_
  refine lv_istore_n (lv' := [(2, .int 0), (0, .ref a0), (1, .int 7)]) hx hb dX7_expect_23 rfl hl (by decide) rfl (fun ls hl => ?_)
  refine lv_aload_n hx hb dX7_expect_24 rfl (lv_at hl 1 rfl) ?_
  refine va_get (D := (dC, dI)) (ci := 1) (v := .ref a2) (C := RX7) (T := TX7) (N := 18) hx hb hts i_X7 hown hK hP 0 rfl rfl 1 (by decide) (hts _ qw25) (fun _ h9 => h9) rfl dX7_expect_25 ?_
  refine va_get (D := (dC, dI)) (ci := 0) (v := .int 0) (C := RX10) (T := TX10) (N := 8) hx hb hts i_X10 hown hK hP 1 rfl rfl 2 (by decide) (hts _ qw297) (fun _ h9 => h9) rfl dX7_expect_28 ?_
  refine lv_iload_n hx hb dX7_expect_31 rfl (lv_at hl 2 rfl) ?_
  refine lv_icmp_ne (tgt := 48) hx hb dX7_expect_32 (by decide) (fun _ => ?_) (fun c => absurd c (by decide))
  refine lv_aload_n hx hb dX7_expect_48 rfl (lv_at hl 1 rfl) ?_
  have hPc := hP.sub (ws' := [(a0, .inr (1, [.int (-1), .ref a2, .ref a10, .int 0, .int 0, .int (-1), .int 0, .ref a13, .ref a14, .int 0, .ref a15, .ref a16, .int 0, .ref a17, .ref a18, .ref a19, .ref a20, .int 0]))]) [0] rfl
  have hDc := hD.sub (ws' := [(a0, .inr (1, [.int (-1), .ref a2, .ref a10, .int 0, .int 0, .int (-1), .int 0, .ref a13, .ref a14, .int 0, .ref a15, .ref a16, .int 0, .ref a17, .ref a18, .ref a19, .ref a20, .int 0]))]) [0] (by decide) rfl
  have hKc := hK.sub (tys' := []) [] rfl
  have hFc := va_free (wc := [(a0, .inr (1, [.int (-1), .ref a2, .ref a10, .int 0, .int 0, .int (-1), .int 0, .ref a13, .ref a14, .int 0, .ref a15, .ref a16, .int 0, .ref a17, .ref a18, .ref a19, .ref a20, .int 0]))]) hD hS hA [0] rfl
  refine vx_callv (vx_runV (As := []) (rest := []) ⟨hx, hb, hml, hown, hts⟩ (kX7_refuse_n19 l dC dI (a0 := a0) (a2 := a2) (a10 := a10) (a13 := a13) (a14 := a14) (a15 := a15) (a16 := a16) (a17 := a17) (a18 := a18) (a19 := a19) (a20 := a20) (sz := _) (hl9 := hl9)) (cwV 0 hts (gi_V qw300 qw301 qw302 qw157 (gi_z qw299)) rfl rfl rfl (by decide +kernel) ⟨Nat.le_of_ble_eq_true rfl, Nat.le_of_ble_eq_true rfl⟩) ⟨PRE.blind, va_recv hKc hPc (ci := 1) (q0 := 0) rfl rfl, PRE.of hE hS hFc hPc hKc hDc⟩ rfl rfl hl.1 rfl (lv_room (Nat.le_of_ble_eq_true rfl)) dX7_expect_49 ⟨Nat.le_of_ble_eq_true rfl, Nat.le_of_ble_eq_true rfl⟩) hS (fun q _ h => hFc q h) hFc (fun q _ h => hFc q h) (fun E ce q9 u t H locs ht hvm hw hB hz1 hk1 hS hce hcv hcl => ?_) (fun u t H locs ht hvm hw hB hz1 hk1 hS => hw.elim)
  obtain ⟨rfl, hB⟩ := hB
  obtain ⟨hP, hD, hK⟩ := JOIN (wr := [(a2, .inr (0, [.ref a11, .int 0, .int 0, .int 0, .int 0, .long 0, .int 0, .int 0]))]) hP hD hK [0] [1] [] rfl rfl (by decide) (by decide) rfl hk1 hFc ht hvm hB
  have hP : va_P (dC, dI) cls [(a2, .inr (0, [.ref a11, .int 0, .int 0, .int 0, .int 0, .long 0, .int 0, .int 0])), (a0, .inr (1, [.int (-1), .ref a2, .ref a10, .int 0, .int 0, .int (-1), .int 0, .ref a13, .ref a14, .int 0, .ref a15, .ref a16, .int 0, .ref a17, .ref a18, .ref a19, .ref a20, .int 0]))] H := hP
  have hD : va_D A [(a2, .inr (0, [.ref a11, .int 0, .int 0, .int 0, .int 0, .long 0, .int 0, .int 0])), (a0, .inr (1, [.int (-1), .ref a2, .ref a10, .int 0, .int 0, .int (-1), .int 0, .ref a13, .ref a14, .int 0, .ref a15, .ref a16, .int 0, .ref a17, .ref a18, .ref a19, .ref a20, .int 0]))] := hD
  have hK : va_K (dC, dI) cls [] s := hK
  refine vx_widen (k := 1) (n := 6) (Nat.le_of_ble_eq_true rfl) (Nat.le_of_ble_eq_true rfl) ?_
  have hP9 : va_P (dC, dI) cls [(a2, .inr (0, [.ref a11, .int 0, .int 0, .int 0, .int 0, .long 0, .int 0, .int 0])), (a0, .inr (1, [.int (-1), .ref a2, .ref a10, .int 0, .int 0, .int (-1), .int 0, .ref a13, .ref a14, .int 0, .ref a15, .ref a16, .int 0, .ref a17, .ref a18, .ref a19, .ref a20, .int 0]))] H := hP.sub [0, 1] rfl
  have hD9 : va_D A [(a2, .inr (0, [.ref a11, .int 0, .int 0, .int 0, .int 0, .long 0, .int 0, .int 0])), (a0, .inr (1, [.int (-1), .ref a2, .ref a10, .int 0, .int 0, .int (-1), .int 0, .ref a13, .ref a14, .int 0, .ref a15, .ref a16, .int 0, .ref a17, .ref a18, .ref a19, .ref a20, .int 0]))] := hD.sub [0, 1] (by decide) rfl
  have hK9 : va_K (dC, dI) cls [] s := hK.sub [] rfl
  exact vx_out (fun x hx9 => (hnt x hx9).elim) hlocks hce hcv hcl (fun t ht hal => ⟨(), trivial, ⟨rfl, ⟨by rw [ht]; exact hP9, va_K.moved hal hK9, hD9⟩⟩, hS.F ht⟩) hS.2.2 (Nat.le_of_ble_eq_true rfl) (Nat.le_of_ble_eq_true rfl)
set_option maxHeartbeats 4000000 in
set_option maxRecDepth 100000 in
/-- Gearbox$Reader.readFunction, from the state that its caller has -/
theorem kX7_readFunction_n17 {zs : Nat × Nat} (l : Launch) (dC : Nat → ClassId) (dI : Nat → Nat → Nat) (a0 : Nat) (a2 : Nat) (a10 : Nat) (a11 : Nat) (a13 : Nat) (a14 : Nat) (a15 : Nat) (a16 : Nat) (a17 : Nat) (a18 : Nat) (a19 : Nat) (a20 : Nat) (sz : Nat) (hl9 : l.stackTraces = false)  : vx_Met l yX7_readFunction (wz yX7_readFunction cX7_readFunction 2 (Option.none : Option Jvm.ClassFile.FieldType)) ({ frames := 8, cells := 1, slots := 6, locals := 142 }) (va_Pc [.ref a0, .int 0] (PRE zs dC dI [(a0, .inr (1, [.int (-1), .ref a2, .ref a10, .int 0, .int 0, .int (-1), .int 0, .ref a13, .ref a14, .int 0, .ref a15, .ref a16, .int 0, .ref a17, .ref a18, .ref a19, .ref a20, .int 0])), (a2, .inr (0, [.ref a11, .int 0, .int 0, .int 0, .int 0, .long 0, .int 0, .int 0]))] [] sz)) (va_Qv (fun (_ : Unit) => False) (fun _ _ => True) (va_A [(a0, .inr (1, [.int (-1), .ref a2, .ref a10, .int 0, .int 0, .int (-1), .int 0, .ref a13, .ref a14, .int 0, .ref a15, .ref a16, .int 0, .ref a17, .ref a18, .ref a19, .ref a20, .int 0])), (a2, .inr (0, [.ref a11, .int 0, .int 0, .int 0, .int 0, .long 0, .int 0, .int 0]))] sz)) (vx_X (fun (_ : Unit) => True) (fun E _ t => E = "java/lang/IllegalArgumentException" ∧ POST dC dI [(a2, .inr (0, [.ref a11, .int 0, .int 0, .int 0, .int 0, .long 0, .int 0, .int 0])), (a0, .inr (1, [.int (-1), .ref a2, .ref a10, .int 0, .int 0, .int (-1), .int 0, .ref a13, .ref a14, .int 0, .ref a15, .ref a16, .int 0, .ref a17, .ref a18, .ref a19, .ref a20, .int 0]))] [] (va_A [(a0, .inr (1, [.int (-1), .ref a2, .ref a10, .int 0, .int 0, .int (-1), .int 0, .ref a13, .ref a14, .int 0, .ref a15, .ref a16, .int 0, .ref a17, .ref a18, .ref a19, .ref a20, .int 0])), (a2, .inr (0, [.ref a11, .int 0, .int 0, .int 0, .int 0, .long 0, .int 0, .int 0]))] sz) t) (va_A [(a0, .inr (1, [.int (-1), .ref a2, .ref a10, .int 0, .int 0, .int (-1), .int 0, .ref a13, .ref a14, .int 0, .ref a15, .ref a16, .int 0, .ref a17, .ref a18, .ref a19, .ref a20, .int 0])), (a2, .inr (0, [.ref a11, .int 0, .int 0, .int 0, .int 0, .long 0, .int 0, .int 0]))] sz)) 1 6 (va_A [(a0, .inr (1, [.int (-1), .ref a2, .ref a10, .int 0, .int 0, .int (-1), .int 0, .ref a13, .ref a14, .int 0, .ref a15, .ref a16, .int 0, .ref a17, .ref a18, .ref a19, .ref a20, .int 0])), (a2, .inr (0, [.ref a11, .int 0, .int 0, .int 0, .int 0, .long 0, .int 0, .int 0]))] sz) := by
  refine vx_ofW (cc := cX7_readFunction) (maxL := 2) (ret := (Option.none : Option Jvm.ClassFile.FieldType)) (by decide) rfl ?_
  intro p e s m args below meth c s₁ B hml hnt hv
  obtain ⟨rfl, hsz, hP, hK, hD0, hE⟩ := hv
  have hx := B.exec
  have hb := B.bytes
  have hr := B.returns
  have hts0 := atoms_spec (ws := wz yX7_readFunction cX7_readFunction 2 (Option.none : Option Jvm.ClassFile.FieldType)) B.pre
  have hts : ∀ w ∈ gw, w.before _ s = true := fun w h => hts0 w (List.mem_cons_of_mem _ h)
  have hown : s.vm.findClass RX7 = some m.cls := findClass_of_methodNamed B.named
  have hlocks := B.notSynchronized
  subst hsz
  have hD := hD0.self (sz := s.heap.size)
  generalize hAe : va_A [(a0, .inr (1, [.int (-1), .ref a2, .ref a10, .int 0, .int 0, .int (-1), .int 0, .ref a13, .ref a14, .int 0, .ref a15, .ref a16, .int 0, .ref a17, .ref a18, .ref a19, .ref a20, .int 0])), (a2, .inr (0, [.ref a11, .int 0, .int 0, .int 0, .int 0, .long 0, .int 0, .int 0]))] s.heap.size = A at hD hE ⊢
  have hA : ∀ q : Nat, s.heap.size ≤ q → A q := fun q h => by rw [← hAe]; exact Or.inr h
  have hS : va_S A s.heap s.heap [] := va_S.rf
  have hP : va_P (dC, dI) cls [(a0, .inr (1, [.int (-1), .ref a2, .ref a10, .int 0, .int 0, .int (-1), .int 0, .ref a13, .ref a14, .int 0, .ref a15, .ref a16, .int 0, .ref a17, .ref a18, .ref a19, .ref a20, .int 0])), (a2, .inr (0, [.ref a11, .int 0, .int 0, .int 0, .int 0, .long 0, .int 0, .int 0]))] s.heap := hP
  have hl := lv_entry ([.ref a0, .int 0]) (n := 2) (Nat.le_of_ble_eq_true rfl)
  rw [lg_entry_eq]
  generalize (lg_sl ([.ref a0, .int 0]) ++ List.replicate (2 - (lg_sl ([.ref a0, .int 0])).length) Slot.unset).toArray = ls at hl ⊢
  have hl : lv_has ls 2 [(0, .ref a0), (1, .int 0)] := hl
  refine lv_iload_n hx hb dX7_readFunction_0 rfl (lv_at hl 1 rfl) ?_
  refine lv_bipush (v := 6) hx hb dX7_readFunction_1 (by decide) ?_
  refine lv_icmp_lt (tgt := 10) hx hb dX7_readFunction_3 (by decide) (fun _ => ?_) (fun c => absurd (by decide) c)
  refine lv_aload_n hx hb dX7_readFunction_10 rfl (lv_at hl 0 rfl) ?_
  refine lv_iload_n hx hb dX7_readFunction_11 rfl (lv_at hl 1 rfl) ?_
  refine va_put (D := (dC, dI)) (ci := 1) (v := .int 0) (ty := .int) (C := RX7) (T := TX7) (N := 18) hx hb hts i_X7 tyX7 tyX7_ok nmX7 hown hK hP hD hS 0 rfl rfl 3 (by decide) (hts _ qw294) (fun _ h9 => h9) rfl (by decide +kernel) rfl rfl (Nat.le_of_ble_eq_true rfl) dX7_readFunction_12 (fun H locs hP hD hS => ?_)
  have hP : va_P (dC, dI) cls [(a0, .inr (1, [.int (-1), .ref a2, .ref a10, .int 0, .int 0, .int (-1), .int 0, .ref a13, .ref a14, .int 0, .ref a15, .ref a16, .int 0, .ref a17, .ref a18, .ref a19, .ref a20, .int 0])), (a2, .inr (0, [.ref a11, .int 0, .int 0, .int 0, .int 0, .long 0, .int 0, .int 0]))] H := hP
  have hD : va_D A [(a0, .inr (1, [.int (-1), .ref a2, .ref a10, .int 0, .int 0, .int (-1), .int 0, .ref a13, .ref a14, .int 0, .ref a15, .ref a16, .int 0, .ref a17, .ref a18, .ref a19, .ref a20, .int 0])), (a2, .inr (0, [.ref a11, .int 0, .int 0, .int 0, .int 0, .long 0, .int 0, .int 0]))] := hD
  refine lv_aload_n hx hb dX7_readFunction_15 rfl (lv_at hl 0 rfl) ?_
  refine lv_iconst (v := 0) hx hb dX7_readFunction_16 (by decide) ?_
  refine va_put (D := (dC, dI)) (ci := 1) (v := .int 0) (ty := .int) (C := RX7) (T := TX7) (N := 18) hx hb hts i_X7 tyX7 tyX7_ok nmX7 hown hK hP hD hS 0 rfl rfl 9 (by decide) (hts _ qw295) (fun _ h9 => h9) rfl (by decide +kernel) rfl rfl (Nat.le_of_ble_eq_true rfl) dX7_readFunction_17 (fun H locs hP hD hS => ?_)
  have hP : va_P (dC, dI) cls [(a0, .inr (1, [.int (-1), .ref a2, .ref a10, .int 0, .int 0, .int (-1), .int 0, .ref a13, .ref a14, .int 0, .ref a15, .ref a16, .int 0, .ref a17, .ref a18, .ref a19, .ref a20, .int 0])), (a2, .inr (0, [.ref a11, .int 0, .int 0, .int 0, .int 0, .long 0, .int 0, .int 0]))] H := hP
  have hD : va_D A [(a0, .inr (1, [.int (-1), .ref a2, .ref a10, .int 0, .int 0, .int (-1), .int 0, .ref a13, .ref a14, .int 0, .ref a15, .ref a16, .int 0, .ref a17, .ref a18, .ref a19, .ref a20, .int 0])), (a2, .inr (0, [.ref a11, .int 0, .int 0, .int 0, .int 0, .long 0, .int 0, .int 0]))] := hD
  refine lv_aload_n hx hb dX7_readFunction_20 rfl (lv_at hl 0 rfl) ?_
  refine lv_iconst (v := 0) hx hb dX7_readFunction_21 (by decide) ?_
  refine va_put (D := (dC, dI)) (ci := 1) (v := .int 0) (ty := .int) (C := RX7) (T := TX7) (N := 18) hx hb hts i_X7 tyX7 tyX7_ok nmX7 hown hK hP hD hS 0 rfl rfl 12 (by decide) (hts _ qw296) (fun _ h9 => h9) rfl (by decide +kernel) rfl rfl (Nat.le_of_ble_eq_true rfl) dX7_readFunction_22 (fun H locs hP hD hS => ?_)
  have hP : va_P (dC, dI) cls [(a0, .inr (1, [.int (-1), .ref a2, .ref a10, .int 0, .int 0, .int (-1), .int 0, .ref a13, .ref a14, .int 0, .ref a15, .ref a16, .int 0, .ref a17, .ref a18, .ref a19, .ref a20, .int 0])), (a2, .inr (0, [.ref a11, .int 0, .int 0, .int 0, .int 0, .long 0, .int 0, .int 0]))] H := hP
  have hD : va_D A [(a0, .inr (1, [.int (-1), .ref a2, .ref a10, .int 0, .int 0, .int (-1), .int 0, .ref a13, .ref a14, .int 0, .ref a15, .ref a16, .int 0, .ref a17, .ref a18, .ref a19, .ref a20, .int 0])), (a2, .inr (0, [.ref a11, .int 0, .int 0, .int 0, .int 0, .long 0, .int 0, .int 0]))] := hD
  refine lv_aload_n hx hb dX7_readFunction_25 rfl (lv_at hl 0 rfl) ?_
  refine lv_bipush (v := 7) hx hb dX7_readFunction_26 (by decide) ?_
  have hPc := hP.sub (ws' := [(a0, .inr (1, [.int (-1), .ref a2, .ref a10, .int 0, .int 0, .int (-1), .int 0, .ref a13, .ref a14, .int 0, .ref a15, .ref a16, .int 0, .ref a17, .ref a18, .ref a19, .ref a20, .int 0])), (a2, .inr (0, [.ref a11, .int 0, .int 0, .int 0, .int 0, .long 0, .int 0, .int 0]))]) [0, 1] rfl
  have hDc := hD.sub (ws' := [(a0, .inr (1, [.int (-1), .ref a2, .ref a10, .int 0, .int 0, .int (-1), .int 0, .ref a13, .ref a14, .int 0, .ref a15, .ref a16, .int 0, .ref a17, .ref a18, .ref a19, .ref a20, .int 0])), (a2, .inr (0, [.ref a11, .int 0, .int 0, .int 0, .int 0, .long 0, .int 0, .int 0]))]) [0, 1] (by decide) rfl
  have hKc := hK.sub (tys' := []) [] rfl
  have hFc := va_free (wc := [(a0, .inr (1, [.int (-1), .ref a2, .ref a10, .int 0, .int 0, .int (-1), .int 0, .ref a13, .ref a14, .int 0, .ref a15, .ref a16, .int 0, .ref a17, .ref a18, .ref a19, .ref a20, .int 0])), (a2, .inr (0, [.ref a11, .int 0, .int 0, .int 0, .int 0, .long 0, .int 0, .int 0]))]) hD hS hA [0, 1] rfl
  refine vx_callv (vx_runV (As := [.int 7]) (rest := []) ⟨hx, hb, hml, hown, hts⟩ (kX7_expect_n18 l dC dI (a0 := a0) (a2 := a2) (a10 := a10) (a11 := a11) (a13 := a13) (a14 := a14) (a15 := a15) (a16 := a16) (a17 := a17) (a18 := a18) (a19 := a19) (a20 := a20) (sz := _) (hl9 := hl9)) (cwV 1 hts (gi_V qw304 qw305 qw306 qw157 (gi_z qw303)) rfl rfl rfl (by decide +kernel) ⟨Nat.le_of_ble_eq_true rfl, Nat.le_of_ble_eq_true rfl⟩) ⟨PRE.blind, va_recv hKc hPc (ci := 1) (q0 := 0) rfl rfl, PRE.of hE hS hFc hPc hKc hDc⟩ rfl rfl hl.1 rfl (lv_room (Nat.le_of_ble_eq_true rfl)) dX7_readFunction_28 ⟨Nat.le_of_ble_eq_true rfl, Nat.le_of_ble_eq_true rfl⟩) hS (fun q _ h => hFc q h) hFc (fun q _ h => hFc q h) (fun E ce q9 u t H locs ht hvm hw hB hz1 hk1 hS hce hcv hcl => ?_) (fun u t H locs ht hvm hw hB hz1 hk1 hS => hw.elim)
  obtain ⟨rfl, hB⟩ := hB
  obtain ⟨hP, hD, hK⟩ := JOIN (wr := []) hP hD hK [0, 1] [] [] rfl rfl (by decide) (by decide) rfl hk1 hFc ht hvm hB
  have hP : va_P (dC, dI) cls [(a2, .inr (0, [.ref a11, .int 0, .int 0, .int 0, .int 0, .long 0, .int 0, .int 0])), (a0, .inr (1, [.int (-1), .ref a2, .ref a10, .int 0, .int 0, .int (-1), .int 0, .ref a13, .ref a14, .int 0, .ref a15, .ref a16, .int 0, .ref a17, .ref a18, .ref a19, .ref a20, .int 0]))] H := hP
  have hD : va_D A [(a2, .inr (0, [.ref a11, .int 0, .int 0, .int 0, .int 0, .long 0, .int 0, .int 0])), (a0, .inr (1, [.int (-1), .ref a2, .ref a10, .int 0, .int 0, .int (-1), .int 0, .ref a13, .ref a14, .int 0, .ref a15, .ref a16, .int 0, .ref a17, .ref a18, .ref a19, .ref a20, .int 0]))] := hD
  have hK : va_K (dC, dI) cls [] s := hK
  refine vx_widen (k := 1) (n := 6) (Nat.le_of_ble_eq_true rfl) (Nat.le_of_ble_eq_true rfl) ?_
  have hP9 : va_P (dC, dI) cls [(a2, .inr (0, [.ref a11, .int 0, .int 0, .int 0, .int 0, .long 0, .int 0, .int 0])), (a0, .inr (1, [.int (-1), .ref a2, .ref a10, .int 0, .int 0, .int (-1), .int 0, .ref a13, .ref a14, .int 0, .ref a15, .ref a16, .int 0, .ref a17, .ref a18, .ref a19, .ref a20, .int 0]))] H := hP.sub [0, 1] rfl
  have hD9 : va_D A [(a2, .inr (0, [.ref a11, .int 0, .int 0, .int 0, .int 0, .long 0, .int 0, .int 0])), (a0, .inr (1, [.int (-1), .ref a2, .ref a10, .int 0, .int 0, .int (-1), .int 0, .ref a13, .ref a14, .int 0, .ref a15, .ref a16, .int 0, .ref a17, .ref a18, .ref a19, .ref a20, .int 0]))] := hD.sub [0, 1] (by decide) rfl
  have hK9 : va_K (dC, dI) cls [] s := hK.sub [] rfl
  exact vx_out (fun x hx9 => (hnt x hx9).elim) hlocks hce hcv hcl (fun t ht hal => ⟨(), trivial, ⟨rfl, ⟨by rw [ht]; exact hP9, va_K.moved hal hK9, hD9⟩⟩, hS.F ht⟩) hS.2.2 (Nat.le_of_ble_eq_true rfl) (Nat.le_of_ble_eq_true rfl)
set_option maxHeartbeats 4000000 in
set_option maxRecDepth 100000 in
/-- Gearbox$Reader.readProgram, from the state that its caller has -/
theorem kX7_readProgram_n13 {zs : Nat × Nat} (l : Launch) (dC : Nat → ClassId) (dI : Nat → Nat → Nat) (a0 : Nat) (a1 : Nat) (a3 : Nat) (a11 : Nat) (a13 : Nat) (a14 : Nat) (a15 : Nat) (a16 : Nat) (a17 : Nat) (a18 : Nat) (a19 : Nat) (a20 : Nat) (a42 : Nat) (a43 : Nat) (a44 : Nat) (a45 : Nat) (a46 : Nat) (a47 : Nat) (a48 : Nat) (a49 : Nat) (a50 : Nat) (a51 : Nat) (sz : Nat) (hl9 : l.stackTraces = false)  : Met l yX7_readProgram (wh yX7_readProgram cX7_readProgram 3 (Option.some Jvm.ClassFile.FieldType.int) [(44, 77, 80, 78)]) ({ frames := 9, cells := 1, slots := 6, locals := 163 }) (va_Pc [.ref a0, .ref a1] (PRE zs dC dI [(a3, .inr (0, [.ref a11, .int 0, .int 0, .int 0, .int 0, .long 0, .int 0, .int 0])), (a0, .inr (1, [.int 0, .ref a3, .null, .int 0, .int 0, .int 0, .int 0, .ref a13, .ref a14, .int 0, .ref a15, .ref a16, .int 0, .ref a17, .ref a18, .ref a19, .ref a20, .int 0])), (a1, .inr (2, [.int 0, .ref a42, .ref a43, .ref a44, .ref a45, .ref a46, .ref a47, .int 0, .ref a48, .ref a49, .ref a50, .int 0, .ref a51]))] [] sz)) (va_Qi (fun (r : Int32) (_ : Unit) => r = 1) (fun _ t => POST dC dI [(a1, .inr (2, [.int 0, .ref a42, .ref a43, .ref a44, .ref a45, .ref a46, .ref a47, .int 0, .ref a48, .ref a49, .ref a50, .int 0, .ref a51])), (a3, .inr (0, [.ref a11, .int 0, .int 0, .int 0, .int 0, .long 0, .int 0, .int 0])), (a0, .inr (1, [.int 0, .ref a3, .ref a1, .int 0, .int 0, .int (-1), .int 0, .ref a13, .ref a14, .int 0, .ref a15, .ref a16, .int 0, .ref a17, .ref a18, .ref a19, .ref a20, .int 0]))] [] (va_A [(a3, .inr (0, [.ref a11, .int 0, .int 0, .int 0, .int 0, .long 0, .int 0, .int 0])), (a0, .inr (1, [.int 0, .ref a3, .null, .int 0, .int 0, .int 0, .int 0, .ref a13, .ref a14, .int 0, .ref a15, .ref a16, .int 0, .ref a17, .ref a18, .ref a19, .ref a20, .int 0])), (a1, .inr (2, [.int 0, .ref a42, .ref a43, .ref a44, .ref a45, .ref a46, .ref a47, .int 0, .ref a48, .ref a49, .ref a50, .int 0, .ref a51]))] sz) t) (va_A [(a3, .inr (0, [.ref a11, .int 0, .int 0, .int 0, .int 0, .long 0, .int 0, .int 0])), (a0, .inr (1, [.int 0, .ref a3, .null, .int 0, .int 0, .int 0, .int 0, .ref a13, .ref a14, .int 0, .ref a15, .ref a16, .int 0, .ref a17, .ref a18, .ref a19, .ref a20, .int 0])), (a1, .inr (2, [.int 0, .ref a42, .ref a43, .ref a44, .ref a45, .ref a46, .ref a47, .int 0, .ref a48, .ref a49, .ref a50, .int 0, .ref a51]))] sz)) 1 6 (va_A [(a3, .inr (0, [.ref a11, .int 0, .int 0, .int 0, .int 0, .long 0, .int 0, .int 0])), (a0, .inr (1, [.int 0, .ref a3, .null, .int 0, .int 0, .int 0, .int 0, .ref a13, .ref a14, .int 0, .ref a15, .ref a16, .int 0, .ref a17, .ref a18, .ref a19, .ref a20, .int 0])), (a1, .inr (2, [.int 0, .ref a42, .ref a43, .ref a44, .ref a45, .ref a46, .ref a47, .int 0, .ref a48, .ref a49, .ref a50, .int 0, .ref a51]))] sz) := by
  refine va_MetW (cc := cX7_readProgram) (maxL := 3) (ret := (Option.some Jvm.ClassFile.FieldType.int)) (hh := [(44, 77, 80, 78)]) (by decide) rfl ?_
  intro p e s m args below meth c s₁ B hml hv
  obtain ⟨rfl, hsz, hP, hK, hD0, hE⟩ := hv
  have hx := B.exec
  have hb := B.bytes
  have hr := B.returns
  have hts0 := atoms_spec (ws := wh yX7_readProgram cX7_readProgram 3 (Option.some Jvm.ClassFile.FieldType.int) [(44, 77, 80, 78)]) B.pre
  have htab := vx_table (x := yX7_readProgram) B (hts0 _ List.mem_cons_self)
  have hts : ∀ w ∈ gw, w.before _ s = true := fun w h => hts0 w (List.mem_cons_of_mem _ h)
  have hown : s.vm.findClass RX7 = some m.cls := findClass_of_methodNamed B.named
  have hlocks := B.notSynchronized
  subst hsz
  have hD := hD0.self (sz := s.heap.size)
  generalize hAe : va_A [(a3, .inr (0, [.ref a11, .int 0, .int 0, .int 0, .int 0, .long 0, .int 0, .int 0])), (a0, .inr (1, [.int 0, .ref a3, .null, .int 0, .int 0, .int 0, .int 0, .ref a13, .ref a14, .int 0, .ref a15, .ref a16, .int 0, .ref a17, .ref a18, .ref a19, .ref a20, .int 0])), (a1, .inr (2, [.int 0, .ref a42, .ref a43, .ref a44, .ref a45, .ref a46, .ref a47, .int 0, .ref a48, .ref a49, .ref a50, .int 0, .ref a51]))] s.heap.size = A at hD hE ⊢
  have hA : ∀ q : Nat, s.heap.size ≤ q → A q := fun q h => by rw [← hAe]; exact Or.inr h
  have hS : va_S A s.heap s.heap [] := va_S.rf
  have hP : va_P (dC, dI) cls [(a3, .inr (0, [.ref a11, .int 0, .int 0, .int 0, .int 0, .long 0, .int 0, .int 0])), (a0, .inr (1, [.int 0, .ref a3, .null, .int 0, .int 0, .int 0, .int 0, .ref a13, .ref a14, .int 0, .ref a15, .ref a16, .int 0, .ref a17, .ref a18, .ref a19, .ref a20, .int 0])), (a1, .inr (2, [.int 0, .ref a42, .ref a43, .ref a44, .ref a45, .ref a46, .ref a47, .int 0, .ref a48, .ref a49, .ref a50, .int 0, .ref a51]))] s.heap := hP
  have hl := lv_entry ([.ref a0, .ref a1]) (n := 3) (Nat.le_of_ble_eq_true rfl)
  rw [lg_entry_eq]
  generalize (lg_sl ([.ref a0, .ref a1]) ++ List.replicate (3 - (lg_sl ([.ref a0, .ref a1])).length) Slot.unset).toArray = ls at hl ⊢
  have hl : lv_has ls 3 [(0, .ref a0), (1, .ref a1)] := hl
  refine lv_aload_n hx hb dX7_readProgram_0 rfl (lv_at hl 0 rfl) ?_
  refine lv_aload_n hx hb dX7_readProgram_1 rfl (lv_at hl 1 rfl) ?_
  refine va_put (D := (dC, dI)) (ci := 1) (v := .ref a1) (ty := .object "Gearbox$Program") (C := RX7) (T := TX7) (N := 18) hx hb hts i_X7 tyX7 tyX7_ok nmX7 hown hK hP hD hS 1 rfl rfl 2 (by decide) (hts _ qw269) (fun _ h9 => h9) rfl (by decide +kernel) rfl rfl (Nat.le_of_ble_eq_true rfl) dX7_readProgram_2 (fun H locs hP hD hS => ?_)
  have hP : va_P (dC, dI) cls [(a3, .inr (0, [.ref a11, .int 0, .int 0, .int 0, .int 0, .long 0, .int 0, .int 0])), (a0, .inr (1, [.int 0, .ref a3, .ref a1, .int 0, .int 0, .int 0, .int 0, .ref a13, .ref a14, .int 0, .ref a15, .ref a16, .int 0, .ref a17, .ref a18, .ref a19, .ref a20, .int 0])), (a1, .inr (2, [.int 0, .ref a42, .ref a43, .ref a44, .ref a45, .ref a46, .ref a47, .int 0, .ref a48, .ref a49, .ref a50, .int 0, .ref a51]))] H := hP
  have hD : va_D A [(a3, .inr (0, [.ref a11, .int 0, .int 0, .int 0, .int 0, .long 0, .int 0, .int 0])), (a0, .inr (1, [.int 0, .ref a3, .ref a1, .int 0, .int 0, .int 0, .int 0, .ref a13, .ref a14, .int 0, .ref a15, .ref a16, .int 0, .ref a17, .ref a18, .ref a19, .ref a20, .int 0])), (a1, .inr (2, [.int 0, .ref a42, .ref a43, .ref a44, .ref a45, .ref a46, .ref a47, .int 0, .ref a48, .ref a49, .ref a50, .int 0, .ref a51]))] := hD
  refine lv_aload_n hx hb dX7_readProgram_5 rfl (lv_at hl 0 rfl) ?_
  refine va_get (D := (dC, dI)) (ci := 1) (v := .ref a1) (C := RX7) (T := TX7) (N := 18) hx hb hts i_X7 hown hK hP 1 rfl rfl 2 (by decide) (hts _ qw269) (fun _ h9 => h9) rfl dX7_readProgram_6 ?_
  have hPc := hP.sub (ws' := [(a1, .inr (2, [.int 0, .ref a42, .ref a43, .ref a44, .ref a45, .ref a46, .ref a47, .int 0, .ref a48, .ref a49, .ref a50, .int 0, .ref a51]))]) [2] rfl
  have hDc := hD.sub (ws' := [(a1, .inr (2, [.int 0, .ref a42, .ref a43, .ref a44, .ref a45, .ref a46, .ref a47, .int 0, .ref a48, .ref a49, .ref a50, .int 0, .ref a51]))]) [2] (by decide) rfl
  have hKc := hK.sub (tys' := []) [] rfl
  have hFc := va_free (wc := [(a1, .inr (2, [.int 0, .ref a42, .ref a43, .ref a44, .ref a45, .ref a46, .ref a47, .int 0, .ref a48, .ref a49, .ref a50, .int 0, .ref a51]))]) hD hS hA [2] rfl
  refine va_callv (va_runV (As := []) (rest := []) ⟨hx, hb, hml, hown, hts⟩ (kX6_clear_n14 l dC dI (a0 := a1) (a42 := a42) (a43 := a43) (a44 := a44) (a45 := a45) (a46 := a46) (a47 := a47) (a48 := a48) (a49 := a49) (a50 := a50) (a51 := a51) (sz := _)) (cwV 0 hts (gi_V qw274 qw275 qw276 qw192 (gi_z qw273)) rfl rfl rfl (by decide +kernel) ⟨Nat.le_of_ble_eq_true rfl, Nat.le_of_ble_eq_true rfl⟩) ⟨PRE.blind, va_recv hKc hPc (ci := 2) (q0 := 0) rfl rfl, PRE.of hE hS hFc hPc hKc hDc⟩ rfl rfl hl.1 rfl (lv_room (Nat.le_of_ble_eq_true rfl)) dX7_readProgram_9 ⟨Nat.le_of_ble_eq_true rfl, Nat.le_of_ble_eq_true rfl⟩) hS (fun q _ h => hFc q h) hFc (fun u t H locs ht hvm hw hB hz1 hk1 hS => ?_)
  obtain ⟨hP, hD, hK⟩ := JOIN (wr := [(a3, .inr (0, [.ref a11, .int 0, .int 0, .int 0, .int 0, .long 0, .int 0, .int 0])), (a0, .inr (1, [.int 0, .ref a3, .ref a1, .int 0, .int 0, .int 0, .int 0, .ref a13, .ref a14, .int 0, .ref a15, .ref a16, .int 0, .ref a17, .ref a18, .ref a19, .ref a20, .int 0]))]) hP hD hK [2] [0, 1] [] rfl rfl (by decide) (by decide) rfl hk1 hFc ht hvm hB
  have hP : va_P (dC, dI) cls [(a3, .inr (0, [.ref a11, .int 0, .int 0, .int 0, .int 0, .long 0, .int 0, .int 0])), (a0, .inr (1, [.int 0, .ref a3, .ref a1, .int 0, .int 0, .int 0, .int 0, .ref a13, .ref a14, .int 0, .ref a15, .ref a16, .int 0, .ref a17, .ref a18, .ref a19, .ref a20, .int 0])), (a1, .inr (2, [.int 0, .ref a42, .ref a43, .ref a44, .ref a45, .ref a46, .ref a47, .int 0, .ref a48, .ref a49, .ref a50, .int 0, .ref a51]))] H := hP
  have hD : va_D A [(a3, .inr (0, [.ref a11, .int 0, .int 0, .int 0, .int 0, .long 0, .int 0, .int 0])), (a0, .inr (1, [.int 0, .ref a3, .ref a1, .int 0, .int 0, .int 0, .int 0, .ref a13, .ref a14, .int 0, .ref a15, .ref a16, .int 0, .ref a17, .ref a18, .ref a19, .ref a20, .int 0])), (a1, .inr (2, [.int 0, .ref a42, .ref a43, .ref a44, .ref a45, .ref a46, .ref a47, .int 0, .ref a48, .ref a49, .ref a50, .int 0, .ref a51]))] := hD
  have hK : va_K (dC, dI) cls [] s := hK
  refine W.widen (k := 0) (n := 0) (Nat.le_of_ble_eq_true rfl) (Nat.le_of_ble_eq_true rfl) ?_
  refine lv_aload_n hx hb dX7_readProgram_12 rfl (lv_at hl 0 rfl) ?_
  refine lv_iconst (v := 0) hx hb dX7_readProgram_13 (by decide) ?_
  refine va_put (D := (dC, dI)) (ci := 1) (v := .int 0) (ty := .int) (C := RX7) (T := TX7) (N := 18) hx hb hts i_X7 tyX7 tyX7_ok nmX7 hown hK hP hD hS 1 rfl rfl 4 (by decide) (hts _ qw277) (fun _ h9 => h9) rfl (by decide +kernel) rfl rfl (Nat.le_of_ble_eq_true rfl) dX7_readProgram_14 (fun H locs hP hD hS => ?_)
  have hP : va_P (dC, dI) cls [(a3, .inr (0, [.ref a11, .int 0, .int 0, .int 0, .int 0, .long 0, .int 0, .int 0])), (a0, .inr (1, [.int 0, .ref a3, .ref a1, .int 0, .int 0, .int 0, .int 0, .ref a13, .ref a14, .int 0, .ref a15, .ref a16, .int 0, .ref a17, .ref a18, .ref a19, .ref a20, .int 0])), (a1, .inr (2, [.int 0, .ref a42, .ref a43, .ref a44, .ref a45, .ref a46, .ref a47, .int 0, .ref a48, .ref a49, .ref a50, .int 0, .ref a51]))] H := hP
  have hD : va_D A [(a3, .inr (0, [.ref a11, .int 0, .int 0, .int 0, .int 0, .long 0, .int 0, .int 0])), (a0, .inr (1, [.int 0, .ref a3, .ref a1, .int 0, .int 0, .int 0, .int 0, .ref a13, .ref a14, .int 0, .ref a15, .ref a16, .int 0, .ref a17, .ref a18, .ref a19, .ref a20, .int 0])), (a1, .inr (2, [.int 0, .ref a42, .ref a43, .ref a44, .ref a45, .ref a46, .ref a47, .int 0, .ref a48, .ref a49, .ref a50, .int 0, .ref a51]))] := hD
  refine lv_aload_n hx hb dX7_readProgram_17 rfl (lv_at hl 0 rfl) ?_
  refine lv_iconst (v := (-1)) hx hb dX7_readProgram_18 (by decide) ?_
  refine va_put (D := (dC, dI)) (ci := 1) (v := .int (-1)) (ty := .int) (C := RX7) (T := TX7) (N := 18) hx hb hts i_X7 tyX7 tyX7_ok nmX7 hown hK hP hD hS 1 rfl rfl 5 (by decide) (hts _ qw278) (fun _ h9 => h9) rfl (by decide +kernel) rfl rfl (Nat.le_of_ble_eq_true rfl) dX7_readProgram_19 (fun H locs hP hD hS => ?_)
  have hP : va_P (dC, dI) cls [(a3, .inr (0, [.ref a11, .int 0, .int 0, .int 0, .int 0, .long 0, .int 0, .int 0])), (a0, .inr (1, [.int 0, .ref a3, .ref a1, .int 0, .int 0, .int (-1), .int 0, .ref a13, .ref a14, .int 0, .ref a15, .ref a16, .int 0, .ref a17, .ref a18, .ref a19, .ref a20, .int 0])), (a1, .inr (2, [.int 0, .ref a42, .ref a43, .ref a44, .ref a45, .ref a46, .ref a47, .int 0, .ref a48, .ref a49, .ref a50, .int 0, .ref a51]))] H := hP
  have hD : va_D A [(a3, .inr (0, [.ref a11, .int 0, .int 0, .int 0, .int 0, .long 0, .int 0, .int 0])), (a0, .inr (1, [.int 0, .ref a3, .ref a1, .int 0, .int 0, .int (-1), .int 0, .ref a13, .ref a14, .int 0, .ref a15, .ref a16, .int 0, .ref a17, .ref a18, .ref a19, .ref a20, .int 0])), (a1, .inr (2, [.int 0, .ref a42, .ref a43, .ref a44, .ref a45, .ref a46, .ref a47, .int 0, .ref a48, .ref a49, .ref a50, .int 0, .ref a51]))] := hD
  refine lv_aload_n hx hb dX7_readProgram_22 rfl (lv_at hl 0 rfl) ?_
  refine lv_iconst (v := 0) hx hb dX7_readProgram_23 (by decide) ?_
  refine va_put (D := (dC, dI)) (ci := 1) (v := .int 0) (ty := .int) (C := RX7) (T := TX7) (N := 18) hx hb hts i_X7 tyX7 tyX7_ok nmX7 hown hK hP hD hS 1 rfl rfl 6 (by decide) (hts _ qw279) (fun _ h9 => h9) rfl (by decide +kernel) rfl rfl (Nat.le_of_ble_eq_true rfl) dX7_readProgram_24 (fun H locs hP hD hS => ?_)
  have hP : va_P (dC, dI) cls [(a3, .inr (0, [.ref a11, .int 0, .int 0, .int 0, .int 0, .long 0, .int 0, .int 0])), (a0, .inr (1, [.int 0, .ref a3, .ref a1, .int 0, .int 0, .int (-1), .int 0, .ref a13, .ref a14, .int 0, .ref a15, .ref a16, .int 0, .ref a17, .ref a18, .ref a19, .ref a20, .int 0])), (a1, .inr (2, [.int 0, .ref a42, .ref a43, .ref a44, .ref a45, .ref a46, .ref a47, .int 0, .ref a48, .ref a49, .ref a50, .int 0, .ref a51]))] H := hP
  have hD : va_D A [(a3, .inr (0, [.ref a11, .int 0, .int 0, .int 0, .int 0, .long 0, .int 0, .int 0])), (a0, .inr (1, [.int 0, .ref a3, .ref a1, .int 0, .int 0, .int (-1), .int 0, .ref a13, .ref a14, .int 0, .ref a15, .ref a16, .int 0, .ref a17, .ref a18, .ref a19, .ref a20, .int 0])), (a1, .inr (2, [.int 0, .ref a42, .ref a43, .ref a44, .ref a45, .ref a46, .ref a47, .int 0, .ref a48, .ref a49, .ref a50, .int 0, .ref a51]))] := hD
  refine lv_aload_n hx hb dX7_readProgram_27 rfl (lv_at hl 0 rfl) ?_
  refine lv_iconst (v := (-1)) hx hb dX7_readProgram_28 (by decide) ?_
  refine va_put (D := (dC, dI)) (ci := 1) (v := .int (-1)) (ty := .int) (C := RX7) (T := TX7) (N := 18) hx hb hts i_X7 tyX7 tyX7_ok nmX7 hown hK hP hD hS 1 rfl rfl 0 (by decide) (hts _ qw280) (fun _ h9 => h9) rfl (by decide +kernel) rfl rfl (Nat.le_of_ble_eq_true rfl) dX7_readProgram_29 (fun H locs hP hD hS => ?_)
  have hP : va_P (dC, dI) cls [(a3, .inr (0, [.ref a11, .int 0, .int 0, .int 0, .int 0, .long 0, .int 0, .int 0])), (a0, .inr (1, [.int (-1), .ref a3, .ref a1, .int 0, .int 0, .int (-1), .int 0, .ref a13, .ref a14, .int 0, .ref a15, .ref a16, .int 0, .ref a17, .ref a18, .ref a19, .ref a20, .int 0])), (a1, .inr (2, [.int 0, .ref a42, .ref a43, .ref a44, .ref a45, .ref a46, .ref a47, .int 0, .ref a48, .ref a49, .ref a50, .int 0, .ref a51]))] H := hP
  have hD : va_D A [(a3, .inr (0, [.ref a11, .int 0, .int 0, .int 0, .int 0, .long 0, .int 0, .int 0])), (a0, .inr (1, [.int (-1), .ref a3, .ref a1, .int 0, .int 0, .int (-1), .int 0, .ref a13, .ref a14, .int 0, .ref a15, .ref a16, .int 0, .ref a17, .ref a18, .ref a19, .ref a20, .int 0])), (a1, .inr (2, [.int 0, .ref a42, .ref a43, .ref a44, .ref a45, .ref a46, .ref a47, .int 0, .ref a48, .ref a49, .ref a50, .int 0, .ref a51]))] := hD
  refine lv_aload_n hx hb dX7_readProgram_32 rfl (lv_at hl 0 rfl) ?_
  refine lv_iconst (v := 0) hx hb dX7_readProgram_33 (by decide) ?_
  refine va_put (D := (dC, dI)) (ci := 1) (v := .int 0) (ty := .int) (C := RX7) (T := TX7) (N := 18) hx hb hts i_X7 tyX7 tyX7_ok nmX7 hown hK hP hD hS 1 rfl rfl 17 (by decide) (hts _ qw281) (fun _ h9 => h9) rfl (by decide +kernel) rfl rfl (Nat.le_of_ble_eq_true rfl) dX7_readProgram_34 (fun H locs hP hD hS => ?_)
  have hP : va_P (dC, dI) cls [(a3, .inr (0, [.ref a11, .int 0, .int 0, .int 0, .int 0, .long 0, .int 0, .int 0])), (a0, .inr (1, [.int (-1), .ref a3, .ref a1, .int 0, .int 0, .int (-1), .int 0, .ref a13, .ref a14, .int 0, .ref a15, .ref a16, .int 0, .ref a17, .ref a18, .ref a19, .ref a20, .int 0])), (a1, .inr (2, [.int 0, .ref a42, .ref a43, .ref a44, .ref a45, .ref a46, .ref a47, .int 0, .ref a48, .ref a49, .ref a50, .int 0, .ref a51]))] H := hP
  have hD : va_D A [(a3, .inr (0, [.ref a11, .int 0, .int 0, .int 0, .int 0, .long 0, .int 0, .int 0])), (a0, .inr (1, [.int (-1), .ref a3, .ref a1, .int 0, .int 0, .int (-1), .int 0, .ref a13, .ref a14, .int 0, .ref a15, .ref a16, .int 0, .ref a17, .ref a18, .ref a19, .ref a20, .int 0])), (a1, .inr (2, [.int 0, .ref a42, .ref a43, .ref a44, .ref a45, .ref a46, .ref a47, .int 0, .ref a48, .ref a49, .ref a50, .int 0, .ref a51]))] := hD
  refine lv_aload_n hx hb dX7_readProgram_37 rfl (lv_at hl 0 rfl) ?_
  refine va_get (D := (dC, dI)) (ci := 1) (v := .ref a3) (C := RX7) (T := TX7) (N := 18) hx hb hts i_X7 hown hK hP 1 rfl rfl 1 (by decide) (hts _ qw25) (fun _ h9 => h9) rfl dX7_readProgram_38 ?_
  have hPc := hP.sub (ws' := [(a3, .inr (0, [.ref a11, .int 0, .int 0, .int 0, .int 0, .long 0, .int 0, .int 0]))]) [0] rfl
  have hDc := hD.sub (ws' := [(a3, .inr (0, [.ref a11, .int 0, .int 0, .int 0, .int 0, .long 0, .int 0, .int 0]))]) [0] (by decide) rfl
  have hKc := hK.sub (tys' := []) [] rfl
  have hFc := va_free (wc := [(a3, .inr (0, [.ref a11, .int 0, .int 0, .int 0, .int 0, .long 0, .int 0, .int 0]))]) hD hS hA [0] rfl
  refine va_callv (va_runV (As := []) (rest := []) ⟨hx, hb, hml, hown, hts⟩ (kX10_begin_n15 l dC dI (a0 := a3) (a11 := a11) (sz := _)) (cwV 0 hts (gi_V qw291 qw292 qw293 qw151 (gi_z qw290)) rfl rfl rfl (by decide +kernel) ⟨Nat.le_of_ble_eq_true rfl, Nat.le_of_ble_eq_true rfl⟩) ⟨PRE.blind, va_recv hKc hPc (ci := 0) (q0 := 0) rfl rfl, PRE.of hE hS hFc hPc hKc hDc⟩ rfl rfl hl.1 rfl (lv_room (Nat.le_of_ble_eq_true rfl)) dX7_readProgram_41 ⟨Nat.le_of_ble_eq_true rfl, Nat.le_of_ble_eq_true rfl⟩) hS (fun q _ h => hFc q h) hFc (fun u t H locs ht hvm hw hB hz1 hk1 hS => ?_)
  obtain ⟨hP, hD, hK⟩ := JOIN (wr := [(a0, .inr (1, [.int (-1), .ref a3, .ref a1, .int 0, .int 0, .int (-1), .int 0, .ref a13, .ref a14, .int 0, .ref a15, .ref a16, .int 0, .ref a17, .ref a18, .ref a19, .ref a20, .int 0])), (a1, .inr (2, [.int 0, .ref a42, .ref a43, .ref a44, .ref a45, .ref a46, .ref a47, .int 0, .ref a48, .ref a49, .ref a50, .int 0, .ref a51]))]) hP hD hK [0] [1, 2] [] rfl rfl (by decide) (by decide) rfl hk1 hFc ht hvm hB
  have hP : va_P (dC, dI) cls [(a0, .inr (1, [.int (-1), .ref a3, .ref a1, .int 0, .int 0, .int (-1), .int 0, .ref a13, .ref a14, .int 0, .ref a15, .ref a16, .int 0, .ref a17, .ref a18, .ref a19, .ref a20, .int 0])), (a1, .inr (2, [.int 0, .ref a42, .ref a43, .ref a44, .ref a45, .ref a46, .ref a47, .int 0, .ref a48, .ref a49, .ref a50, .int 0, .ref a51])), (a3, .inr (0, [.ref a11, .int 0, .int 0, .int 0, .int 0, .long 0, .int 0, .int 0]))] H := hP
  have hD : va_D A [(a0, .inr (1, [.int (-1), .ref a3, .ref a1, .int 0, .int 0, .int (-1), .int 0, .ref a13, .ref a14, .int 0, .ref a15, .ref a16, .int 0, .ref a17, .ref a18, .ref a19, .ref a20, .int 0])), (a1, .inr (2, [.int 0, .ref a42, .ref a43, .ref a44, .ref a45, .ref a46, .ref a47, .int 0, .ref a48, .ref a49, .ref a50, .int 0, .ref a51])), (a3, .inr (0, [.ref a11, .int 0, .int 0, .int 0, .int 0, .long 0, .int 0, .int 0]))] := hD
  have hK : va_K (dC, dI) cls [] s := hK
  refine W.widen (k := 0) (n := 0) (Nat.le_of_ble_eq_true rfl) (Nat.le_of_ble_eq_true rfl) ?_
  refine lv_iconst (v := 0) hx hb dX7_readProgram_44 (by decide) ?_
  refine lv_istore_n (lv' := [(2, .int 0), (0, .ref a0), (1, .ref a1)]) hx hb dX7_readProgram_45 rfl hl (by decide) rfl (fun ls hl => ?_)
  refine lv_iload_n hx hb dX7_readProgram_46 rfl (lv_at hl 0 rfl) ?_
  refine lv_bipush (v := 6) hx hb dX7_readProgram_47 (by decide) ?_
  refine lv_icmp_gt (tgt := 77) hx hb dX7_readProgram_49 (by decide) (fun c => absurd c (by decide)) (fun _ => ?_)
  refine lv_iload_n hx hb dX7_readProgram_52 rfl (lv_at hl 0 rfl) ?_
  refine lv_if_eq (tgt := 66) hx hb dX7_readProgram_53 (by decide) (fun _ => ?_) (fun c => absurd (by decide) c)
  refine lv_aload_n hx hb dX7_readProgram_66 rfl (lv_at hl 1 rfl) ?_
  refine lv_iload_n hx hb dX7_readProgram_67 rfl (lv_at hl 0 rfl) ?_
  have hPc := hP.sub (ws' := [(a0, .inr (1, [.int (-1), .ref a3, .ref a1, .int 0, .int 0, .int (-1), .int 0, .ref a13, .ref a14, .int 0, .ref a15, .ref a16, .int 0, .ref a17, .ref a18, .ref a19, .ref a20, .int 0])), (a3, .inr (0, [.ref a11, .int 0, .int 0, .int 0, .int 0, .long 0, .int 0, .int 0]))]) [0, 2] rfl
  have hDc := hD.sub (ws' := [(a0, .inr (1, [.int (-1), .ref a3, .ref a1, .int 0, .int 0, .int (-1), .int 0, .ref a13, .ref a14, .int 0, .ref a15, .ref a16, .int 0, .ref a17, .ref a18, .ref a19, .ref a20, .int 0])), (a3, .inr (0, [.ref a11, .int 0, .int 0, .int 0, .int 0, .long 0, .int 0, .int 0]))]) [0, 2] (by decide) rfl
  have hKc := hK.sub (tys' := []) [] rfl
  have hFc := va_free (wc := [(a0, .inr (1, [.int (-1), .ref a3, .ref a1, .int 0, .int 0, .int (-1), .int 0, .ref a13, .ref a14, .int 0, .ref a15, .ref a16, .int 0, .ref a17, .ref a18, .ref a19, .ref a20, .int 0])), (a3, .inr (0, [.ref a11, .int 0, .int 0, .int 0, .int 0, .long 0, .int 0, .int 0]))]) hD hS hA [0, 2] rfl
  refine vx_callv (vx_runV (As := [.int 0]) (rest := []) ⟨hx, hb, hml, hown, hts⟩ (kX7_readFunction_n17 l dC dI (a0 := a0) (a2 := a3) (a10 := a1) (a11 := a11) (a13 := a13) (a14 := a14) (a15 := a15) (a16 := a16) (a17 := a17) (a18 := a18) (a19 := a19) (a20 := a20) (sz := _) (hl9 := hl9)) (cwV 1 hts (gi_V qw308 qw309 qw310 qw157 (gi_z qw307)) rfl rfl rfl (by decide +kernel) ⟨Nat.le_of_ble_eq_true rfl, Nat.le_of_ble_eq_true rfl⟩) ⟨PRE.blind, va_recv hKc hPc (ci := 1) (q0 := 0) rfl rfl, PRE.of hE hS hFc hPc hKc hDc⟩ rfl rfl hl.1 rfl (lv_room (Nat.le_of_ble_eq_true rfl)) dX7_readProgram_68 ⟨Nat.le_of_ble_eq_true rfl, Nat.le_of_ble_eq_true rfl⟩) hS (fun q _ h => hFc q h) hFc (fun q _ h => hFc q h) (fun E ce q9 u t H locs ht hvm hw hB hz1 hk1 hS hce hcv hcl => ?_) (fun u t H locs ht hvm hw hB hz1 hk1 hS => hw.elim)
  obtain ⟨rfl, hB⟩ := hB
  obtain ⟨hP, hD, hK⟩ := JOIN (wr := [(a1, .inr (2, [.int 0, .ref a42, .ref a43, .ref a44, .ref a45, .ref a46, .ref a47, .int 0, .ref a48, .ref a49, .ref a50, .int 0, .ref a51]))]) hP hD hK [0, 2] [1] [] rfl rfl (by decide) (by decide) rfl hk1 hFc ht hvm hB
  have hP : va_P (dC, dI) cls [(a1, .inr (2, [.int 0, .ref a42, .ref a43, .ref a44, .ref a45, .ref a46, .ref a47, .int 0, .ref a48, .ref a49, .ref a50, .int 0, .ref a51])), (a3, .inr (0, [.ref a11, .int 0, .int 0, .int 0, .int 0, .long 0, .int 0, .int 0])), (a0, .inr (1, [.int (-1), .ref a3, .ref a1, .int 0, .int 0, .int (-1), .int 0, .ref a13, .ref a14, .int 0, .ref a15, .ref a16, .int 0, .ref a17, .ref a18, .ref a19, .ref a20, .int 0]))] H := hP
  have hD : va_D A [(a1, .inr (2, [.int 0, .ref a42, .ref a43, .ref a44, .ref a45, .ref a46, .ref a47, .int 0, .ref a48, .ref a49, .ref a50, .int 0, .ref a51])), (a3, .inr (0, [.ref a11, .int 0, .int 0, .int 0, .int 0, .long 0, .int 0, .int 0])), (a0, .inr (1, [.int (-1), .ref a3, .ref a1, .int 0, .int 0, .int (-1), .int 0, .ref a13, .ref a14, .int 0, .ref a15, .ref a16, .int 0, .ref a17, .ref a18, .ref a19, .ref a20, .int 0]))] := hD
  have hK : va_K (dC, dI) cls [] s := hK
  refine vx_widen (k := 1) (n := 6) (Nat.le_of_ble_eq_true rfl) (Nat.le_of_ble_eq_true rfl) ?_
  refine vx_catch (own := RX7) (name := "java/lang/IllegalArgumentException") hown [] ⟨44, 77, 80, 78⟩ [] (htab.trans rfl) (fun z hz => by cases hz) (by decide) (by decide) (hts _ qw298) (hE.word (List.mem_append_right _ (tbl_5 (i := 1) rfl)) rfl) hce hcv hcl ?_
  refine lv_astore_n (lv' := [(2, .ref q9), (0, .ref a0), (1, .ref a1)]) hx hb dX7_readProgram_80 rfl hl (by decide) rfl (fun ls hl => ?_)
  refine lv_aload_n hx hb dX7_readProgram_81 rfl (lv_at hl 1 rfl) ?_
  refine lv_aload_n hx hb dX7_readProgram_82 rfl (lv_at hl 1 rfl) ?_
  refine va_get (D := (dC, dI)) (ci := 1) (v := .ref a3) (C := RX7) (T := TX7) (N := 18) hx hb hts i_X7 hown hK hP 2 rfl rfl 1 (by decide) (hts _ qw25) (fun _ h9 => h9) rfl dX7_readProgram_83 ?_
  refine va_get (D := (dC, dI)) (ci := 0) (v := .int 0) (C := RX10) (T := TX10) (N := 8) hx hb hts i_X10 hown hK hP 1 rfl rfl 3 (by decide) (hts _ qw311) (fun _ h9 => h9) rfl dX7_readProgram_86 ?_
  refine va_put (D := (dC, dI)) (ci := 1) (v := .int 0) (ty := .int) (C := RX7) (T := TX7) (N := 18) hx hb hts i_X7 tyX7 tyX7_ok nmX7 hown hK hP hD hS 2 rfl rfl 0 (by decide) (hts _ qw280) (fun _ h9 => h9) rfl (by decide +kernel) rfl rfl (Nat.le_of_ble_eq_true rfl) dX7_readProgram_89 (fun H locs hP hD hS => ?_)
  have hP : va_P (dC, dI) cls [(a1, .inr (2, [.int 0, .ref a42, .ref a43, .ref a44, .ref a45, .ref a46, .ref a47, .int 0, .ref a48, .ref a49, .ref a50, .int 0, .ref a51])), (a3, .inr (0, [.ref a11, .int 0, .int 0, .int 0, .int 0, .long 0, .int 0, .int 0])), (a0, .inr (1, [.int 0, .ref a3, .ref a1, .int 0, .int 0, .int (-1), .int 0, .ref a13, .ref a14, .int 0, .ref a15, .ref a16, .int 0, .ref a17, .ref a18, .ref a19, .ref a20, .int 0]))] H := hP
  have hD : va_D A [(a1, .inr (2, [.int 0, .ref a42, .ref a43, .ref a44, .ref a45, .ref a46, .ref a47, .int 0, .ref a48, .ref a49, .ref a50, .int 0, .ref a51])), (a3, .inr (0, [.ref a11, .int 0, .int 0, .int 0, .int 0, .long 0, .int 0, .int 0])), (a0, .inr (1, [.int 0, .ref a3, .ref a1, .int 0, .int 0, .int (-1), .int 0, .ref a13, .ref a14, .int 0, .ref a15, .ref a16, .int 0, .ref a17, .ref a18, .ref a19, .ref a20, .int 0]))] := hD
  refine lv_iconst (v := 1) hx hb dX7_readProgram_92 (by decide) ?_
  have hP9 : va_P (dC, dI) cls [(a1, .inr (2, [.int 0, .ref a42, .ref a43, .ref a44, .ref a45, .ref a46, .ref a47, .int 0, .ref a48, .ref a49, .ref a50, .int 0, .ref a51])), (a3, .inr (0, [.ref a11, .int 0, .int 0, .int 0, .int 0, .long 0, .int 0, .int 0])), (a0, .inr (1, [.int 0, .ref a3, .ref a1, .int 0, .int 0, .int (-1), .int 0, .ref a13, .ref a14, .int 0, .ref a15, .ref a16, .int 0, .ref a17, .ref a18, .ref a19, .ref a20, .int 0]))] H := hP.sub [0, 1, 2] rfl
  have hD9 : va_D A [(a1, .inr (2, [.int 0, .ref a42, .ref a43, .ref a44, .ref a45, .ref a46, .ref a47, .int 0, .ref a48, .ref a49, .ref a50, .int 0, .ref a51])), (a3, .inr (0, [.ref a11, .int 0, .int 0, .int 0, .int 0, .long 0, .int 0, .int 0])), (a0, .inr (1, [.int 0, .ref a3, .ref a1, .int 0, .int 0, .int (-1), .int 0, .ref a13, .ref a14, .int 0, .ref a15, .ref a16, .int 0, .ref a17, .ref a18, .ref a19, .ref a20, .int 0]))] := hD.sub [0, 1, 2] (by decide) rfl
  have hK9 : va_K (dC, dI) cls [] s := hK.sub [] rfl
  exact W.iret (v := 1) hx hb hr (fun t ht hW => ⟨⟨1, (), rfl, rfl, ⟨by rw [ht]; exact hP9, va_K.moved hW.alike hK9, hD9⟩⟩, hS.F ht⟩) hS.2.2 dX7_readProgram_93
set_option maxHeartbeats 4000000 in
set_option maxRecDepth 100000 in
theorem kX11_load {zs : Nat × Nat} (l : Launch) (dC : Nat → ClassId) (dI : Nat → Nat → Nat) (gx : Nat) (gq1 : Nat) (gq2 : Nat) (gq4 : Nat) (gq5 : Nat) (gq6 : Nat) (gq7 : Nat) (gq8 : Nat) (gq9 : Nat) (gq10 : Nat) (gq11 : Nat) (gq12 : Nat) (gq13 : Nat) (gq136 : Nat) (gq137 : Nat) (gq138 : Nat) (gq150 : Nat) (gq161 : Nat) (gq162 : Nat) (gq163 : Nat) (gq164 : Nat) (gq165 : Nat) (gq166 : Nat) (gq167 : Nat) (gq168 : Nat) (gq169 : Nat) (gq170 : Nat) (gq171 : Nat) (gq172 : Nat) (gq184 : Nat) (sz : Nat) (hl9 : l.stackTraces = false)  : Met l yX11_load (wz yX11_load cX11_load 4 (Option.some Jvm.ClassFile.FieldType.int)) ({ frames := 10, cells := 1, slots := 6, locals := 185 }) (va_Pc [.ref gx] (PRE zs dC dI [(gx, .inr (11, [.ref gq1, .ref gq4, .ref gq13, .ref gq136, .ref gq137, .ref gq138, .ref gq172, .ref gq184, .ref gq150, .ref gq161, .int (-1)])), (gq1, .inr (0, [.ref gq2, .int 0, .int 0, .int 0, .int 0, .long 0, .int 0, .int 0])), (gq4, .inr (1, [.int 0, .ref gq1, .null, .int 0, .int 0, .int 0, .int 0, .ref gq5, .ref gq6, .int 0, .ref gq7, .ref gq8, .int 0, .ref gq9, .ref gq10, .ref gq11, .ref gq12, .int 0])), (gq161, .inr (2, [.int 0, .ref gq162, .ref gq163, .ref gq164, .ref gq165, .ref gq166, .ref gq167, .int 0, .ref gq168, .ref gq169, .ref gq170, .int 0, .ref gq171]))] [] sz)) (va_Qi (fun (r : Int32) (_ : Unit) => r = 1) (fun _ t => POST dC dI [] [] (va_A [(gx, .inr (11, [.ref gq1, .ref gq4, .ref gq13, .ref gq136, .ref gq137, .ref gq138, .ref gq172, .ref gq184, .ref gq150, .ref gq161, .int (-1)])), (gq1, .inr (0, [.ref gq2, .int 0, .int 0, .int 0, .int 0, .long 0, .int 0, .int 0])), (gq4, .inr (1, [.int 0, .ref gq1, .null, .int 0, .int 0, .int 0, .int 0, .ref gq5, .ref gq6, .int 0, .ref gq7, .ref gq8, .int 0, .ref gq9, .ref gq10, .ref gq11, .ref gq12, .int 0])), (gq161, .inr (2, [.int 0, .ref gq162, .ref gq163, .ref gq164, .ref gq165, .ref gq166, .ref gq167, .int 0, .ref gq168, .ref gq169, .ref gq170, .int 0, .ref gq171]))] sz) t) (va_A [(gx, .inr (11, [.ref gq1, .ref gq4, .ref gq13, .ref gq136, .ref gq137, .ref gq138, .ref gq172, .ref gq184, .ref gq150, .ref gq161, .int (-1)])), (gq1, .inr (0, [.ref gq2, .int 0, .int 0, .int 0, .int 0, .long 0, .int 0, .int 0])), (gq4, .inr (1, [.int 0, .ref gq1, .null, .int 0, .int 0, .int 0, .int 0, .ref gq5, .ref gq6, .int 0, .ref gq7, .ref gq8, .int 0, .ref gq9, .ref gq10, .ref gq11, .ref gq12, .int 0])), (gq161, .inr (2, [.int 0, .ref gq162, .ref gq163, .ref gq164, .ref gq165, .ref gq166, .ref gq167, .int 0, .ref gq168, .ref gq169, .ref gq170, .int 0, .ref gq171]))] sz)) 1 6 (va_A [(gx, .inr (11, [.ref gq1, .ref gq4, .ref gq13, .ref gq136, .ref gq137, .ref gq138, .ref gq172, .ref gq184, .ref gq150, .ref gq161, .int (-1)])), (gq1, .inr (0, [.ref gq2, .int 0, .int 0, .int 0, .int 0, .long 0, .int 0, .int 0])), (gq4, .inr (1, [.int 0, .ref gq1, .null, .int 0, .int 0, .int 0, .int 0, .ref gq5, .ref gq6, .int 0, .ref gq7, .ref gq8, .int 0, .ref gq9, .ref gq10, .ref gq11, .ref gq12, .int 0])), (gq161, .inr (2, [.int 0, .ref gq162, .ref gq163, .ref gq164, .ref gq165, .ref gq166, .ref gq167, .int 0, .ref gq168, .ref gq169, .ref gq170, .int 0, .ref gq171]))] sz) := by
  refine Met.ofW (cc := cX11_load) (maxL := 4) (ret := (Option.some Jvm.ClassFile.FieldType.int)) (by decide) rfl ?_
  intro p e s m args below meth c s₁ B hml hv
  obtain ⟨rfl, hsz, hP, hK, hD0, hE⟩ := hv
  have hx := B.exec
  have hb := B.bytes
  have hr := B.returns
  have hts0 := atoms_spec (ws := wz yX11_load cX11_load 4 (Option.some Jvm.ClassFile.FieldType.int)) B.pre
  have hts : ∀ w ∈ gw, w.before _ s = true := fun w h => hts0 w (List.mem_cons_of_mem _ h)
  have hown : s.vm.findClass RX11 = some m.cls := findClass_of_methodNamed B.named
  have hlocks := B.notSynchronized
  subst hsz
  have hD := hD0.self (sz := s.heap.size)
  generalize hAe : va_A [(gx, .inr (11, [.ref gq1, .ref gq4, .ref gq13, .ref gq136, .ref gq137, .ref gq138, .ref gq172, .ref gq184, .ref gq150, .ref gq161, .int (-1)])), (gq1, .inr (0, [.ref gq2, .int 0, .int 0, .int 0, .int 0, .long 0, .int 0, .int 0])), (gq4, .inr (1, [.int 0, .ref gq1, .null, .int 0, .int 0, .int 0, .int 0, .ref gq5, .ref gq6, .int 0, .ref gq7, .ref gq8, .int 0, .ref gq9, .ref gq10, .ref gq11, .ref gq12, .int 0])), (gq161, .inr (2, [.int 0, .ref gq162, .ref gq163, .ref gq164, .ref gq165, .ref gq166, .ref gq167, .int 0, .ref gq168, .ref gq169, .ref gq170, .int 0, .ref gq171]))] s.heap.size = A at hD hE ⊢
  have hA : ∀ q : Nat, s.heap.size ≤ q → A q := fun q h => by rw [← hAe]; exact Or.inr h
  have hS : va_S A s.heap s.heap [] := va_S.rf
  have hP : va_P (dC, dI) cls [(gx, .inr (11, [.ref gq1, .ref gq4, .ref gq13, .ref gq136, .ref gq137, .ref gq138, .ref gq172, .ref gq184, .ref gq150, .ref gq161, .int (-1)])), (gq1, .inr (0, [.ref gq2, .int 0, .int 0, .int 0, .int 0, .long 0, .int 0, .int 0])), (gq4, .inr (1, [.int 0, .ref gq1, .null, .int 0, .int 0, .int 0, .int 0, .ref gq5, .ref gq6, .int 0, .ref gq7, .ref gq8, .int 0, .ref gq9, .ref gq10, .ref gq11, .ref gq12, .int 0])), (gq161, .inr (2, [.int 0, .ref gq162, .ref gq163, .ref gq164, .ref gq165, .ref gq166, .ref gq167, .int 0, .ref gq168, .ref gq169, .ref gq170, .int 0, .ref gq171]))] s.heap := hP
  have hl := lv_entry ([.ref gx]) (n := 4) (Nat.le_of_ble_eq_true rfl)
  rw [lg_entry_eq]
  generalize (lg_sl ([.ref gx]) ++ List.replicate (4 - (lg_sl ([.ref gx])).length) Slot.unset).toArray = ls at hl ⊢
  have hl : lv_has ls 4 [(0, .ref gx)] := hl
  refine lv_aload_n hx hb dX11_load_0 rfl (lv_at hl 0 rfl) ?_
  refine va_get (D := (dC, dI)) (ci := 11) (v := .ref gq4) (C := RX11) (T := TX11) (N := 11) hx hb hts i_X11 hown hK hP 0 rfl rfl 1 (by decide) (hts _ qw161) (fun _ h9 => h9) rfl dX11_load_1 ?_
  refine lv_aload_n hx hb dX11_load_4 rfl (lv_at hl 0 rfl) ?_
  refine va_get (D := (dC, dI)) (ci := 11) (v := .ref gq161) (C := RX11) (T := TX11) (N := 11) hx hb hts i_X11 hown hK hP 0 rfl rfl 9 (by decide) (hts _ qw196) (fun _ h9 => h9) rfl dX11_load_5 ?_
  have hPc := hP.sub (ws' := [(gq1, .inr (0, [.ref gq2, .int 0, .int 0, .int 0, .int 0, .long 0, .int 0, .int 0])), (gq4, .inr (1, [.int 0, .ref gq1, .null, .int 0, .int 0, .int 0, .int 0, .ref gq5, .ref gq6, .int 0, .ref gq7, .ref gq8, .int 0, .ref gq9, .ref gq10, .ref gq11, .ref gq12, .int 0])), (gq161, .inr (2, [.int 0, .ref gq162, .ref gq163, .ref gq164, .ref gq165, .ref gq166, .ref gq167, .int 0, .ref gq168, .ref gq169, .ref gq170, .int 0, .ref gq171]))]) [1, 2, 3] rfl
  have hDc := hD.sub (ws' := [(gq1, .inr (0, [.ref gq2, .int 0, .int 0, .int 0, .int 0, .long 0, .int 0, .int 0])), (gq4, .inr (1, [.int 0, .ref gq1, .null, .int 0, .int 0, .int 0, .int 0, .ref gq5, .ref gq6, .int 0, .ref gq7, .ref gq8, .int 0, .ref gq9, .ref gq10, .ref gq11, .ref gq12, .int 0])), (gq161, .inr (2, [.int 0, .ref gq162, .ref gq163, .ref gq164, .ref gq165, .ref gq166, .ref gq167, .int 0, .ref gq168, .ref gq169, .ref gq170, .int 0, .ref gq171]))]) [1, 2, 3] (by decide) rfl
  have hKc := hK.sub (tys' := []) [] rfl
  have hFc := va_free (wc := [(gq1, .inr (0, [.ref gq2, .int 0, .int 0, .int 0, .int 0, .long 0, .int 0, .int 0])), (gq4, .inr (1, [.int 0, .ref gq1, .null, .int 0, .int 0, .int 0, .int 0, .ref gq5, .ref gq6, .int 0, .ref gq7, .ref gq8, .int 0, .ref gq9, .ref gq10, .ref gq11, .ref gq12, .int 0])), (gq161, .inr (2, [.int 0, .ref gq162, .ref gq163, .ref gq164, .ref gq165, .ref gq166, .ref gq167, .int 0, .ref gq168, .ref gq169, .ref gq170, .int 0, .ref gq171]))]) hD hS hA [1, 2, 3] rfl
  refine va_calli (vx_runVW (As := [.ref gq161]) (rest := []) ⟨hx, hb, hml, hown, hts⟩ (kX7_readProgram_n13 l dC dI (a0 := gq4) (a1 := gq161) (a3 := gq1) (a11 := gq2) (a13 := gq5) (a14 := gq6) (a15 := gq7) (a16 := gq8) (a17 := gq9) (a18 := gq10) (a19 := gq11) (a20 := gq12) (a42 := gq162) (a43 := gq163) (a44 := gq164) (a45 := gq165) (a46 := gq166) (a47 := gq167) (a48 := gq168) (a49 := gq169) (a50 := gq170) (a51 := gq171) (sz := _) (hl9 := hl9)) (vx_cwVW (C := RX7) 1 hts (gi_V qw313 qw314 qw315 qw157 (gi_h qw312)) rfl rfl rfl (by decide +kernel) ⟨Nat.le_of_ble_eq_true rfl, Nat.le_of_ble_eq_true rfl⟩) ⟨PRE.blind, va_recv hKc hPc (ci := 1) (q0 := 1) rfl rfl, PRE.of hE hS hFc hPc hKc hDc⟩ rfl rfl hl.1 rfl (lv_room (Nat.le_of_ble_eq_true rfl)) dX11_load_8 ⟨Nat.le_of_ble_eq_true rfl, Nat.le_of_ble_eq_true rfl⟩) hS (fun q _ h => hFc q h) hFc (fun r1 u t H locs ht hvm hw hB hz1 hk1 hS => ?_)
  obtain ⟨hP, hD, hK⟩ := JOIN (wr := [(gx, .inr (11, [.ref gq1, .ref gq4, .ref gq13, .ref gq136, .ref gq137, .ref gq138, .ref gq172, .ref gq184, .ref gq150, .ref gq161, .int (-1)]))]) hP hD hK [1, 2, 3] [0] [] rfl rfl (by decide) (by decide) rfl hk1 hFc ht hvm hB
  have hP : va_P (dC, dI) cls [(gx, .inr (11, [.ref gq1, .ref gq4, .ref gq13, .ref gq136, .ref gq137, .ref gq138, .ref gq172, .ref gq184, .ref gq150, .ref gq161, .int (-1)])), (gq161, .inr (2, [.int 0, .ref gq162, .ref gq163, .ref gq164, .ref gq165, .ref gq166, .ref gq167, .int 0, .ref gq168, .ref gq169, .ref gq170, .int 0, .ref gq171])), (gq1, .inr (0, [.ref gq2, .int 0, .int 0, .int 0, .int 0, .long 0, .int 0, .int 0])), (gq4, .inr (1, [.int 0, .ref gq1, .ref gq161, .int 0, .int 0, .int (-1), .int 0, .ref gq5, .ref gq6, .int 0, .ref gq7, .ref gq8, .int 0, .ref gq9, .ref gq10, .ref gq11, .ref gq12, .int 0]))] H := hP
  have hD : va_D A [(gx, .inr (11, [.ref gq1, .ref gq4, .ref gq13, .ref gq136, .ref gq137, .ref gq138, .ref gq172, .ref gq184, .ref gq150, .ref gq161, .int (-1)])), (gq161, .inr (2, [.int 0, .ref gq162, .ref gq163, .ref gq164, .ref gq165, .ref gq166, .ref gq167, .int 0, .ref gq168, .ref gq169, .ref gq170, .int 0, .ref gq171])), (gq1, .inr (0, [.ref gq2, .int 0, .int 0, .int 0, .int 0, .long 0, .int 0, .int 0])), (gq4, .inr (1, [.int 0, .ref gq1, .ref gq161, .int 0, .int 0, .int (-1), .int 0, .ref gq5, .ref gq6, .int 0, .ref gq7, .ref gq8, .int 0, .ref gq9, .ref gq10, .ref gq11, .ref gq12, .int 0]))] := hD
  have hK : va_K (dC, dI) cls [] s := hK
  refine W.widen (k := 1) (n := 6) (Nat.le_of_ble_eq_true rfl) (Nat.le_of_ble_eq_true rfl) ?_
  obtain rfl : r1 = 1 := hw
  refine lv_istore_n (lv' := [(1, .int 1), (0, .ref gx)]) hx hb dX11_load_11 rfl hl (by decide) rfl (fun ls hl => ?_)
  refine lv_aload_n hx hb dX11_load_12 rfl (lv_at hl 1 rfl) ?_
  refine va_get (D := (dC, dI)) (ci := 11) (v := .ref gq4) (C := RX11) (T := TX11) (N := 11) hx hb hts i_X11 hown hK hP 0 rfl rfl 1 (by decide) (hts _ qw161) (fun _ h9 => h9) rfl dX11_load_13 ?_
  refine va_get (D := (dC, dI)) (ci := 1) (v := .int 0) (C := RX7) (T := TX7) (N := 18) hx hb hts i_X7 hown hK hP 3 rfl rfl 0 (by decide) (hts _ qw316) (fun _ h9 => h9) rfl dX11_load_16 ?_
  refine lv_istore_n (lv' := [(2, .int 0), (1, .int 1), (0, .ref gx)]) hx hb dX11_load_19 rfl hl (by decide) rfl (fun ls hl => ?_)
  refine lv_aload_n hx hb dX11_load_20 rfl (lv_at hl 2 rfl) ?_
  refine va_get (D := (dC, dI)) (ci := 11) (v := .ref gq1) (C := RX11) (T := TX11) (N := 11) hx hb hts i_X11 hown hK hP 0 rfl rfl 0 (by decide) (hts _ qw154) (fun _ h9 => h9) rfl dX11_load_21 ?_
  refine lv_iconst (v := 0) hx hb dX11_load_24 (by decide) ?_
  refine va_put (D := (dC, dI)) (ci := 0) (v := .int 0) (ty := .int) (C := RX10) (T := TX10) (N := 8) hx hb hts i_X10 tyX10 tyX10_ok nmX10 hown hK hP hD hS 2 rfl rfl 1 (by decide) (hts _ qw207) (fun _ h9 => h9) rfl (by decide +kernel) rfl rfl (Nat.le_of_ble_eq_true rfl) dX11_load_25 (fun H locs hP hD hS => ?_)
  have hP : va_P (dC, dI) cls [(gx, .inr (11, [.ref gq1, .ref gq4, .ref gq13, .ref gq136, .ref gq137, .ref gq138, .ref gq172, .ref gq184, .ref gq150, .ref gq161, .int (-1)])), (gq161, .inr (2, [.int 0, .ref gq162, .ref gq163, .ref gq164, .ref gq165, .ref gq166, .ref gq167, .int 0, .ref gq168, .ref gq169, .ref gq170, .int 0, .ref gq171])), (gq1, .inr (0, [.ref gq2, .int 0, .int 0, .int 0, .int 0, .long 0, .int 0, .int 0])), (gq4, .inr (1, [.int 0, .ref gq1, .ref gq161, .int 0, .int 0, .int (-1), .int 0, .ref gq5, .ref gq6, .int 0, .ref gq7, .ref gq8, .int 0, .ref gq9, .ref gq10, .ref gq11, .ref gq12, .int 0]))] H := hP
  have hD : va_D A [(gx, .inr (11, [.ref gq1, .ref gq4, .ref gq13, .ref gq136, .ref gq137, .ref gq138, .ref gq172, .ref gq184, .ref gq150, .ref gq161, .int (-1)])), (gq161, .inr (2, [.int 0, .ref gq162, .ref gq163, .ref gq164, .ref gq165, .ref gq166, .ref gq167, .int 0, .ref gq168, .ref gq169, .ref gq170, .int 0, .ref gq171])), (gq1, .inr (0, [.ref gq2, .int 0, .int 0, .int 0, .int 0, .long 0, .int 0, .int 0])), (gq4, .inr (1, [.int 0, .ref gq1, .ref gq161, .int 0, .int 0, .int (-1), .int 0, .ref gq5, .ref gq6, .int 0, .ref gq7, .ref gq8, .int 0, .ref gq9, .ref gq10, .ref gq11, .ref gq12, .int 0]))] := hD
  refine lv_iconst (v := 0) hx hb dX11_load_28 (by decide) ?_
  refine lv_istore_n (lv' := [(3, .int 0), (2, .int 0), (1, .int 1), (0, .ref gx)]) hx hb dX11_load_29 rfl hl (by decide) rfl (fun ls hl => ?_)
  refine lv_iload_n hx hb dX11_load_30 rfl (lv_at hl 2 rfl) ?_
  refine lv_if_ne (tgt := 86) hx hb dX11_load_31 (by decide) (fun _ => ?_) (fun c => absurd c (by decide))
  refine lv_aload_n hx hb dX11_load_86 rfl (lv_at hl 3 rfl) ?_
  refine lv_iload_n hx hb dX11_load_87 rfl (lv_at hl 2 rfl) ?_
  refine lv_if_ne (tgt := 95) hx hb dX11_load_88 (by decide) (fun _ => ?_) (fun c => absurd c (by decide))
  refine lv_iload_n hx hb dX11_load_95 rfl (lv_at hl 1 rfl) ?_
  refine va_put (D := (dC, dI)) (ci := 11) (v := .int 0) (ty := .int) (C := RX11) (T := TX11) (N := 11) hx hb hts i_X11 tyX11 tyX11_ok nmX11 hown hK hP hD hS 0 rfl rfl 10 (by decide) (hts _ qw206) (fun _ h9 => h9) rfl (by decide +kernel) rfl rfl (Nat.le_of_ble_eq_true rfl) dX11_load_96 (fun H locs hP hD hS => ?_)
  have hP : va_P (dC, dI) cls [(gx, .inr (11, [.ref gq1, .ref gq4, .ref gq13, .ref gq136, .ref gq137, .ref gq138, .ref gq172, .ref gq184, .ref gq150, .ref gq161, .int 0])), (gq161, .inr (2, [.int 0, .ref gq162, .ref gq163, .ref gq164, .ref gq165, .ref gq166, .ref gq167, .int 0, .ref gq168, .ref gq169, .ref gq170, .int 0, .ref gq171])), (gq1, .inr (0, [.ref gq2, .int 0, .int 0, .int 0, .int 0, .long 0, .int 0, .int 0])), (gq4, .inr (1, [.int 0, .ref gq1, .ref gq161, .int 0, .int 0, .int (-1), .int 0, .ref gq5, .ref gq6, .int 0, .ref gq7, .ref gq8, .int 0, .ref gq9, .ref gq10, .ref gq11, .ref gq12, .int 0]))] H := hP
  have hD : va_D A [(gx, .inr (11, [.ref gq1, .ref gq4, .ref gq13, .ref gq136, .ref gq137, .ref gq138, .ref gq172, .ref gq184, .ref gq150, .ref gq161, .int 0])), (gq161, .inr (2, [.int 0, .ref gq162, .ref gq163, .ref gq164, .ref gq165, .ref gq166, .ref gq167, .int 0, .ref gq168, .ref gq169, .ref gq170, .int 0, .ref gq171])), (gq1, .inr (0, [.ref gq2, .int 0, .int 0, .int 0, .int 0, .long 0, .int 0, .int 0])), (gq4, .inr (1, [.int 0, .ref gq1, .ref gq161, .int 0, .int 0, .int (-1), .int 0, .ref gq5, .ref gq6, .int 0, .ref gq7, .ref gq8, .int 0, .ref gq9, .ref gq10, .ref gq11, .ref gq12, .int 0]))] := hD
  refine lv_iload_n hx hb dX11_load_99 rfl (lv_at hl 2 rfl) ?_
  refine lv_if_ne (tgt := 137) hx hb dX11_load_100 (by decide) (fun _ => ?_) (fun c => absurd c (by decide))
  refine lv_iload_n hx hb dX11_load_137 rfl (lv_at hl 2 rfl) ?_
  have hP9 : va_P (dC, dI) cls [] H := hP.sub [] rfl
  have hD9 : va_D A [] := hD.sub [] (by decide) rfl
  have hK9 : va_K (dC, dI) cls [] s := hK.sub [] rfl
  exact W.iret (v := 1) hx hb hr (fun t ht hW => ⟨⟨1, (), rfl, rfl, ⟨by rw [ht]; exact hP9, va_K.moved hW.alike hK9, hD9⟩⟩, hS.F ht⟩) hS.2.2 dX11_load_138
