def RX12 : String := "GearboxModel$Block"
def RX13 : String := "GearboxModel$Code"
def RX14 : String := "GearboxModel$Graph"
abbrev cX20_init : ByteArray := prog_23_method_1_code
def yX20_init : MethodName := ⟨RX20, "<init>", "()V"⟩
abbrev cX22_init : ByteArray := prog_25_method_1_code
def yX22_init : MethodName := ⟨RX22, "<init>", "()V"⟩
abbrev cX21_init : ByteArray := prog_24_method_1_code
def yX21_init : MethodName := ⟨RX21, "<init>", "()V"⟩
abbrev cX24_init : ByteArray := prog_14_method_7_code
def yX24_init : MethodName := ⟨RX24, "<init>", "()V"⟩
theorem dX20_init_0 : decode cX20_init 0 = .ok (.aload_n 0, 1) := by decide +kernel
theorem dX20_init_1 : decode cX20_init 1 = .ok (.invokespecial 1, 3) := by decide +kernel
theorem dX20_init_4 : decode cX20_init 4 = .ok (.aload_n 0, 1) := by decide +kernel
theorem dX20_init_5 : decode cX20_init 5 = .ok (.bipush 8, 2) := by decide +kernel
theorem dX20_init_7 : decode cX20_init 7 = .ok (.newarray .int, 2) := by decide +kernel
theorem dX20_init_9 : decode cX20_init 9 = .ok (.putfield 7, 3) := by decide +kernel
theorem dX20_init_12 : decode cX20_init 12 = .ok (.return_, 1) := by decide +kernel
theorem dX21_init_0 : decode cX21_init 0 = .ok (.aload_n 0, 1) := by decide +kernel
theorem dX21_init_1 : decode cX21_init 1 = .ok (.invokespecial 3, 3) := by decide +kernel
theorem dX21_init_4 : decode cX21_init 4 = .ok (.aload_n 0, 1) := by decide +kernel
theorem dX21_init_5 : decode cX21_init 5 = .ok (.bipush 16, 2) := by decide +kernel
theorem dX21_init_7 : decode cX21_init 7 = .ok (.newarray .int, 2) := by decide +kernel
theorem dX21_init_9 : decode cX21_init 9 = .ok (.putfield 9, 3) := by decide +kernel
theorem dX21_init_12 : decode cX21_init 12 = .ok (.aload_n 0, 1) := by decide +kernel
theorem dX21_init_13 : decode cX21_init 13 = .ok (.iconst 0, 1) := by decide +kernel
theorem dX21_init_14 : decode cX21_init 14 = .ok (.anewarray 15, 3) := by decide +kernel
theorem dX21_init_17 : decode cX21_init 17 = .ok (.putfield 17, 3) := by decide +kernel
theorem dX21_init_20 : decode cX21_init 20 = .ok (.aload_n 0, 1) := by decide +kernel
theorem dX21_init_21 : decode cX21_init 21 = .ok (.iconst 0, 1) := by decide +kernel
theorem dX21_init_22 : decode cX21_init 22 = .ok (.anewarray 21, 3) := by decide +kernel
theorem dX21_init_25 : decode cX21_init 25 = .ok (.putfield 23, 3) := by decide +kernel
theorem dX21_init_28 : decode cX21_init 28 = .ok (.aload_n 0, 1) := by decide +kernel
theorem dX21_init_29 : decode cX21_init 29 = .ok (.new 27, 3) := by decide +kernel
theorem dX21_init_32 : decode cX21_init 32 = .ok (.dup, 1) := by decide +kernel
theorem dX21_init_33 : decode cX21_init 33 = .ok (.invokespecial 29, 3) := by decide +kernel
theorem dX21_init_36 : decode cX21_init 36 = .ok (.putfield 30, 3) := by decide +kernel
theorem dX21_init_39 : decode cX21_init 39 = .ok (.aload_n 0, 1) := by decide +kernel
theorem dX21_init_40 : decode cX21_init 40 = .ok (.new 27, 3) := by decide +kernel
theorem dX21_init_43 : decode cX21_init 43 = .ok (.dup, 1) := by decide +kernel
theorem dX21_init_44 : decode cX21_init 44 = .ok (.invokespecial 29, 3) := by decide +kernel
theorem dX21_init_47 : decode cX21_init 47 = .ok (.putfield 34, 3) := by decide +kernel
theorem dX21_init_50 : decode cX21_init 50 = .ok (.aload_n 0, 1) := by decide +kernel
theorem dX21_init_51 : decode cX21_init 51 = .ok (.new 27, 3) := by decide +kernel
theorem dX21_init_54 : decode cX21_init 54 = .ok (.dup, 1) := by decide +kernel
theorem dX21_init_55 : decode cX21_init 55 = .ok (.invokespecial 29, 3) := by decide +kernel
theorem dX21_init_58 : decode cX21_init 58 = .ok (.putfield 37, 3) := by decide +kernel
theorem dX21_init_61 : decode cX21_init 61 = .ok (.aload_n 0, 1) := by decide +kernel
theorem dX21_init_62 : decode cX21_init 62 = .ok (.bipush 8, 2) := by decide +kernel
theorem dX21_init_64 : decode cX21_init 64 = .ok (.anewarray 40, 3) := by decide +kernel
theorem dX21_init_67 : decode cX21_init 67 = .ok (.putfield 41, 3) := by decide +kernel
theorem dX21_init_70 : decode cX21_init 70 = .ok (.aload_n 0, 1) := by decide +kernel
theorem dX21_init_71 : decode cX21_init 71 = .ok (.bipush 8, 2) := by decide +kernel
theorem dX21_init_73 : decode cX21_init 73 = .ok (.newarray .int, 2) := by decide +kernel
theorem dX21_init_75 : decode cX21_init 75 = .ok (.putfield 45, 3) := by decide +kernel
theorem dX21_init_78 : decode cX21_init 78 = .ok (.aload_n 0, 1) := by decide +kernel
theorem dX21_init_79 : decode cX21_init 79 = .ok (.bipush 8, 2) := by decide +kernel
theorem dX21_init_81 : decode cX21_init 81 = .ok (.newarray .int, 2) := by decide +kernel
theorem dX21_init_83 : decode cX21_init 83 = .ok (.putfield 48, 3) := by decide +kernel
theorem dX21_init_86 : decode cX21_init 86 = .ok (.aload_n 0, 1) := by decide +kernel
theorem dX21_init_87 : decode cX21_init 87 = .ok (.bipush 8, 2) := by decide +kernel
theorem dX21_init_89 : decode cX21_init 89 = .ok (.anewarray 51, 3) := by decide +kernel
theorem dX21_init_92 : decode cX21_init 92 = .ok (.putfield 53, 3) := by decide +kernel
theorem dX21_init_95 : decode cX21_init 95 = .ok (.aload_n 0, 1) := by decide +kernel
theorem dX21_init_96 : decode cX21_init 96 = .ok (.new 27, 3) := by decide +kernel
theorem dX21_init_99 : decode cX21_init 99 = .ok (.dup, 1) := by decide +kernel
theorem dX21_init_100 : decode cX21_init 100 = .ok (.invokespecial 29, 3) := by decide +kernel
theorem dX21_init_103 : decode cX21_init 103 = .ok (.putfield 57, 3) := by decide +kernel
theorem dX21_init_106 : decode cX21_init 106 = .ok (.aload_n 0, 1) := by decide +kernel
theorem dX21_init_107 : decode cX21_init 107 = .ok (.bipush 16, 2) := by decide +kernel
theorem dX21_init_109 : decode cX21_init 109 = .ok (.newarray .int, 2) := by decide +kernel
theorem dX21_init_111 : decode cX21_init 111 = .ok (.putfield 60, 3) := by decide +kernel
theorem dX21_init_114 : decode cX21_init 114 = .ok (.return_, 1) := by decide +kernel
theorem dX22_init_0 : decode cX22_init 0 = .ok (.aload_n 0, 1) := by decide +kernel
theorem dX22_init_1 : decode cX22_init 1 = .ok (.invokespecial 3, 3) := by decide +kernel
theorem dX22_init_4 : decode cX22_init 4 = .ok (.aload_n 0, 1) := by decide +kernel
theorem dX22_init_5 : decode cX22_init 5 = .ok (.iconst 1, 1) := by decide +kernel
theorem dX22_init_6 : decode cX22_init 6 = .ok (.putfield 9, 3) := by decide +kernel
theorem dX22_init_9 : decode cX22_init 9 = .ok (.aload_n 0, 1) := by decide +kernel
theorem dX22_init_10 : decode cX22_init 10 = .ok (.sipush 2000, 3) := by decide +kernel
theorem dX22_init_13 : decode cX22_init 13 = .ok (.newarray .int, 2) := by decide +kernel
theorem dX22_init_15 : decode cX22_init 15 = .ok (.putfield 15, 3) := by decide +kernel
theorem dX22_init_18 : decode cX22_init 18 = .ok (.aload_n 0, 1) := by decide +kernel
theorem dX22_init_19 : decode cX22_init 19 = .ok (.sipush 2000, 3) := by decide +kernel
theorem dX22_init_22 : decode cX22_init 22 = .ok (.newarray .int, 2) := by decide +kernel
theorem dX22_init_24 : decode cX22_init 24 = .ok (.putfield 19, 3) := by decide +kernel
theorem dX22_init_27 : decode cX22_init 27 = .ok (.aload_n 0, 1) := by decide +kernel
theorem dX22_init_28 : decode cX22_init 28 = .ok (.sipush 2000, 3) := by decide +kernel
theorem dX22_init_31 : decode cX22_init 31 = .ok (.newarray .int, 2) := by decide +kernel
theorem dX22_init_33 : decode cX22_init 33 = .ok (.putfield 22, 3) := by decide +kernel
theorem dX22_init_36 : decode cX22_init 36 = .ok (.aload_n 0, 1) := by decide +kernel
theorem dX22_init_37 : decode cX22_init 37 = .ok (.sipush 2000, 3) := by decide +kernel
theorem dX22_init_40 : decode cX22_init 40 = .ok (.newarray .int, 2) := by decide +kernel
theorem dX22_init_42 : decode cX22_init 42 = .ok (.putfield 25, 3) := by decide +kernel
theorem dX22_init_45 : decode cX22_init 45 = .ok (.aload_n 0, 1) := by decide +kernel
theorem dX22_init_46 : decode cX22_init 46 = .ok (.sipush 2000, 3) := by decide +kernel
theorem dX22_init_49 : decode cX22_init 49 = .ok (.newarray .int, 2) := by decide +kernel
theorem dX22_init_51 : decode cX22_init 51 = .ok (.putfield 28, 3) := by decide +kernel
theorem dX22_init_54 : decode cX22_init 54 = .ok (.aload_n 0, 1) := by decide +kernel
theorem dX22_init_55 : decode cX22_init 55 = .ok (.sipush 2000, 3) := by decide +kernel
theorem dX22_init_58 : decode cX22_init 58 = .ok (.newarray .int, 2) := by decide +kernel
theorem dX22_init_60 : decode cX22_init 60 = .ok (.putfield 31, 3) := by decide +kernel
theorem dX22_init_63 : decode cX22_init 63 = .ok (.aload_n 0, 1) := by decide +kernel
theorem dX22_init_64 : decode cX22_init 64 = .ok (.sipush 2000, 3) := by decide +kernel
theorem dX22_init_67 : decode cX22_init 67 = .ok (.newarray .int, 2) := by decide +kernel
theorem dX22_init_69 : decode cX22_init 69 = .ok (.putfield 34, 3) := by decide +kernel
theorem dX22_init_72 : decode cX22_init 72 = .ok (.aload_n 0, 1) := by decide +kernel
theorem dX22_init_73 : decode cX22_init 73 = .ok (.sipush 2000, 3) := by decide +kernel
theorem dX22_init_76 : decode cX22_init 76 = .ok (.newarray .int, 2) := by decide +kernel
theorem dX22_init_78 : decode cX22_init 78 = .ok (.putfield 37, 3) := by decide +kernel
theorem dX22_init_81 : decode cX22_init 81 = .ok (.aload_n 0, 1) := by decide +kernel
theorem dX22_init_82 : decode cX22_init 82 = .ok (.bipush 7, 2) := by decide +kernel
theorem dX22_init_84 : decode cX22_init 84 = .ok (.newarray .int, 2) := by decide +kernel
theorem dX22_init_86 : decode cX22_init 86 = .ok (.putfield 40, 3) := by decide +kernel
theorem dX22_init_89 : decode cX22_init 89 = .ok (.aload_n 0, 1) := by decide +kernel
theorem dX22_init_90 : decode cX22_init 90 = .ok (.bipush 7, 2) := by decide +kernel
theorem dX22_init_92 : decode cX22_init 92 = .ok (.newarray .int, 2) := by decide +kernel
theorem dX22_init_94 : decode cX22_init 94 = .ok (.putfield 43, 3) := by decide +kernel
theorem dX22_init_97 : decode cX22_init 97 = .ok (.aload_n 0, 1) := by decide +kernel
theorem dX22_init_98 : decode cX22_init 98 = .ok (.bipush 7, 2) := by decide +kernel
theorem dX22_init_100 : decode cX22_init 100 = .ok (.newarray .int, 2) := by decide +kernel
theorem dX22_init_102 : decode cX22_init 102 = .ok (.putfield 46, 3) := by decide +kernel
theorem dX22_init_105 : decode cX22_init 105 = .ok (.aload_n 0, 1) := by decide +kernel
theorem dX22_init_106 : decode cX22_init 106 = .ok (.bipush 7, 2) := by decide +kernel
theorem dX22_init_108 : decode cX22_init 108 = .ok (.newarray .int, 2) := by decide +kernel
theorem dX22_init_110 : decode cX22_init 110 = .ok (.putfield 49, 3) := by decide +kernel
theorem dX22_init_113 : decode cX22_init 113 = .ok (.aload_n 0, 1) := by decide +kernel
theorem dX22_init_114 : decode cX22_init 114 = .ok (.bipush 7, 2) := by decide +kernel
theorem dX22_init_116 : decode cX22_init 116 = .ok (.newarray .int, 2) := by decide +kernel
theorem dX22_init_118 : decode cX22_init 118 = .ok (.putfield 52, 3) := by decide +kernel
theorem dX22_init_121 : decode cX22_init 121 = .ok (.return_, 1) := by decide +kernel
theorem dX24_init_0 : decode cX24_init 0 = .ok (.aload_n 0, 1) := by decide +kernel
theorem dX24_init_1 : decode cX24_init 1 = .ok (.invokespecial 9, 3) := by decide +kernel
theorem dX24_init_4 : decode cX24_init 4 = .ok (.aload_n 0, 1) := by decide +kernel
theorem dX24_init_5 : decode cX24_init 5 = .ok (.sipush 1200, 3) := by decide +kernel
theorem dX24_init_8 : decode cX24_init 8 = .ok (.newarray .int, 2) := by decide +kernel
theorem dX24_init_10 : decode cX24_init 10 = .ok (.putfield 15, 3) := by decide +kernel
theorem dX24_init_13 : decode cX24_init 13 = .ok (.aload_n 0, 1) := by decide +kernel
theorem dX24_init_14 : decode cX24_init 14 = .ok (.iconst (-1), 1) := by decide +kernel
theorem dX24_init_15 : decode cX24_init 15 = .ok (.putfield 19, 3) := by decide +kernel
theorem dX24_init_18 : decode cX24_init 18 = .ok (.aload_n 0, 1) := by decide +kernel
theorem dX24_init_19 : decode cX24_init 19 = .ok (.new 23, 3) := by decide +kernel
theorem dX24_init_22 : decode cX24_init 22 = .ok (.dup, 1) := by decide +kernel
theorem dX24_init_23 : decode cX24_init 23 = .ok (.invokespecial 25, 3) := by decide +kernel
theorem dX24_init_26 : decode cX24_init 26 = .ok (.putfield 26, 3) := by decide +kernel
theorem dX24_init_29 : decode cX24_init 29 = .ok (.aload_n 0, 1) := by decide +kernel
theorem dX24_init_30 : decode cX24_init 30 = .ok (.iconst 0, 1) := by decide +kernel
theorem dX24_init_31 : decode cX24_init 31 = .ok (.anewarray 30, 3) := by decide +kernel
theorem dX24_init_34 : decode cX24_init 34 = .ok (.putfield 32, 3) := by decide +kernel
theorem dX24_init_37 : decode cX24_init 37 = .ok (.aload_n 0, 1) := by decide +kernel
theorem dX24_init_38 : decode cX24_init 38 = .ok (.iconst 0, 1) := by decide +kernel
theorem dX24_init_39 : decode cX24_init 39 = .ok (.anewarray 36, 3) := by decide +kernel
theorem dX24_init_42 : decode cX24_init 42 = .ok (.putfield 38, 3) := by decide +kernel
theorem dX24_init_45 : decode cX24_init 45 = .ok (.aload_n 0, 1) := by decide +kernel
theorem dX24_init_46 : decode cX24_init 46 = .ok (.new 42, 3) := by decide +kernel
theorem dX24_init_49 : decode cX24_init 49 = .ok (.dup, 1) := by decide +kernel
theorem dX24_init_50 : decode cX24_init 50 = .ok (.invokespecial 44, 3) := by decide +kernel
theorem dX24_init_53 : decode cX24_init 53 = .ok (.putfield 45, 3) := by decide +kernel
theorem dX24_init_56 : decode cX24_init 56 = .ok (.aload_n 0, 1) := by decide +kernel
theorem dX24_init_57 : decode cX24_init 57 = .ok (.new 42, 3) := by decide +kernel
theorem dX24_init_60 : decode cX24_init 60 = .ok (.dup, 1) := by decide +kernel
theorem dX24_init_61 : decode cX24_init 61 = .ok (.invokespecial 44, 3) := by decide +kernel
theorem dX24_init_64 : decode cX24_init 64 = .ok (.putfield 49, 3) := by decide +kernel
theorem dX24_init_67 : decode cX24_init 67 = .ok (.return_, 1) := by decide +kernel
theorem qw341 : Cond.methodLink RX20 1 objectInit ∈ gw := mq_12 (i := 26) rfl rfl
theorem qw342 : Cond.fieldLink RX20 7 "GearboxModel$Row" "at" "[I" ∈ gw := mq_12 (i := 27) rfl rfl
theorem qw343 : Cond.methodLink RX22 3 objectInit ∈ gw := mq_11 (i := 169) rfl rfl
theorem qw344 : Cond.fieldLink RX22 9 "GearboxModel$Text" "knots" "I" ∈ gw := mq_11 (i := 170) rfl rfl
theorem qw345 : Cond.fieldLink RX22 15 "GearboxModel$Text" "sort" "[I" ∈ gw := mq_11 (i := 172) rfl rfl
theorem qw346 : Cond.fieldLink RX22 19 "GearboxModel$Text" "a" "[I" ∈ gw := mq_11 (i := 176) rfl rfl
theorem qw347 : Cond.fieldLink RX22 22 "GearboxModel$Text" "b" "[I" ∈ gw := mq_11 (i := 180) rfl rfl
theorem qw348 : Cond.fieldLink RX22 25 "GearboxModel$Text" "c" "[I" ∈ gw := mq_11 (i := 184) rfl rfl
theorem qw349 : Cond.fieldLink RX22 28 "GearboxModel$Text" "d" "[I" ∈ gw := mq_11 (i := 188) rfl rfl
theorem qw350 : Cond.fieldLink RX22 31 "GearboxModel$Text" "next" "[I" ∈ gw := mq_11 (i := 191) rfl rfl
theorem qw351 : Cond.fieldLink RX22 34 "GearboxModel$Text" "at" "[I" ∈ gw := mq_11 (i := 195) rfl rfl
theorem qw352 : Cond.fieldLink RX22 37 "GearboxModel$Text" "high" "[I" ∈ gw := mq_11 (i := 197) rfl rfl
theorem qw353 : Cond.fieldLink RX22 40 "GearboxModel$Text" "name" "[I" ∈ gw := mq_11 (i := 201) rfl rfl
theorem qw354 : Cond.fieldLink RX22 43 "GearboxModel$Text" "nameAt" "[I" ∈ gw := mq_11 (i := 203) rfl rfl
theorem qw355 : Cond.fieldLink RX22 46 "GearboxModel$Text" "parameters" "[I" ∈ gw := mq_11 (i := 206) rfl rfl
theorem qw356 : Cond.fieldLink RX22 49 "GearboxModel$Text" "variables" "[I" ∈ gw := mq_11 (i := 211) rfl rfl
theorem qw357 : Cond.fieldLink RX22 52 "GearboxModel$Text" "body" "[I" ∈ gw := mq_11 (i := 214) rfl rfl
theorem qw358 : Cond.methodLink RX21 3 objectInit ∈ gw := mq_12 (i := 18) rfl rfl
theorem qw359 : Cond.fieldLink RX21 9 "GearboxModel$Runner" "memory" "[I" ∈ gw := mq_12 (i := 49) rfl rfl
theorem qw360 : Cond.classLink RX21 15 RX14 ∈ gw := mq_12 (i := 19) rfl rfl
theorem qw361 : Cond.fieldLink RX21 17 "GearboxModel$Runner" "graphs" "[LGearboxModel$Graph;" ∈ gw := mq_12 (i := 59) rfl rfl
theorem qw362 : Cond.classLink RX21 21 RX13 ∈ gw := mq_12 (i := 20) rfl rfl
theorem qw363 : Cond.fieldLink RX21 23 "GearboxModel$Runner" "codes" "[LGearboxModel$Code;" ∈ gw := mq_12 (i := 61) rfl rfl
theorem qw364 : Cond.classLink RX21 27 RX20 ∈ gw := mq_12 (i := 21) rfl rfl
theorem qw365 : Cond.instantiable RX20 2 ∈ gw := mq_12 (i := 22) rfl rfl
theorem qw366 : Cond.initialized RX20 ∈ gw := mq_1 (i := 16) rfl rfl
theorem qw367 : Cond.code yX20_init cX20_init 1 (Option.none : Option Jvm.ClassFile.FieldType) ∈ gw := mq_12 (i := 25) rfl rfl
theorem qw368 : Cond.instanceMethod yX20_init ∈ gw := mq_12 (i := 24) rfl rfl
theorem qw369 : Cond.fieldLink RX21 30 "GearboxModel$Runner" "todo" "LGearboxModel$Row;" ∈ gw := mq_12 (i := 63) rfl rfl
theorem qw370 : Cond.fieldLink RX21 34 "GearboxModel$Runner" "values" "LGearboxModel$Row;" ∈ gw := mq_12 (i := 64) rfl rfl
theorem qw371 : Cond.fieldLink RX21 37 "GearboxModel$Runner" "variables" "LGearboxModel$Row;" ∈ gw := mq_12 (i := 65) rfl rfl
theorem qw372 : Cond.classLink RX21 40 "[I" ∈ gw := mq_12 (i := 46) rfl rfl
theorem qw373 : Cond.fieldLink RX21 41 "GearboxModel$Runner" "own" "[[I" ∈ gw := mq_12 (i := 68) rfl rfl
theorem qw374 : Cond.fieldLink RX21 45 "GearboxModel$Runner" "runs" "[I" ∈ gw := mq_12 (i := 69) rfl rfl
theorem qw375 : Cond.fieldLink RX21 48 "GearboxModel$Runner" "at" "[I" ∈ gw := mq_12 (i := 70) rfl rfl
theorem qw376 : Cond.classLink RX21 51 RX12 ∈ gw := mq_12 (i := 47) rfl rfl
theorem qw377 : Cond.fieldLink RX21 53 "GearboxModel$Runner" "block" "[LGearboxModel$Block;" ∈ gw := mq_12 (i := 71) rfl rfl
theorem qw378 : Cond.fieldLink RX21 57 "GearboxModel$Runner" "given" "LGearboxModel$Row;" ∈ gw := mq_12 (i := 72) rfl rfl
theorem qw379 : Cond.fieldLink RX21 60 "GearboxModel$Runner" "taken" "[I" ∈ gw := mq_12 (i := 73) rfl rfl
theorem qw380 : Cond.methodLink RX24 9 objectInit ∈ gw := mq_11 (i := 163) rfl rfl
theorem qw381 : Cond.fieldLink RX24 15 "GearboxModel" "tape" "[I" ∈ gw := mq_12 (i := 111) rfl rfl
theorem qw382 : Cond.fieldLink RX24 19 "GearboxModel" "errorAt" "I" ∈ gw := mq_12 (i := 113) rfl rfl
theorem qw383 : Cond.classLink RX24 23 RX22 ∈ gw := mq_11 (i := 164) rfl rfl
theorem qw384 : Cond.instantiable RX22 15 ∈ gw := mq_11 (i := 165) rfl rfl
theorem qw385 : Cond.initialized RX22 ∈ gw := mq_1 (i := 14) rfl rfl
theorem qw386 : Cond.code yX22_init cX22_init 1 (Option.none : Option Jvm.ClassFile.FieldType) ∈ gw := mq_11 (i := 168) rfl rfl
theorem qw387 : Cond.instanceMethod yX22_init ∈ gw := mq_11 (i := 167) rfl rfl
theorem qw388 : Cond.fieldLink RX24 26 "GearboxModel" "program" "LGearboxModel$Text;" ∈ gw := mq_12 (i := 115) rfl rfl
theorem qw389 : Cond.classLink RX24 30 RX14 ∈ gw := mq_12 (i := 9) rfl rfl
theorem qw390 : Cond.fieldLink RX24 32 "GearboxModel" "graphs" "[LGearboxModel$Graph;" ∈ gw := mq_12 (i := 116) rfl rfl
theorem qw391 : Cond.classLink RX24 36 RX13 ∈ gw := mq_12 (i := 11) rfl rfl
theorem qw392 : Cond.fieldLink RX24 38 "GearboxModel" "codes" "[LGearboxModel$Code;" ∈ gw := mq_12 (i := 117) rfl rfl
theorem qw393 : Cond.classLink RX24 42 RX21 ∈ gw := mq_12 (i := 13) rfl rfl
theorem qw394 : Cond.instantiable RX21 18 ∈ gw := mq_12 (i := 14) rfl rfl
theorem qw395 : Cond.initialized RX21 ∈ gw := mq_1 (i := 15) rfl rfl
theorem qw396 : Cond.code yX21_init cX21_init 1 (Option.none : Option Jvm.ClassFile.FieldType) ∈ gw := mq_12 (i := 17) rfl rfl
theorem qw397 : Cond.instanceMethod yX21_init ∈ gw := mq_12 (i := 16) rfl rfl
theorem qw398 : Cond.fieldLink RX24 45 "GearboxModel" "runner" "LGearboxModel$Runner;" ∈ gw := mq_12 (i := 118) rfl rfl
theorem qw399 : Cond.fieldLink RX24 49 "GearboxModel" "trial" "LGearboxModel$Runner;" ∈ gw := mq_12 (i := 119) rfl rfl
set_option maxHeartbeats 4000000 in
set_option maxRecDepth 100000 in
theorem kX20_init {zs : Nat × Nat} (l : Launch) (dC : Nat → ClassId) (dI : Nat → Nat → Nat) (h0 : Nat) (sz : Nat)  : Met l yX20_init (wz yX20_init cX20_init 1 (Option.none : Option Jvm.ClassFile.FieldType)) ({ frames := 1, cells := 1, slots := 8, locals := 12 }) (va_Pc [.ref h0] (PRE zs dC dI [(h0, .inr (12, [.null, .int 0]))] [] sz)) (va_Qv (fun (_ : Unit) => True) (fun _ t => POST dC dI [] [] (va_A [(h0, .inr (12, [.null, .int 0]))] sz) t) (va_A [(h0, .inr (12, [.null, .int 0]))] sz)) 1 8 (va_A [(h0, .inr (12, [.null, .int 0]))] sz) := by
  refine Met.ofW (cc := cX20_init) (maxL := 1) (ret := (Option.none : Option Jvm.ClassFile.FieldType)) (by decide) rfl ?_
  intro p e s m args below meth c s₁ B hml hv
  obtain ⟨rfl, hsz, hP, hK, hD0, hE⟩ := hv
  have hx := B.exec
  have hb := B.bytes
  have hr := B.returns
  have hts0 := atoms_spec (ws := wz yX20_init cX20_init 1 (Option.none : Option Jvm.ClassFile.FieldType)) B.pre
  have hts : ∀ w ∈ gw, w.before _ s = true := fun w h => hts0 w (List.mem_cons_of_mem _ h)
  have hown : s.vm.findClass RX20 = some m.cls := findClass_of_methodNamed B.named
  have hlocks := B.notSynchronized
  have hin : meth.name = "<init>" := (name_of_methodNamed B.named B.method).1
  subst hsz
  have hD := hD0.self (sz := s.heap.size)
  generalize hAe : va_A [(h0, .inr (12, [.null, .int 0]))] s.heap.size = A at hD hE ⊢
  have hA : ∀ q : Nat, s.heap.size ≤ q → A q := fun q h => by rw [← hAe]; exact Or.inr h
  have hS : va_S A s.heap s.heap [] := va_S.rf
  have hP : va_P (dC, dI) cls [(h0, .inr (12, [.null, .int 0]))] s.heap := hP
  have hl := lv_entry ([.ref h0]) (n := 1) (Nat.le_of_ble_eq_true rfl)
  rw [lg_entry_eq]
  generalize (lg_sl ([.ref h0]) ++ List.replicate (1 - (lg_sl ([.ref h0])).length) Slot.unset).toArray = ls at hl ⊢
  have hl : lv_has ls 1 [(0, .ref h0)] := hl
  refine lv_aload_n hx hb dX20_init_0 rfl (lv_at hl 0 rfl) ?_
  refine W.objInit hx hb hown (hts _ qw341) (hts _ qw1) (hts _ qw_oi) rfl (by rw [hml]; exact hl.1) rfl dX20_init_1 (Nat.le_of_ble_eq_true rfl) (Nat.le_of_ble_eq_true rfl) ?_
  refine W.eq (g2 := F0 m 4 ls []) rfl ?_
  refine lv_aload_n hx hb dX20_init_4 rfl (lv_at hl 0 rfl) ?_
  refine lv_bipush (v := 8) hx hb dX20_init_5 (by decide) ?_
  refine va_newa (atype := .int) (ty := .int) hx hb (hts _ qw2) rfl hK hP hD hS hA (a0 := (8, .inl (fun _ => 0))) (fun _ => rfl) (by decide) (by decide +kernel) (Nat.le_of_ble_eq_true rfl) (Nat.le_of_ble_eq_true rfl) (Nat.le_of_ble_eq_true rfl) dX20_init_7 (fun q1 c2 H hK hP hD hS => ?_)
  have hP : va_P (dC, dI) cls [(h0, .inr (12, [.null, .int 0])), (q1, .inl (c2, 8, .inl (fun _ => 0)))] H := hP
  have hD : va_D A [(h0, .inr (12, [.null, .int 0])), (q1, .inl (c2, 8, .inl (fun _ => 0)))] := hD
  have hK : va_K (dC, dI) cls [(c2, .int)] s := hK
  have hP : va_P (dC, dI) cls [(h0, .inr (12, [.null, .int 0]))] H := hP.sub [0] rfl
  have hD : va_D A [(h0, .inr (12, [.null, .int 0]))] := hD.sub [0] (by decide) rfl
  have hK : va_K (dC, dI) cls [] s := hK.sub [] rfl
  refine W.widen (k := 1) (n := 8) (Nat.le_of_ble_eq_true rfl) (Nat.le_of_ble_eq_true rfl) ?_
  refine va_put (D := (dC, dI)) (ci := 12) (v := .ref q1) (ty := .array .int) (C := RX20) (T := TX20) (N := 2) hx hb hts i_X20 tyX20 tyX20_ok nmX20 hown hK hP hD hS 0 rfl rfl 0 (by decide) (hts _ qw342) (fun _ h9 => h9) rfl (by decide +kernel) rfl rfl (Nat.le_of_ble_eq_true rfl) dX20_init_9 (fun H locs hP hD hS => ?_)
  have hP : va_P (dC, dI) cls [(h0, .inr (12, [.ref q1, .int 0]))] H := hP
  have hD : va_D A [(h0, .inr (12, [.ref q1, .int 0]))] := hD
  have hP9 : va_P (dC, dI) cls [] H := hP.sub [] rfl
  have hD9 : va_D A [] := hD.sub [] (by decide) rfl
  have hK9 : va_K (dC, dI) cls [] s := hK.sub [] rfl
  exact W.vret hx hb hr (fun t ht hW => ⟨⟨(), rfl, trivial, ⟨by rw [ht]; exact hP9, va_K.moved hW.alike hK9, hD9⟩⟩, hS.F ht⟩) hS.2.2 dX20_init_12
set_option maxHeartbeats 4000000 in
set_option maxRecDepth 100000 in
theorem kX22_init {zs : Nat × Nat} (l : Launch) (dC : Nat → ClassId) (dI : Nat → Nat → Nat) (h0 : Nat) (sz : Nat)  : Met l yX22_init (wz yX22_init cX22_init 1 (Option.none : Option Jvm.ClassFile.FieldType)) ({ frames := 1, cells := 13, slots := 16035, locals := 12 }) (va_Pc [.ref h0] (PRE zs dC dI [(h0, .inr (13, [.int 0, .null, .null, .null, .null, .null, .null, .null, .null, .int 0, .null, .null, .null, .null, .null]))] [] sz)) (va_Qv (fun (_ : Unit) => True) (fun _ t => POST dC dI [] [] (va_A [(h0, .inr (13, [.int 0, .null, .null, .null, .null, .null, .null, .null, .null, .int 0, .null, .null, .null, .null, .null]))] sz) t) (va_A [(h0, .inr (13, [.int 0, .null, .null, .null, .null, .null, .null, .null, .null, .int 0, .null, .null, .null, .null, .null]))] sz)) 13 16035 (va_A [(h0, .inr (13, [.int 0, .null, .null, .null, .null, .null, .null, .null, .null, .int 0, .null, .null, .null, .null, .null]))] sz) := by
  refine Met.ofW (cc := cX22_init) (maxL := 1) (ret := (Option.none : Option Jvm.ClassFile.FieldType)) (by decide) rfl ?_
  intro p e s m args below meth c s₁ B hml hv
  obtain ⟨rfl, hsz, hP, hK, hD0, hE⟩ := hv
  have hx := B.exec
  have hb := B.bytes
  have hr := B.returns
  have hts0 := atoms_spec (ws := wz yX22_init cX22_init 1 (Option.none : Option Jvm.ClassFile.FieldType)) B.pre
  have hts : ∀ w ∈ gw, w.before _ s = true := fun w h => hts0 w (List.mem_cons_of_mem _ h)
  have hown : s.vm.findClass RX22 = some m.cls := findClass_of_methodNamed B.named
  have hlocks := B.notSynchronized
  have hin : meth.name = "<init>" := (name_of_methodNamed B.named B.method).1
  subst hsz
  have hD := hD0.self (sz := s.heap.size)
  generalize hAe : va_A [(h0, .inr (13, [.int 0, .null, .null, .null, .null, .null, .null, .null, .null, .int 0, .null, .null, .null, .null, .null]))] s.heap.size = A at hD hE ⊢
  have hA : ∀ q : Nat, s.heap.size ≤ q → A q := fun q h => by rw [← hAe]; exact Or.inr h
  have hS : va_S A s.heap s.heap [] := va_S.rf
  have hP : va_P (dC, dI) cls [(h0, .inr (13, [.int 0, .null, .null, .null, .null, .null, .null, .null, .null, .int 0, .null, .null, .null, .null, .null]))] s.heap := hP
  have hl := lv_entry ([.ref h0]) (n := 1) (Nat.le_of_ble_eq_true rfl)
  rw [lg_entry_eq]
  generalize (lg_sl ([.ref h0]) ++ List.replicate (1 - (lg_sl ([.ref h0])).length) Slot.unset).toArray = ls at hl ⊢
  have hl : lv_has ls 1 [(0, .ref h0)] := hl
  refine lv_aload_n hx hb dX22_init_0 rfl (lv_at hl 0 rfl) ?_
  refine W.objInit hx hb hown (hts _ qw343) (hts _ qw1) (hts _ qw_oi) rfl (by rw [hml]; exact hl.1) rfl dX22_init_1 (Nat.le_of_ble_eq_true rfl) (Nat.le_of_ble_eq_true rfl) ?_
  refine W.eq (g2 := F0 m 4 ls []) rfl ?_
  refine lv_aload_n hx hb dX22_init_4 rfl (lv_at hl 0 rfl) ?_
  refine lv_iconst (v := 1) hx hb dX22_init_5 (by decide) ?_
  refine va_put (D := (dC, dI)) (ci := 13) (v := .int 1) (ty := .int) (C := RX22) (T := TX22) (N := 15) hx hb hts i_X22 tyX22 tyX22_ok nmX22 hown hK hP hD hS 0 rfl rfl 0 (by decide) (hts _ qw344) (fun _ h9 => h9) rfl (by decide +kernel) rfl rfl (Nat.le_of_ble_eq_true rfl) dX22_init_6 (fun H locs hP hD hS => ?_)
  have hP : va_P (dC, dI) cls [(h0, .inr (13, [.int 1, .null, .null, .null, .null, .null, .null, .null, .null, .int 0, .null, .null, .null, .null, .null]))] H := hP
  have hD : va_D A [(h0, .inr (13, [.int 1, .null, .null, .null, .null, .null, .null, .null, .null, .int 0, .null, .null, .null, .null, .null]))] := hD
  refine lv_aload_n hx hb dX22_init_9 rfl (lv_at hl 0 rfl) ?_
  refine lv_sipush (v := 2000) hx hb dX22_init_10 (by decide) ?_
  refine va_newa (atype := .int) (ty := .int) hx hb (hts _ qw2) rfl hK hP hD hS hA (a0 := (2000, .inl (fun _ => 0))) (fun _ => rfl) (by decide) (by decide +kernel) (Nat.le_of_ble_eq_true rfl) (Nat.le_of_ble_eq_true rfl) (Nat.le_of_ble_eq_true rfl) dX22_init_13 (fun q1 c2 H hK hP hD hS => ?_)
  have hP : va_P (dC, dI) cls [(h0, .inr (13, [.int 1, .null, .null, .null, .null, .null, .null, .null, .null, .int 0, .null, .null, .null, .null, .null])), (q1, .inl (c2, 2000, .inl (fun _ => 0)))] H := hP
  have hD : va_D A [(h0, .inr (13, [.int 1, .null, .null, .null, .null, .null, .null, .null, .null, .int 0, .null, .null, .null, .null, .null])), (q1, .inl (c2, 2000, .inl (fun _ => 0)))] := hD
  have hK : va_K (dC, dI) cls [(c2, .int)] s := hK
  have hP : va_P (dC, dI) cls [(h0, .inr (13, [.int 1, .null, .null, .null, .null, .null, .null, .null, .null, .int 0, .null, .null, .null, .null, .null]))] H := hP.sub [0] rfl
  have hD : va_D A [(h0, .inr (13, [.int 1, .null, .null, .null, .null, .null, .null, .null, .null, .int 0, .null, .null, .null, .null, .null]))] := hD.sub [0] (by decide) rfl
  have hK : va_K (dC, dI) cls [] s := hK.sub [] rfl
  refine W.widen (k := 1) (n := 2000) (Nat.le_of_ble_eq_true rfl) (Nat.le_of_ble_eq_true rfl) ?_
  refine va_putF (D := (dC, dI)) (ci := 13) (v := .ref q1) (ty := .array .int) (C := RX22) (T := TX22) (N := 15) hx hb hts i_X22 tyX22 tyX22_ok nmX22 hown hK hP hD hS 0 rfl rfl 1 (by decide) (hts _ qw345) (fun _ h9 => h9) rfl hin rfl (by decide +kernel) rfl rfl (Nat.le_of_ble_eq_true rfl) dX22_init_15 (fun H locs hP hD hS => ?_)
  have hP : va_P (dC, dI) cls [(h0, .inr (13, [.int 1, .ref q1, .null, .null, .null, .null, .null, .null, .null, .int 0, .null, .null, .null, .null, .null]))] H := hP
  have hD : va_D A [(h0, .inr (13, [.int 1, .ref q1, .null, .null, .null, .null, .null, .null, .null, .int 0, .null, .null, .null, .null, .null]))] := hD
  refine lv_aload_n hx hb dX22_init_18 rfl (lv_at hl 0 rfl) ?_
  refine lv_sipush (v := 2000) hx hb dX22_init_19 (by decide) ?_
  refine va_newa (atype := .int) (ty := .int) hx hb (hts _ qw2) rfl hK hP hD hS hA (a0 := (2000, .inl (fun _ => 0))) (fun _ => rfl) (by decide) (by decide +kernel) (Nat.le_of_ble_eq_true rfl) (Nat.le_of_ble_eq_true rfl) (Nat.le_of_ble_eq_true rfl) dX22_init_22 (fun q3 c4 H hK hP hD hS => ?_)
  have hP : va_P (dC, dI) cls [(h0, .inr (13, [.int 1, .ref q1, .null, .null, .null, .null, .null, .null, .null, .int 0, .null, .null, .null, .null, .null])), (q3, .inl (c4, 2000, .inl (fun _ => 0)))] H := hP
  have hD : va_D A [(h0, .inr (13, [.int 1, .ref q1, .null, .null, .null, .null, .null, .null, .null, .int 0, .null, .null, .null, .null, .null])), (q3, .inl (c4, 2000, .inl (fun _ => 0)))] := hD
  have hK : va_K (dC, dI) cls [(c4, .int)] s := hK
  have hP : va_P (dC, dI) cls [(h0, .inr (13, [.int 1, .ref q1, .null, .null, .null, .null, .null, .null, .null, .int 0, .null, .null, .null, .null, .null]))] H := hP.sub [0] rfl
  have hD : va_D A [(h0, .inr (13, [.int 1, .ref q1, .null, .null, .null, .null, .null, .null, .null, .int 0, .null, .null, .null, .null, .null]))] := hD.sub [0] (by decide) rfl
  have hK : va_K (dC, dI) cls [] s := hK.sub [] rfl
  refine W.widen (k := 2) (n := 4000) (Nat.le_of_ble_eq_true rfl) (Nat.le_of_ble_eq_true rfl) ?_
  refine va_putF (D := (dC, dI)) (ci := 13) (v := .ref q3) (ty := .array .int) (C := RX22) (T := TX22) (N := 15) hx hb hts i_X22 tyX22 tyX22_ok nmX22 hown hK hP hD hS 0 rfl rfl 2 (by decide) (hts _ qw346) (fun _ h9 => h9) rfl hin rfl (by decide +kernel) rfl rfl (Nat.le_of_ble_eq_true rfl) dX22_init_24 (fun H locs hP hD hS => ?_)
  have hP : va_P (dC, dI) cls [(h0, .inr (13, [.int 1, .ref q1, .ref q3, .null, .null, .null, .null, .null, .null, .int 0, .null, .null, .null, .null, .null]))] H := hP
  have hD : va_D A [(h0, .inr (13, [.int 1, .ref q1, .ref q3, .null, .null, .null, .null, .null, .null, .int 0, .null, .null, .null, .null, .null]))] := hD
  refine lv_aload_n hx hb dX22_init_27 rfl (lv_at hl 0 rfl) ?_
  refine lv_sipush (v := 2000) hx hb dX22_init_28 (by decide) ?_
  refine va_newa (atype := .int) (ty := .int) hx hb (hts _ qw2) rfl hK hP hD hS hA (a0 := (2000, .inl (fun _ => 0))) (fun _ => rfl) (by decide) (by decide +kernel) (Nat.le_of_ble_eq_true rfl) (Nat.le_of_ble_eq_true rfl) (Nat.le_of_ble_eq_true rfl) dX22_init_31 (fun q5 c6 H hK hP hD hS => ?_)
  have hP : va_P (dC, dI) cls [(h0, .inr (13, [.int 1, .ref q1, .ref q3, .null, .null, .null, .null, .null, .null, .int 0, .null, .null, .null, .null, .null])), (q5, .inl (c6, 2000, .inl (fun _ => 0)))] H := hP
  have hD : va_D A [(h0, .inr (13, [.int 1, .ref q1, .ref q3, .null, .null, .null, .null, .null, .null, .int 0, .null, .null, .null, .null, .null])), (q5, .inl (c6, 2000, .inl (fun _ => 0)))] := hD
  have hK : va_K (dC, dI) cls [(c6, .int)] s := hK
  have hP : va_P (dC, dI) cls [(h0, .inr (13, [.int 1, .ref q1, .ref q3, .null, .null, .null, .null, .null, .null, .int 0, .null, .null, .null, .null, .null]))] H := hP.sub [0] rfl
  have hD : va_D A [(h0, .inr (13, [.int 1, .ref q1, .ref q3, .null, .null, .null, .null, .null, .null, .int 0, .null, .null, .null, .null, .null]))] := hD.sub [0] (by decide) rfl
  have hK : va_K (dC, dI) cls [] s := hK.sub [] rfl
  refine W.widen (k := 3) (n := 6000) (Nat.le_of_ble_eq_true rfl) (Nat.le_of_ble_eq_true rfl) ?_
  refine va_putF (D := (dC, dI)) (ci := 13) (v := .ref q5) (ty := .array .int) (C := RX22) (T := TX22) (N := 15) hx hb hts i_X22 tyX22 tyX22_ok nmX22 hown hK hP hD hS 0 rfl rfl 3 (by decide) (hts _ qw347) (fun _ h9 => h9) rfl hin rfl (by decide +kernel) rfl rfl (Nat.le_of_ble_eq_true rfl) dX22_init_33 (fun H locs hP hD hS => ?_)
  have hP : va_P (dC, dI) cls [(h0, .inr (13, [.int 1, .ref q1, .ref q3, .ref q5, .null, .null, .null, .null, .null, .int 0, .null, .null, .null, .null, .null]))] H := hP
  have hD : va_D A [(h0, .inr (13, [.int 1, .ref q1, .ref q3, .ref q5, .null, .null, .null, .null, .null, .int 0, .null, .null, .null, .null, .null]))] := hD
  refine lv_aload_n hx hb dX22_init_36 rfl (lv_at hl 0 rfl) ?_
  refine lv_sipush (v := 2000) hx hb dX22_init_37 (by decide) ?_
  refine va_newa (atype := .int) (ty := .int) hx hb (hts _ qw2) rfl hK hP hD hS hA (a0 := (2000, .inl (fun _ => 0))) (fun _ => rfl) (by decide) (by decide +kernel) (Nat.le_of_ble_eq_true rfl) (Nat.le_of_ble_eq_true rfl) (Nat.le_of_ble_eq_true rfl) dX22_init_40 (fun q7 c8 H hK hP hD hS => ?_)
  have hP : va_P (dC, dI) cls [(h0, .inr (13, [.int 1, .ref q1, .ref q3, .ref q5, .null, .null, .null, .null, .null, .int 0, .null, .null, .null, .null, .null])), (q7, .inl (c8, 2000, .inl (fun _ => 0)))] H := hP
  have hD : va_D A [(h0, .inr (13, [.int 1, .ref q1, .ref q3, .ref q5, .null, .null, .null, .null, .null, .int 0, .null, .null, .null, .null, .null])), (q7, .inl (c8, 2000, .inl (fun _ => 0)))] := hD
  have hK : va_K (dC, dI) cls [(c8, .int)] s := hK
  have hP : va_P (dC, dI) cls [(h0, .inr (13, [.int 1, .ref q1, .ref q3, .ref q5, .null, .null, .null, .null, .null, .int 0, .null, .null, .null, .null, .null]))] H := hP.sub [0] rfl
  have hD : va_D A [(h0, .inr (13, [.int 1, .ref q1, .ref q3, .ref q5, .null, .null, .null, .null, .null, .int 0, .null, .null, .null, .null, .null]))] := hD.sub [0] (by decide) rfl
  have hK : va_K (dC, dI) cls [] s := hK.sub [] rfl
  refine W.widen (k := 4) (n := 8000) (Nat.le_of_ble_eq_true rfl) (Nat.le_of_ble_eq_true rfl) ?_
  refine va_putF (D := (dC, dI)) (ci := 13) (v := .ref q7) (ty := .array .int) (C := RX22) (T := TX22) (N := 15) hx hb hts i_X22 tyX22 tyX22_ok nmX22 hown hK hP hD hS 0 rfl rfl 4 (by decide) (hts _ qw348) (fun _ h9 => h9) rfl hin rfl (by decide +kernel) rfl rfl (Nat.le_of_ble_eq_true rfl) dX22_init_42 (fun H locs hP hD hS => ?_)
  have hP : va_P (dC, dI) cls [(h0, .inr (13, [.int 1, .ref q1, .ref q3, .ref q5, .ref q7, .null, .null, .null, .null, .int 0, .null, .null, .null, .null, .null]))] H := hP
  have hD : va_D A [(h0, .inr (13, [.int 1, .ref q1, .ref q3, .ref q5, .ref q7, .null, .null, .null, .null, .int 0, .null, .null, .null, .null, .null]))] := hD
  refine lv_aload_n hx hb dX22_init_45 rfl (lv_at hl 0 rfl) ?_
  refine lv_sipush (v := 2000) hx hb dX22_init_46 (by decide) ?_
  refine va_newa (atype := .int) (ty := .int) hx hb (hts _ qw2) rfl hK hP hD hS hA (a0 := (2000, .inl (fun _ => 0))) (fun _ => rfl) (by decide) (by decide +kernel) (Nat.le_of_ble_eq_true rfl) (Nat.le_of_ble_eq_true rfl) (Nat.le_of_ble_eq_true rfl) dX22_init_49 (fun q9 c10 H hK hP hD hS => ?_)
  have hP : va_P (dC, dI) cls [(h0, .inr (13, [.int 1, .ref q1, .ref q3, .ref q5, .ref q7, .null, .null, .null, .null, .int 0, .null, .null, .null, .null, .null])), (q9, .inl (c10, 2000, .inl (fun _ => 0)))] H := hP
  have hD : va_D A [(h0, .inr (13, [.int 1, .ref q1, .ref q3, .ref q5, .ref q7, .null, .null, .null, .null, .int 0, .null, .null, .null, .null, .null])), (q9, .inl (c10, 2000, .inl (fun _ => 0)))] := hD
  have hK : va_K (dC, dI) cls [(c10, .int)] s := hK
  have hP : va_P (dC, dI) cls [(h0, .inr (13, [.int 1, .ref q1, .ref q3, .ref q5, .ref q7, .null, .null, .null, .null, .int 0, .null, .null, .null, .null, .null]))] H := hP.sub [0] rfl
  have hD : va_D A [(h0, .inr (13, [.int 1, .ref q1, .ref q3, .ref q5, .ref q7, .null, .null, .null, .null, .int 0, .null, .null, .null, .null, .null]))] := hD.sub [0] (by decide) rfl
  have hK : va_K (dC, dI) cls [] s := hK.sub [] rfl
  refine W.widen (k := 5) (n := 10000) (Nat.le_of_ble_eq_true rfl) (Nat.le_of_ble_eq_true rfl) ?_
  refine va_putF (D := (dC, dI)) (ci := 13) (v := .ref q9) (ty := .array .int) (C := RX22) (T := TX22) (N := 15) hx hb hts i_X22 tyX22 tyX22_ok nmX22 hown hK hP hD hS 0 rfl rfl 5 (by decide) (hts _ qw349) (fun _ h9 => h9) rfl hin rfl (by decide +kernel) rfl rfl (Nat.le_of_ble_eq_true rfl) dX22_init_51 (fun H locs hP hD hS => ?_)
  have hP : va_P (dC, dI) cls [(h0, .inr (13, [.int 1, .ref q1, .ref q3, .ref q5, .ref q7, .ref q9, .null, .null, .null, .int 0, .null, .null, .null, .null, .null]))] H := hP
  have hD : va_D A [(h0, .inr (13, [.int 1, .ref q1, .ref q3, .ref q5, .ref q7, .ref q9, .null, .null, .null, .int 0, .null, .null, .null, .null, .null]))] := hD
  refine lv_aload_n hx hb dX22_init_54 rfl (lv_at hl 0 rfl) ?_
  refine lv_sipush (v := 2000) hx hb dX22_init_55 (by decide) ?_
  refine va_newa (atype := .int) (ty := .int) hx hb (hts _ qw2) rfl hK hP hD hS hA (a0 := (2000, .inl (fun _ => 0))) (fun _ => rfl) (by decide) (by decide +kernel) (Nat.le_of_ble_eq_true rfl) (Nat.le_of_ble_eq_true rfl) (Nat.le_of_ble_eq_true rfl) dX22_init_58 (fun q11 c12 H hK hP hD hS => ?_)
  have hP : va_P (dC, dI) cls [(h0, .inr (13, [.int 1, .ref q1, .ref q3, .ref q5, .ref q7, .ref q9, .null, .null, .null, .int 0, .null, .null, .null, .null, .null])), (q11, .inl (c12, 2000, .inl (fun _ => 0)))] H := hP
  have hD : va_D A [(h0, .inr (13, [.int 1, .ref q1, .ref q3, .ref q5, .ref q7, .ref q9, .null, .null, .null, .int 0, .null, .null, .null, .null, .null])), (q11, .inl (c12, 2000, .inl (fun _ => 0)))] := hD
  have hK : va_K (dC, dI) cls [(c12, .int)] s := hK
  have hP : va_P (dC, dI) cls [(h0, .inr (13, [.int 1, .ref q1, .ref q3, .ref q5, .ref q7, .ref q9, .null, .null, .null, .int 0, .null, .null, .null, .null, .null]))] H := hP.sub [0] rfl
  have hD : va_D A [(h0, .inr (13, [.int 1, .ref q1, .ref q3, .ref q5, .ref q7, .ref q9, .null, .null, .null, .int 0, .null, .null, .null, .null, .null]))] := hD.sub [0] (by decide) rfl
  have hK : va_K (dC, dI) cls [] s := hK.sub [] rfl
  refine W.widen (k := 6) (n := 12000) (Nat.le_of_ble_eq_true rfl) (Nat.le_of_ble_eq_true rfl) ?_
  refine va_putF (D := (dC, dI)) (ci := 13) (v := .ref q11) (ty := .array .int) (C := RX22) (T := TX22) (N := 15) hx hb hts i_X22 tyX22 tyX22_ok nmX22 hown hK hP hD hS 0 rfl rfl 6 (by decide) (hts _ qw350) (fun _ h9 => h9) rfl hin rfl (by decide +kernel) rfl rfl (Nat.le_of_ble_eq_true rfl) dX22_init_60 (fun H locs hP hD hS => ?_)
  have hP : va_P (dC, dI) cls [(h0, .inr (13, [.int 1, .ref q1, .ref q3, .ref q5, .ref q7, .ref q9, .ref q11, .null, .null, .int 0, .null, .null, .null, .null, .null]))] H := hP
  have hD : va_D A [(h0, .inr (13, [.int 1, .ref q1, .ref q3, .ref q5, .ref q7, .ref q9, .ref q11, .null, .null, .int 0, .null, .null, .null, .null, .null]))] := hD
  refine lv_aload_n hx hb dX22_init_63 rfl (lv_at hl 0 rfl) ?_
  refine lv_sipush (v := 2000) hx hb dX22_init_64 (by decide) ?_
  refine va_newa (atype := .int) (ty := .int) hx hb (hts _ qw2) rfl hK hP hD hS hA (a0 := (2000, .inl (fun _ => 0))) (fun _ => rfl) (by decide) (by decide +kernel) (Nat.le_of_ble_eq_true rfl) (Nat.le_of_ble_eq_true rfl) (Nat.le_of_ble_eq_true rfl) dX22_init_67 (fun q13 c14 H hK hP hD hS => ?_)
  have hP : va_P (dC, dI) cls [(h0, .inr (13, [.int 1, .ref q1, .ref q3, .ref q5, .ref q7, .ref q9, .ref q11, .null, .null, .int 0, .null, .null, .null, .null, .null])), (q13, .inl (c14, 2000, .inl (fun _ => 0)))] H := hP
  have hD : va_D A [(h0, .inr (13, [.int 1, .ref q1, .ref q3, .ref q5, .ref q7, .ref q9, .ref q11, .null, .null, .int 0, .null, .null, .null, .null, .null])), (q13, .inl (c14, 2000, .inl (fun _ => 0)))] := hD
  have hK : va_K (dC, dI) cls [(c14, .int)] s := hK
  have hP : va_P (dC, dI) cls [(h0, .inr (13, [.int 1, .ref q1, .ref q3, .ref q5, .ref q7, .ref q9, .ref q11, .null, .null, .int 0, .null, .null, .null, .null, .null]))] H := hP.sub [0] rfl
  have hD : va_D A [(h0, .inr (13, [.int 1, .ref q1, .ref q3, .ref q5, .ref q7, .ref q9, .ref q11, .null, .null, .int 0, .null, .null, .null, .null, .null]))] := hD.sub [0] (by decide) rfl
  have hK : va_K (dC, dI) cls [] s := hK.sub [] rfl
  refine W.widen (k := 7) (n := 14000) (Nat.le_of_ble_eq_true rfl) (Nat.le_of_ble_eq_true rfl) ?_
  refine va_putF (D := (dC, dI)) (ci := 13) (v := .ref q13) (ty := .array .int) (C := RX22) (T := TX22) (N := 15) hx hb hts i_X22 tyX22 tyX22_ok nmX22 hown hK hP hD hS 0 rfl rfl 7 (by decide) (hts _ qw351) (fun _ h9 => h9) rfl hin rfl (by decide +kernel) rfl rfl (Nat.le_of_ble_eq_true rfl) dX22_init_69 (fun H locs hP hD hS => ?_)
  have hP : va_P (dC, dI) cls [(h0, .inr (13, [.int 1, .ref q1, .ref q3, .ref q5, .ref q7, .ref q9, .ref q11, .ref q13, .null, .int 0, .null, .null, .null, .null, .null]))] H := hP
  have hD : va_D A [(h0, .inr (13, [.int 1, .ref q1, .ref q3, .ref q5, .ref q7, .ref q9, .ref q11, .ref q13, .null, .int 0, .null, .null, .null, .null, .null]))] := hD
  refine lv_aload_n hx hb dX22_init_72 rfl (lv_at hl 0 rfl) ?_
  refine lv_sipush (v := 2000) hx hb dX22_init_73 (by decide) ?_
  refine va_newa (atype := .int) (ty := .int) hx hb (hts _ qw2) rfl hK hP hD hS hA (a0 := (2000, .inl (fun _ => 0))) (fun _ => rfl) (by decide) (by decide +kernel) (Nat.le_of_ble_eq_true rfl) (Nat.le_of_ble_eq_true rfl) (Nat.le_of_ble_eq_true rfl) dX22_init_76 (fun q15 c16 H hK hP hD hS => ?_)
  have hP : va_P (dC, dI) cls [(h0, .inr (13, [.int 1, .ref q1, .ref q3, .ref q5, .ref q7, .ref q9, .ref q11, .ref q13, .null, .int 0, .null, .null, .null, .null, .null])), (q15, .inl (c16, 2000, .inl (fun _ => 0)))] H := hP
  have hD : va_D A [(h0, .inr (13, [.int 1, .ref q1, .ref q3, .ref q5, .ref q7, .ref q9, .ref q11, .ref q13, .null, .int 0, .null, .null, .null, .null, .null])), (q15, .inl (c16, 2000, .inl (fun _ => 0)))] := hD
  have hK : va_K (dC, dI) cls [(c16, .int)] s := hK
  have hP : va_P (dC, dI) cls [(h0, .inr (13, [.int 1, .ref q1, .ref q3, .ref q5, .ref q7, .ref q9, .ref q11, .ref q13, .null, .int 0, .null, .null, .null, .null, .null]))] H := hP.sub [0] rfl
  have hD : va_D A [(h0, .inr (13, [.int 1, .ref q1, .ref q3, .ref q5, .ref q7, .ref q9, .ref q11, .ref q13, .null, .int 0, .null, .null, .null, .null, .null]))] := hD.sub [0] (by decide) rfl
  have hK : va_K (dC, dI) cls [] s := hK.sub [] rfl
  refine W.widen (k := 8) (n := 16000) (Nat.le_of_ble_eq_true rfl) (Nat.le_of_ble_eq_true rfl) ?_
  refine va_putF (D := (dC, dI)) (ci := 13) (v := .ref q15) (ty := .array .int) (C := RX22) (T := TX22) (N := 15) hx hb hts i_X22 tyX22 tyX22_ok nmX22 hown hK hP hD hS 0 rfl rfl 8 (by decide) (hts _ qw352) (fun _ h9 => h9) rfl hin rfl (by decide +kernel) rfl rfl (Nat.le_of_ble_eq_true rfl) dX22_init_78 (fun H locs hP hD hS => ?_)
  have hP : va_P (dC, dI) cls [(h0, .inr (13, [.int 1, .ref q1, .ref q3, .ref q5, .ref q7, .ref q9, .ref q11, .ref q13, .ref q15, .int 0, .null, .null, .null, .null, .null]))] H := hP
  have hD : va_D A [(h0, .inr (13, [.int 1, .ref q1, .ref q3, .ref q5, .ref q7, .ref q9, .ref q11, .ref q13, .ref q15, .int 0, .null, .null, .null, .null, .null]))] := hD
  refine lv_aload_n hx hb dX22_init_81 rfl (lv_at hl 0 rfl) ?_
  refine lv_bipush (v := 7) hx hb dX22_init_82 (by decide) ?_
  refine va_newa (atype := .int) (ty := .int) hx hb (hts _ qw2) rfl hK hP hD hS hA (a0 := (7, .inl (fun _ => 0))) (fun _ => rfl) (by decide) (by decide +kernel) (Nat.le_of_ble_eq_true rfl) (Nat.le_of_ble_eq_true rfl) (Nat.le_of_ble_eq_true rfl) dX22_init_84 (fun q17 c18 H hK hP hD hS => ?_)
  have hP : va_P (dC, dI) cls [(h0, .inr (13, [.int 1, .ref q1, .ref q3, .ref q5, .ref q7, .ref q9, .ref q11, .ref q13, .ref q15, .int 0, .null, .null, .null, .null, .null])), (q17, .inl (c18, 7, .inl (fun _ => 0)))] H := hP
  have hD : va_D A [(h0, .inr (13, [.int 1, .ref q1, .ref q3, .ref q5, .ref q7, .ref q9, .ref q11, .ref q13, .ref q15, .int 0, .null, .null, .null, .null, .null])), (q17, .inl (c18, 7, .inl (fun _ => 0)))] := hD
  have hK : va_K (dC, dI) cls [(c18, .int)] s := hK
  have hP : va_P (dC, dI) cls [(h0, .inr (13, [.int 1, .ref q1, .ref q3, .ref q5, .ref q7, .ref q9, .ref q11, .ref q13, .ref q15, .int 0, .null, .null, .null, .null, .null]))] H := hP.sub [0] rfl
  have hD : va_D A [(h0, .inr (13, [.int 1, .ref q1, .ref q3, .ref q5, .ref q7, .ref q9, .ref q11, .ref q13, .ref q15, .int 0, .null, .null, .null, .null, .null]))] := hD.sub [0] (by decide) rfl
  have hK : va_K (dC, dI) cls [] s := hK.sub [] rfl
  refine W.widen (k := 9) (n := 16007) (Nat.le_of_ble_eq_true rfl) (Nat.le_of_ble_eq_true rfl) ?_
  refine va_putF (D := (dC, dI)) (ci := 13) (v := .ref q17) (ty := .array .int) (C := RX22) (T := TX22) (N := 15) hx hb hts i_X22 tyX22 tyX22_ok nmX22 hown hK hP hD hS 0 rfl rfl 10 (by decide) (hts _ qw353) (fun _ h9 => h9) rfl hin rfl (by decide +kernel) rfl rfl (Nat.le_of_ble_eq_true rfl) dX22_init_86 (fun H locs hP hD hS => ?_)
  have hP : va_P (dC, dI) cls [(h0, .inr (13, [.int 1, .ref q1, .ref q3, .ref q5, .ref q7, .ref q9, .ref q11, .ref q13, .ref q15, .int 0, .ref q17, .null, .null, .null, .null]))] H := hP
  have hD : va_D A [(h0, .inr (13, [.int 1, .ref q1, .ref q3, .ref q5, .ref q7, .ref q9, .ref q11, .ref q13, .ref q15, .int 0, .ref q17, .null, .null, .null, .null]))] := hD
  refine lv_aload_n hx hb dX22_init_89 rfl (lv_at hl 0 rfl) ?_
  refine lv_bipush (v := 7) hx hb dX22_init_90 (by decide) ?_
  refine va_newa (atype := .int) (ty := .int) hx hb (hts _ qw2) rfl hK hP hD hS hA (a0 := (7, .inl (fun _ => 0))) (fun _ => rfl) (by decide) (by decide +kernel) (Nat.le_of_ble_eq_true rfl) (Nat.le_of_ble_eq_true rfl) (Nat.le_of_ble_eq_true rfl) dX22_init_92 (fun q19 c20 H hK hP hD hS => ?_)
  have hP : va_P (dC, dI) cls [(h0, .inr (13, [.int 1, .ref q1, .ref q3, .ref q5, .ref q7, .ref q9, .ref q11, .ref q13, .ref q15, .int 0, .ref q17, .null, .null, .null, .null])), (q19, .inl (c20, 7, .inl (fun _ => 0)))] H := hP
  have hD : va_D A [(h0, .inr (13, [.int 1, .ref q1, .ref q3, .ref q5, .ref q7, .ref q9, .ref q11, .ref q13, .ref q15, .int 0, .ref q17, .null, .null, .null, .null])), (q19, .inl (c20, 7, .inl (fun _ => 0)))] := hD
  have hK : va_K (dC, dI) cls [(c20, .int)] s := hK
  have hP : va_P (dC, dI) cls [(h0, .inr (13, [.int 1, .ref q1, .ref q3, .ref q5, .ref q7, .ref q9, .ref q11, .ref q13, .ref q15, .int 0, .ref q17, .null, .null, .null, .null]))] H := hP.sub [0] rfl
  have hD : va_D A [(h0, .inr (13, [.int 1, .ref q1, .ref q3, .ref q5, .ref q7, .ref q9, .ref q11, .ref q13, .ref q15, .int 0, .ref q17, .null, .null, .null, .null]))] := hD.sub [0] (by decide) rfl
  have hK : va_K (dC, dI) cls [] s := hK.sub [] rfl
  refine W.widen (k := 10) (n := 16014) (Nat.le_of_ble_eq_true rfl) (Nat.le_of_ble_eq_true rfl) ?_
  refine va_putF (D := (dC, dI)) (ci := 13) (v := .ref q19) (ty := .array .int) (C := RX22) (T := TX22) (N := 15) hx hb hts i_X22 tyX22 tyX22_ok nmX22 hown hK hP hD hS 0 rfl rfl 11 (by decide) (hts _ qw354) (fun _ h9 => h9) rfl hin rfl (by decide +kernel) rfl rfl (Nat.le_of_ble_eq_true rfl) dX22_init_94 (fun H locs hP hD hS => ?_)
  have hP : va_P (dC, dI) cls [(h0, .inr (13, [.int 1, .ref q1, .ref q3, .ref q5, .ref q7, .ref q9, .ref q11, .ref q13, .ref q15, .int 0, .ref q17, .ref q19, .null, .null, .null]))] H := hP
  have hD : va_D A [(h0, .inr (13, [.int 1, .ref q1, .ref q3, .ref q5, .ref q7, .ref q9, .ref q11, .ref q13, .ref q15, .int 0, .ref q17, .ref q19, .null, .null, .null]))] := hD
  refine lv_aload_n hx hb dX22_init_97 rfl (lv_at hl 0 rfl) ?_
  refine lv_bipush (v := 7) hx hb dX22_init_98 (by decide) ?_
  refine va_newa (atype := .int) (ty := .int) hx hb (hts _ qw2) rfl hK hP hD hS hA (a0 := (7, .inl (fun _ => 0))) (fun _ => rfl) (by decide) (by decide +kernel) (Nat.le_of_ble_eq_true rfl) (Nat.le_of_ble_eq_true rfl) (Nat.le_of_ble_eq_true rfl) dX22_init_100 (fun q21 c22 H hK hP hD hS => ?_)
  have hP : va_P (dC, dI) cls [(h0, .inr (13, [.int 1, .ref q1, .ref q3, .ref q5, .ref q7, .ref q9, .ref q11, .ref q13, .ref q15, .int 0, .ref q17, .ref q19, .null, .null, .null])), (q21, .inl (c22, 7, .inl (fun _ => 0)))] H := hP
  have hD : va_D A [(h0, .inr (13, [.int 1, .ref q1, .ref q3, .ref q5, .ref q7, .ref q9, .ref q11, .ref q13, .ref q15, .int 0, .ref q17, .ref q19, .null, .null, .null])), (q21, .inl (c22, 7, .inl (fun _ => 0)))] := hD
  have hK : va_K (dC, dI) cls [(c22, .int)] s := hK
  have hP : va_P (dC, dI) cls [(h0, .inr (13, [.int 1, .ref q1, .ref q3, .ref q5, .ref q7, .ref q9, .ref q11, .ref q13, .ref q15, .int 0, .ref q17, .ref q19, .null, .null, .null]))] H := hP.sub [0] rfl
  have hD : va_D A [(h0, .inr (13, [.int 1, .ref q1, .ref q3, .ref q5, .ref q7, .ref q9, .ref q11, .ref q13, .ref q15, .int 0, .ref q17, .ref q19, .null, .null, .null]))] := hD.sub [0] (by decide) rfl
  have hK : va_K (dC, dI) cls [] s := hK.sub [] rfl
  refine W.widen (k := 11) (n := 16021) (Nat.le_of_ble_eq_true rfl) (Nat.le_of_ble_eq_true rfl) ?_
  refine va_putF (D := (dC, dI)) (ci := 13) (v := .ref q21) (ty := .array .int) (C := RX22) (T := TX22) (N := 15) hx hb hts i_X22 tyX22 tyX22_ok nmX22 hown hK hP hD hS 0 rfl rfl 12 (by decide) (hts _ qw355) (fun _ h9 => h9) rfl hin rfl (by decide +kernel) rfl rfl (Nat.le_of_ble_eq_true rfl) dX22_init_102 (fun H locs hP hD hS => ?_)
  have hP : va_P (dC, dI) cls [(h0, .inr (13, [.int 1, .ref q1, .ref q3, .ref q5, .ref q7, .ref q9, .ref q11, .ref q13, .ref q15, .int 0, .ref q17, .ref q19, .ref q21, .null, .null]))] H := hP
  have hD : va_D A [(h0, .inr (13, [.int 1, .ref q1, .ref q3, .ref q5, .ref q7, .ref q9, .ref q11, .ref q13, .ref q15, .int 0, .ref q17, .ref q19, .ref q21, .null, .null]))] := hD
  refine lv_aload_n hx hb dX22_init_105 rfl (lv_at hl 0 rfl) ?_
  refine lv_bipush (v := 7) hx hb dX22_init_106 (by decide) ?_
  refine va_newa (atype := .int) (ty := .int) hx hb (hts _ qw2) rfl hK hP hD hS hA (a0 := (7, .inl (fun _ => 0))) (fun _ => rfl) (by decide) (by decide +kernel) (Nat.le_of_ble_eq_true rfl) (Nat.le_of_ble_eq_true rfl) (Nat.le_of_ble_eq_true rfl) dX22_init_108 (fun q23 c24 H hK hP hD hS => ?_)
  have hP : va_P (dC, dI) cls [(h0, .inr (13, [.int 1, .ref q1, .ref q3, .ref q5, .ref q7, .ref q9, .ref q11, .ref q13, .ref q15, .int 0, .ref q17, .ref q19, .ref q21, .null, .null])), (q23, .inl (c24, 7, .inl (fun _ => 0)))] H := hP
  have hD : va_D A [(h0, .inr (13, [.int 1, .ref q1, .ref q3, .ref q5, .ref q7, .ref q9, .ref q11, .ref q13, .ref q15, .int 0, .ref q17, .ref q19, .ref q21, .null, .null])), (q23, .inl (c24, 7, .inl (fun _ => 0)))] := hD
  have hK : va_K (dC, dI) cls [(c24, .int)] s := hK
  have hP : va_P (dC, dI) cls [(h0, .inr (13, [.int 1, .ref q1, .ref q3, .ref q5, .ref q7, .ref q9, .ref q11, .ref q13, .ref q15, .int 0, .ref q17, .ref q19, .ref q21, .null, .null]))] H := hP.sub [0] rfl
  have hD : va_D A [(h0, .inr (13, [.int 1, .ref q1, .ref q3, .ref q5, .ref q7, .ref q9, .ref q11, .ref q13, .ref q15, .int 0, .ref q17, .ref q19, .ref q21, .null, .null]))] := hD.sub [0] (by decide) rfl
  have hK : va_K (dC, dI) cls [] s := hK.sub [] rfl
  refine W.widen (k := 12) (n := 16028) (Nat.le_of_ble_eq_true rfl) (Nat.le_of_ble_eq_true rfl) ?_
  refine va_putF (D := (dC, dI)) (ci := 13) (v := .ref q23) (ty := .array .int) (C := RX22) (T := TX22) (N := 15) hx hb hts i_X22 tyX22 tyX22_ok nmX22 hown hK hP hD hS 0 rfl rfl 13 (by decide) (hts _ qw356) (fun _ h9 => h9) rfl hin rfl (by decide +kernel) rfl rfl (Nat.le_of_ble_eq_true rfl) dX22_init_110 (fun H locs hP hD hS => ?_)
  have hP : va_P (dC, dI) cls [(h0, .inr (13, [.int 1, .ref q1, .ref q3, .ref q5, .ref q7, .ref q9, .ref q11, .ref q13, .ref q15, .int 0, .ref q17, .ref q19, .ref q21, .ref q23, .null]))] H := hP
  have hD : va_D A [(h0, .inr (13, [.int 1, .ref q1, .ref q3, .ref q5, .ref q7, .ref q9, .ref q11, .ref q13, .ref q15, .int 0, .ref q17, .ref q19, .ref q21, .ref q23, .null]))] := hD
  refine lv_aload_n hx hb dX22_init_113 rfl (lv_at hl 0 rfl) ?_
  refine lv_bipush (v := 7) hx hb dX22_init_114 (by decide) ?_
  refine va_newa (atype := .int) (ty := .int) hx hb (hts _ qw2) rfl hK hP hD hS hA (a0 := (7, .inl (fun _ => 0))) (fun _ => rfl) (by decide) (by decide +kernel) (Nat.le_of_ble_eq_true rfl) (Nat.le_of_ble_eq_true rfl) (Nat.le_of_ble_eq_true rfl) dX22_init_116 (fun q25 c26 H hK hP hD hS => ?_)
  have hP : va_P (dC, dI) cls [(h0, .inr (13, [.int 1, .ref q1, .ref q3, .ref q5, .ref q7, .ref q9, .ref q11, .ref q13, .ref q15, .int 0, .ref q17, .ref q19, .ref q21, .ref q23, .null])), (q25, .inl (c26, 7, .inl (fun _ => 0)))] H := hP
  have hD : va_D A [(h0, .inr (13, [.int 1, .ref q1, .ref q3, .ref q5, .ref q7, .ref q9, .ref q11, .ref q13, .ref q15, .int 0, .ref q17, .ref q19, .ref q21, .ref q23, .null])), (q25, .inl (c26, 7, .inl (fun _ => 0)))] := hD
  have hK : va_K (dC, dI) cls [(c26, .int)] s := hK
  have hP : va_P (dC, dI) cls [(h0, .inr (13, [.int 1, .ref q1, .ref q3, .ref q5, .ref q7, .ref q9, .ref q11, .ref q13, .ref q15, .int 0, .ref q17, .ref q19, .ref q21, .ref q23, .null]))] H := hP.sub [0] rfl
  have hD : va_D A [(h0, .inr (13, [.int 1, .ref q1, .ref q3, .ref q5, .ref q7, .ref q9, .ref q11, .ref q13, .ref q15, .int 0, .ref q17, .ref q19, .ref q21, .ref q23, .null]))] := hD.sub [0] (by decide) rfl
  have hK : va_K (dC, dI) cls [] s := hK.sub [] rfl
  refine W.widen (k := 13) (n := 16035) (Nat.le_of_ble_eq_true rfl) (Nat.le_of_ble_eq_true rfl) ?_
  refine va_putF (D := (dC, dI)) (ci := 13) (v := .ref q25) (ty := .array .int) (C := RX22) (T := TX22) (N := 15) hx hb hts i_X22 tyX22 tyX22_ok nmX22 hown hK hP hD hS 0 rfl rfl 14 (by decide) (hts _ qw357) (fun _ h9 => h9) rfl hin rfl (by decide +kernel) rfl rfl (Nat.le_of_ble_eq_true rfl) dX22_init_118 (fun H locs hP hD hS => ?_)
  have hP : va_P (dC, dI) cls [(h0, .inr (13, [.int 1, .ref q1, .ref q3, .ref q5, .ref q7, .ref q9, .ref q11, .ref q13, .ref q15, .int 0, .ref q17, .ref q19, .ref q21, .ref q23, .ref q25]))] H := hP
  have hD : va_D A [(h0, .inr (13, [.int 1, .ref q1, .ref q3, .ref q5, .ref q7, .ref q9, .ref q11, .ref q13, .ref q15, .int 0, .ref q17, .ref q19, .ref q21, .ref q23, .ref q25]))] := hD
  have hP9 : va_P (dC, dI) cls [] H := hP.sub [] rfl
  have hD9 : va_D A [] := hD.sub [] (by decide) rfl
  have hK9 : va_K (dC, dI) cls [] s := hK.sub [] rfl
  exact W.vret hx hb hr (fun t ht hW => ⟨⟨(), rfl, trivial, ⟨by rw [ht]; exact hP9, va_K.moved hW.alike hK9, hD9⟩⟩, hS.F ht⟩) hS.2.2 dX22_init_121
set_option maxHeartbeats 4000000 in
set_option maxRecDepth 100000 in
theorem kX21_init {zs : Nat × Nat} (l : Launch) (dC : Nat → ClassId) (dI : Nat → Nat → Nat) (h0 : Nat) (sz : Nat)  : Met l yX21_init (wz yX21_init cX21_init 1 (Option.none : Option Jvm.ClassFile.FieldType)) ({ frames := 2, cells := 16, slots := 104, locals := 32 }) (va_Pc [.ref h0] (PRE zs dC dI [(h0, .inr (14, [.null, .int 0, .int 0, .int 0, .null, .null, .null, .null, .null, .null, .int 0, .int 0, .null, .null, .null, .null, .null, .null]))] [] sz)) (va_Qv (fun (_ : Unit) => True) (fun _ t => ∃ (q1 : Nat), ∃ (c2 : ClassId), ∃ (q3 : Nat), ∃ (q5 : Nat), ∃ (q7 : Nat), ∃ (q8 : Nat), ∃ (q9 : Nat), ∃ (q10 : Nat), ∃ (q12 : Nat), ∃ (q14 : Nat), ∃ (q16 : Nat), ∃ (q18 : Nat), ∃ (q19 : Nat), POST dC dI [(h0, .inr (14, [.ref q1, .int 0, .int 0, .int 0, .null, .ref q3, .ref q5, .ref q7, .ref q8, .ref q9, .int 0, .int 0, .ref q10, .ref q12, .ref q14, .ref q16, .ref q18, .ref q19])), (q1, .inl (c2, 16, .inl (fun _ => 0)))] [(c2, .int)] (va_A [(h0, .inr (14, [.null, .int 0, .int 0, .int 0, .null, .null, .null, .null, .null, .null, .int 0, .int 0, .null, .null, .null, .null, .null, .null]))] sz) t) (va_A [(h0, .inr (14, [.null, .int 0, .int 0, .int 0, .null, .null, .null, .null, .null, .null, .int 0, .int 0, .null, .null, .null, .null, .null, .null]))] sz)) 16 104 (va_A [(h0, .inr (14, [.null, .int 0, .int 0, .int 0, .null, .null, .null, .null, .null, .null, .int 0, .int 0, .null, .null, .null, .null, .null, .null]))] sz) := by
  refine Met.ofW (cc := cX21_init) (maxL := 1) (ret := (Option.none : Option Jvm.ClassFile.FieldType)) (by decide) rfl ?_
  intro p e s m args below meth c s₁ B hml hv
  obtain ⟨rfl, hsz, hP, hK, hD0, hE⟩ := hv
  have hx := B.exec
  have hb := B.bytes
  have hr := B.returns
  have hts0 := atoms_spec (ws := wz yX21_init cX21_init 1 (Option.none : Option Jvm.ClassFile.FieldType)) B.pre
  have hts : ∀ w ∈ gw, w.before _ s = true := fun w h => hts0 w (List.mem_cons_of_mem _ h)
  have hown : s.vm.findClass RX21 = some m.cls := findClass_of_methodNamed B.named
  have hlocks := B.notSynchronized
  have hin : meth.name = "<init>" := (name_of_methodNamed B.named B.method).1
  subst hsz
  have hD := hD0.self (sz := s.heap.size)
  generalize hAe : va_A [(h0, .inr (14, [.null, .int 0, .int 0, .int 0, .null, .null, .null, .null, .null, .null, .int 0, .int 0, .null, .null, .null, .null, .null, .null]))] s.heap.size = A at hD hE ⊢
  have hA : ∀ q : Nat, s.heap.size ≤ q → A q := fun q h => by rw [← hAe]; exact Or.inr h
  have hS : va_S A s.heap s.heap [] := va_S.rf
  have hP : va_P (dC, dI) cls [(h0, .inr (14, [.null, .int 0, .int 0, .int 0, .null, .null, .null, .null, .null, .null, .int 0, .int 0, .null, .null, .null, .null, .null, .null]))] s.heap := hP
  have hl := lv_entry ([.ref h0]) (n := 1) (Nat.le_of_ble_eq_true rfl)
  rw [lg_entry_eq]
  generalize (lg_sl ([.ref h0]) ++ List.replicate (1 - (lg_sl ([.ref h0])).length) Slot.unset).toArray = ls at hl ⊢
  have hl : lv_has ls 1 [(0, .ref h0)] := hl
  refine lv_aload_n hx hb dX21_init_0 rfl (lv_at hl 0 rfl) ?_
  refine W.objInit hx hb hown (hts _ qw358) (hts _ qw1) (hts _ qw_oi) rfl (by rw [hml]; exact hl.1) rfl dX21_init_1 (Nat.le_of_ble_eq_true rfl) (Nat.le_of_ble_eq_true rfl) ?_
  refine W.eq (g2 := F0 m 4 ls []) rfl ?_
  refine lv_aload_n hx hb dX21_init_4 rfl (lv_at hl 0 rfl) ?_
  refine lv_bipush (v := 16) hx hb dX21_init_5 (by decide) ?_
  refine va_newa (atype := .int) (ty := .int) hx hb (hts _ qw2) rfl hK hP hD hS hA (a0 := (16, .inl (fun _ => 0))) (fun _ => rfl) (by decide) (by decide +kernel) (Nat.le_of_ble_eq_true rfl) (Nat.le_of_ble_eq_true rfl) (Nat.le_of_ble_eq_true rfl) dX21_init_7 (fun q1 c2 H hK hP hD hS => ?_)
  have hP : va_P (dC, dI) cls [(h0, .inr (14, [.null, .int 0, .int 0, .int 0, .null, .null, .null, .null, .null, .null, .int 0, .int 0, .null, .null, .null, .null, .null, .null])), (q1, .inl (c2, 16, .inl (fun _ => 0)))] H := hP
  have hD : va_D A [(h0, .inr (14, [.null, .int 0, .int 0, .int 0, .null, .null, .null, .null, .null, .null, .int 0, .int 0, .null, .null, .null, .null, .null, .null])), (q1, .inl (c2, 16, .inl (fun _ => 0)))] := hD
  have hK : va_K (dC, dI) cls [(c2, .int)] s := hK
  refine W.widen (k := 1) (n := 16) (Nat.le_of_ble_eq_true rfl) (Nat.le_of_ble_eq_true rfl) ?_
  refine va_putF (D := (dC, dI)) (ci := 14) (v := .ref q1) (ty := .array .int) (C := RX21) (T := TX21) (N := 18) hx hb hts i_X21 tyX21 tyX21_ok nmX21 hown hK hP hD hS 0 rfl rfl 0 (by decide) (hts _ qw359) (fun _ h9 => h9) rfl hin rfl (by decide +kernel) rfl rfl (Nat.le_of_ble_eq_true rfl) dX21_init_9 (fun H locs hP hD hS => ?_)
  have hP : va_P (dC, dI) cls [(h0, .inr (14, [.ref q1, .int 0, .int 0, .int 0, .null, .null, .null, .null, .null, .null, .int 0, .int 0, .null, .null, .null, .null, .null, .null])), (q1, .inl (c2, 16, .inl (fun _ => 0)))] H := hP
  have hD : va_D A [(h0, .inr (14, [.ref q1, .int 0, .int 0, .int 0, .null, .null, .null, .null, .null, .null, .int 0, .int 0, .null, .null, .null, .null, .null, .null])), (q1, .inl (c2, 16, .inl (fun _ => 0)))] := hD
  refine lv_aload_n hx hb dX21_init_12 rfl (lv_at hl 0 rfl) ?_
  refine lv_iconst (v := 0) hx hb dX21_init_13 (by decide) ?_
  refine va_newq hx hb hown (hts _ qw360) (hE.2.1 _ (List.mem_append_right _ (tbl_12 (i := 10) rfl))) hK hP hD hS hA (n := 0) (N' := 0) (by decide) (by decide +kernel) (Nat.le_of_ble_eq_true rfl) (Nat.le_of_ble_eq_true rfl) (Nat.le_of_ble_eq_true rfl) dX21_init_14 (fun q3 c4 H hK hP hD hS => ?_)
  have hP : va_P (dC, dI) cls [(h0, .inr (14, [.ref q1, .int 0, .int 0, .int 0, .null, .null, .null, .null, .null, .null, .int 0, .int 0, .null, .null, .null, .null, .null, .null])), (q1, .inl (c2, 16, .inl (fun _ => 0))), (q3, .inl (c4, 0, .inr (.inr (.inr (.inr (fun _ => none))))))] H := hP
  have hD : va_D A [(h0, .inr (14, [.ref q1, .int 0, .int 0, .int 0, .null, .null, .null, .null, .null, .null, .int 0, .int 0, .null, .null, .null, .null, .null, .null])), (q1, .inl (c2, 16, .inl (fun _ => 0))), (q3, .inl (c4, 0, .inr (.inr (.inr (.inr (fun _ => none))))))] := hD
  have hK : va_K (dC, dI) cls [(c2, .int), (c4, .object RX14)] s := hK
  have hP : va_P (dC, dI) cls [(h0, .inr (14, [.ref q1, .int 0, .int 0, .int 0, .null, .null, .null, .null, .null, .null, .int 0, .int 0, .null, .null, .null, .null, .null, .null])), (q1, .inl (c2, 16, .inl (fun _ => 0)))] H := hP.sub [0, 1] rfl
  have hD : va_D A [(h0, .inr (14, [.ref q1, .int 0, .int 0, .int 0, .null, .null, .null, .null, .null, .null, .int 0, .int 0, .null, .null, .null, .null, .null, .null])), (q1, .inl (c2, 16, .inl (fun _ => 0)))] := hD.sub [0, 1] (by decide) rfl
  have hK : va_K (dC, dI) cls [(c2, .int)] s := hK.sub [0] rfl
  refine W.widen (k := 2) (n := 16) (Nat.le_of_ble_eq_true rfl) (Nat.le_of_ble_eq_true rfl) ?_
  refine va_put (D := (dC, dI)) (ci := 14) (v := .ref q3) (ty := .array (.object "GearboxModel$Graph")) (C := RX21) (T := TX21) (N := 18) hx hb hts i_X21 tyX21 tyX21_ok nmX21 hown hK hP hD hS 0 rfl rfl 5 (by decide) (hts _ qw361) (fun _ h9 => h9) rfl (by decide +kernel) rfl rfl (Nat.le_of_ble_eq_true rfl) dX21_init_17 (fun H locs hP hD hS => ?_)
  have hP : va_P (dC, dI) cls [(h0, .inr (14, [.ref q1, .int 0, .int 0, .int 0, .null, .ref q3, .null, .null, .null, .null, .int 0, .int 0, .null, .null, .null, .null, .null, .null])), (q1, .inl (c2, 16, .inl (fun _ => 0)))] H := hP
  have hD : va_D A [(h0, .inr (14, [.ref q1, .int 0, .int 0, .int 0, .null, .ref q3, .null, .null, .null, .null, .int 0, .int 0, .null, .null, .null, .null, .null, .null])), (q1, .inl (c2, 16, .inl (fun _ => 0)))] := hD
  refine lv_aload_n hx hb dX21_init_20 rfl (lv_at hl 0 rfl) ?_
  refine lv_iconst (v := 0) hx hb dX21_init_21 (by decide) ?_
  refine va_newq hx hb hown (hts _ qw362) (hE.2.1 _ (List.mem_append_right _ (tbl_12 (i := 12) rfl))) hK hP hD hS hA (n := 0) (N' := 0) (by decide) (by decide +kernel) (Nat.le_of_ble_eq_true rfl) (Nat.le_of_ble_eq_true rfl) (Nat.le_of_ble_eq_true rfl) dX21_init_22 (fun q5 c6 H hK hP hD hS => ?_)
  have hP : va_P (dC, dI) cls [(h0, .inr (14, [.ref q1, .int 0, .int 0, .int 0, .null, .ref q3, .null, .null, .null, .null, .int 0, .int 0, .null, .null, .null, .null, .null, .null])), (q1, .inl (c2, 16, .inl (fun _ => 0))), (q5, .inl (c6, 0, .inr (.inr (.inr (.inr (fun _ => none))))))] H := hP
  have hD : va_D A [(h0, .inr (14, [.ref q1, .int 0, .int 0, .int 0, .null, .ref q3, .null, .null, .null, .null, .int 0, .int 0, .null, .null, .null, .null, .null, .null])), (q1, .inl (c2, 16, .inl (fun _ => 0))), (q5, .inl (c6, 0, .inr (.inr (.inr (.inr (fun _ => none))))))] := hD
  have hK : va_K (dC, dI) cls [(c2, .int), (c6, .object RX13)] s := hK
  have hP : va_P (dC, dI) cls [(h0, .inr (14, [.ref q1, .int 0, .int 0, .int 0, .null, .ref q3, .null, .null, .null, .null, .int 0, .int 0, .null, .null, .null, .null, .null, .null])), (q1, .inl (c2, 16, .inl (fun _ => 0)))] H := hP.sub [0, 1] rfl
  have hD : va_D A [(h0, .inr (14, [.ref q1, .int 0, .int 0, .int 0, .null, .ref q3, .null, .null, .null, .null, .int 0, .int 0, .null, .null, .null, .null, .null, .null])), (q1, .inl (c2, 16, .inl (fun _ => 0)))] := hD.sub [0, 1] (by decide) rfl
  have hK : va_K (dC, dI) cls [(c2, .int)] s := hK.sub [0] rfl
  refine W.widen (k := 3) (n := 16) (Nat.le_of_ble_eq_true rfl) (Nat.le_of_ble_eq_true rfl) ?_
  refine va_put (D := (dC, dI)) (ci := 14) (v := .ref q5) (ty := .array (.object "GearboxModel$Code")) (C := RX21) (T := TX21) (N := 18) hx hb hts i_X21 tyX21 tyX21_ok nmX21 hown hK hP hD hS 0 rfl rfl 6 (by decide) (hts _ qw363) (fun _ h9 => h9) rfl (by decide +kernel) rfl rfl (Nat.le_of_ble_eq_true rfl) dX21_init_25 (fun H locs hP hD hS => ?_)
  have hP : va_P (dC, dI) cls [(h0, .inr (14, [.ref q1, .int 0, .int 0, .int 0, .null, .ref q3, .ref q5, .null, .null, .null, .int 0, .int 0, .null, .null, .null, .null, .null, .null])), (q1, .inl (c2, 16, .inl (fun _ => 0)))] H := hP
  have hD : va_D A [(h0, .inr (14, [.ref q1, .int 0, .int 0, .int 0, .null, .ref q3, .ref q5, .null, .null, .null, .int 0, .int 0, .null, .null, .null, .null, .null, .null])), (q1, .inl (c2, 16, .inl (fun _ => 0)))] := hD
  refine lv_aload_n hx hb dX21_init_28 rfl (lv_at hl 0 rfl) ?_
  refine va_new (ci := 12) (fs := [.null, .int 0]) (C := RX20) (T := TX20) (N := 2) hx hb hts i_X20 tyX20 tyX20_ok hown (hts _ qw364) (hts _ qw365) (hts _ qw366) hK hP hD hS hA rfl df_X20 (Nat.le_of_ble_eq_true rfl) (Nat.le_of_ble_eq_true rfl) dX21_init_29 (fun q7 H hP hD hS => ?_)
  have hP : va_P (dC, dI) cls [(h0, .inr (14, [.ref q1, .int 0, .int 0, .int 0, .null, .ref q3, .ref q5, .null, .null, .null, .int 0, .int 0, .null, .null, .null, .null, .null, .null])), (q1, .inl (c2, 16, .inl (fun _ => 0))), (q7, .inr (12, [.null, .int 0]))] H := hP
  have hD : va_D A [(h0, .inr (14, [.ref q1, .int 0, .int 0, .int 0, .null, .ref q3, .ref q5, .null, .null, .null, .int 0, .int 0, .null, .null, .null, .null, .null, .null])), (q1, .inl (c2, 16, .inl (fun _ => 0))), (q7, .inr (12, [.null, .int 0]))] := hD
  refine W.widen (k := 4) (n := 18) (Nat.le_of_ble_eq_true rfl) (Nat.le_of_ble_eq_true rfl) ?_
  refine lv_dup hx hb dX21_init_32 rfl ?_
  have hPc := hP.sub (ws' := [(q7, .inr (12, [.null, .int 0]))]) [2] rfl
  have hDc := hD.sub (ws' := [(q7, .inr (12, [.null, .int 0]))]) [2] (by decide) rfl
  have hKc := hK.sub (tys' := []) [] rfl
  have hFc := va_free (wc := [(q7, .inr (12, [.null, .int 0]))]) hD hS hA [2] rfl
  refine va_callv (va_runIN (As := []) (rest := [.ref q7, .ref h0]) ⟨hx, hb, hml, hown, hts⟩ (kX20_init l dC dI (h0 := q7) (sz := _)) ⟨(va_cnB 0 hts (gi_z qw367) rfl rfl rfl (hE.nw (List.mem_append_right _ (tbl_12 (i := 23) rfl)) rfl) (hts _ qw366) (by decide +kernel) ⟨Nat.le_of_ble_eq_true rfl, Nat.le_of_ble_eq_true rfl⟩), rfl, (hts _ qw368)⟩ ⟨PRE.blind, PRE.of hE hS hFc hPc hKc hDc⟩ rfl rfl hl.1 rfl (lv_room (Nat.le_of_ble_eq_true rfl)) dX21_init_33 ⟨Nat.le_of_ble_eq_true rfl, Nat.le_of_ble_eq_true rfl⟩) hS (fun q _ h => hFc q h) hFc (fun u t H locs ht hvm hw hB hz1 hk1 hS => ?_)
  obtain ⟨hP, hD, hK⟩ := JOIN (wr := [(h0, .inr (14, [.ref q1, .int 0, .int 0, .int 0, .null, .ref q3, .ref q5, .null, .null, .null, .int 0, .int 0, .null, .null, .null, .null, .null, .null])), (q1, .inl (c2, 16, .inl (fun _ => 0)))]) hP hD hK [2] [0, 1] [0] rfl rfl (by decide) (by decide) rfl hk1 hFc ht hvm hB
  have hP : va_P (dC, dI) cls [(h0, .inr (14, [.ref q1, .int 0, .int 0, .int 0, .null, .ref q3, .ref q5, .null, .null, .null, .int 0, .int 0, .null, .null, .null, .null, .null, .null])), (q1, .inl (c2, 16, .inl (fun _ => 0)))] H := hP
  have hD : va_D A [(h0, .inr (14, [.ref q1, .int 0, .int 0, .int 0, .null, .ref q3, .ref q5, .null, .null, .null, .int 0, .int 0, .null, .null, .null, .null, .null, .null])), (q1, .inl (c2, 16, .inl (fun _ => 0)))] := hD
  have hK : va_K (dC, dI) cls [(c2, .int)] s := hK
  refine W.widen (k := 5) (n := 26) (Nat.le_of_ble_eq_true rfl) (Nat.le_of_ble_eq_true rfl) ?_
  refine va_put (D := (dC, dI)) (ci := 14) (v := .ref q7) (ty := .object "GearboxModel$Row") (C := RX21) (T := TX21) (N := 18) hx hb hts i_X21 tyX21 tyX21_ok nmX21 hown hK hP hD hS 0 rfl rfl 7 (by decide) (hts _ qw369) (fun _ h9 => h9) rfl (by decide +kernel) rfl rfl (Nat.le_of_ble_eq_true rfl) dX21_init_36 (fun H locs hP hD hS => ?_)
  have hP : va_P (dC, dI) cls [(h0, .inr (14, [.ref q1, .int 0, .int 0, .int 0, .null, .ref q3, .ref q5, .ref q7, .null, .null, .int 0, .int 0, .null, .null, .null, .null, .null, .null])), (q1, .inl (c2, 16, .inl (fun _ => 0)))] H := hP
  have hD : va_D A [(h0, .inr (14, [.ref q1, .int 0, .int 0, .int 0, .null, .ref q3, .ref q5, .ref q7, .null, .null, .int 0, .int 0, .null, .null, .null, .null, .null, .null])), (q1, .inl (c2, 16, .inl (fun _ => 0)))] := hD
  refine lv_aload_n hx hb dX21_init_39 rfl (lv_at hl 0 rfl) ?_
  refine va_new (ci := 12) (fs := [.null, .int 0]) (C := RX20) (T := TX20) (N := 2) hx hb hts i_X20 tyX20 tyX20_ok hown (hts _ qw364) (hts _ qw365) (hts _ qw366) hK hP hD hS hA rfl df_X20 (Nat.le_of_ble_eq_true rfl) (Nat.le_of_ble_eq_true rfl) dX21_init_40 (fun q8 H hP hD hS => ?_)
  have hP : va_P (dC, dI) cls [(h0, .inr (14, [.ref q1, .int 0, .int 0, .int 0, .null, .ref q3, .ref q5, .ref q7, .null, .null, .int 0, .int 0, .null, .null, .null, .null, .null, .null])), (q1, .inl (c2, 16, .inl (fun _ => 0))), (q8, .inr (12, [.null, .int 0]))] H := hP
  have hD : va_D A [(h0, .inr (14, [.ref q1, .int 0, .int 0, .int 0, .null, .ref q3, .ref q5, .ref q7, .null, .null, .int 0, .int 0, .null, .null, .null, .null, .null, .null])), (q1, .inl (c2, 16, .inl (fun _ => 0))), (q8, .inr (12, [.null, .int 0]))] := hD
  refine W.widen (k := 6) (n := 28) (Nat.le_of_ble_eq_true rfl) (Nat.le_of_ble_eq_true rfl) ?_
  refine lv_dup hx hb dX21_init_43 rfl ?_
  have hPc := hP.sub (ws' := [(q8, .inr (12, [.null, .int 0]))]) [2] rfl
  have hDc := hD.sub (ws' := [(q8, .inr (12, [.null, .int 0]))]) [2] (by decide) rfl
  have hKc := hK.sub (tys' := []) [] rfl
  have hFc := va_free (wc := [(q8, .inr (12, [.null, .int 0]))]) hD hS hA [2] rfl
  refine va_callv (va_runIN (As := []) (rest := [.ref q8, .ref h0]) ⟨hx, hb, hml, hown, hts⟩ (kX20_init l dC dI (h0 := q8) (sz := _)) ⟨(va_cnB 0 hts (gi_z qw367) rfl rfl rfl (hE.nw (List.mem_append_right _ (tbl_12 (i := 23) rfl)) rfl) (hts _ qw366) (by decide +kernel) ⟨Nat.le_of_ble_eq_true rfl, Nat.le_of_ble_eq_true rfl⟩), rfl, (hts _ qw368)⟩ ⟨PRE.blind, PRE.of hE hS hFc hPc hKc hDc⟩ rfl rfl hl.1 rfl (lv_room (Nat.le_of_ble_eq_true rfl)) dX21_init_44 ⟨Nat.le_of_ble_eq_true rfl, Nat.le_of_ble_eq_true rfl⟩) hS (fun q _ h => hFc q h) hFc (fun u t H locs ht hvm hw hB hz1 hk1 hS => ?_)
  obtain ⟨hP, hD, hK⟩ := JOIN (wr := [(h0, .inr (14, [.ref q1, .int 0, .int 0, .int 0, .null, .ref q3, .ref q5, .ref q7, .null, .null, .int 0, .int 0, .null, .null, .null, .null, .null, .null])), (q1, .inl (c2, 16, .inl (fun _ => 0)))]) hP hD hK [2] [0, 1] [0] rfl rfl (by decide) (by decide) rfl hk1 hFc ht hvm hB
  have hP : va_P (dC, dI) cls [(h0, .inr (14, [.ref q1, .int 0, .int 0, .int 0, .null, .ref q3, .ref q5, .ref q7, .null, .null, .int 0, .int 0, .null, .null, .null, .null, .null, .null])), (q1, .inl (c2, 16, .inl (fun _ => 0)))] H := hP
  have hD : va_D A [(h0, .inr (14, [.ref q1, .int 0, .int 0, .int 0, .null, .ref q3, .ref q5, .ref q7, .null, .null, .int 0, .int 0, .null, .null, .null, .null, .null, .null])), (q1, .inl (c2, 16, .inl (fun _ => 0)))] := hD
  have hK : va_K (dC, dI) cls [(c2, .int)] s := hK
  refine W.widen (k := 7) (n := 36) (Nat.le_of_ble_eq_true rfl) (Nat.le_of_ble_eq_true rfl) ?_
  refine va_put (D := (dC, dI)) (ci := 14) (v := .ref q8) (ty := .object "GearboxModel$Row") (C := RX21) (T := TX21) (N := 18) hx hb hts i_X21 tyX21 tyX21_ok nmX21 hown hK hP hD hS 0 rfl rfl 8 (by decide) (hts _ qw370) (fun _ h9 => h9) rfl (by decide +kernel) rfl rfl (Nat.le_of_ble_eq_true rfl) dX21_init_47 (fun H locs hP hD hS => ?_)
  have hP : va_P (dC, dI) cls [(h0, .inr (14, [.ref q1, .int 0, .int 0, .int 0, .null, .ref q3, .ref q5, .ref q7, .ref q8, .null, .int 0, .int 0, .null, .null, .null, .null, .null, .null])), (q1, .inl (c2, 16, .inl (fun _ => 0)))] H := hP
  have hD : va_D A [(h0, .inr (14, [.ref q1, .int 0, .int 0, .int 0, .null, .ref q3, .ref q5, .ref q7, .ref q8, .null, .int 0, .int 0, .null, .null, .null, .null, .null, .null])), (q1, .inl (c2, 16, .inl (fun _ => 0)))] := hD
  refine lv_aload_n hx hb dX21_init_50 rfl (lv_at hl 0 rfl) ?_
  refine va_new (ci := 12) (fs := [.null, .int 0]) (C := RX20) (T := TX20) (N := 2) hx hb hts i_X20 tyX20 tyX20_ok hown (hts _ qw364) (hts _ qw365) (hts _ qw366) hK hP hD hS hA rfl df_X20 (Nat.le_of_ble_eq_true rfl) (Nat.le_of_ble_eq_true rfl) dX21_init_51 (fun q9 H hP hD hS => ?_)
  have hP : va_P (dC, dI) cls [(h0, .inr (14, [.ref q1, .int 0, .int 0, .int 0, .null, .ref q3, .ref q5, .ref q7, .ref q8, .null, .int 0, .int 0, .null, .null, .null, .null, .null, .null])), (q1, .inl (c2, 16, .inl (fun _ => 0))), (q9, .inr (12, [.null, .int 0]))] H := hP
  have hD : va_D A [(h0, .inr (14, [.ref q1, .int 0, .int 0, .int 0, .null, .ref q3, .ref q5, .ref q7, .ref q8, .null, .int 0, .int 0, .null, .null, .null, .null, .null, .null])), (q1, .inl (c2, 16, .inl (fun _ => 0))), (q9, .inr (12, [.null, .int 0]))] := hD
  refine W.widen (k := 8) (n := 38) (Nat.le_of_ble_eq_true rfl) (Nat.le_of_ble_eq_true rfl) ?_
  refine lv_dup hx hb dX21_init_54 rfl ?_
  have hPc := hP.sub (ws' := [(q9, .inr (12, [.null, .int 0]))]) [2] rfl
  have hDc := hD.sub (ws' := [(q9, .inr (12, [.null, .int 0]))]) [2] (by decide) rfl
  have hKc := hK.sub (tys' := []) [] rfl
  have hFc := va_free (wc := [(q9, .inr (12, [.null, .int 0]))]) hD hS hA [2] rfl
  refine va_callv (va_runIN (As := []) (rest := [.ref q9, .ref h0]) ⟨hx, hb, hml, hown, hts⟩ (kX20_init l dC dI (h0 := q9) (sz := _)) ⟨(va_cnB 0 hts (gi_z qw367) rfl rfl rfl (hE.nw (List.mem_append_right _ (tbl_12 (i := 23) rfl)) rfl) (hts _ qw366) (by decide +kernel) ⟨Nat.le_of_ble_eq_true rfl, Nat.le_of_ble_eq_true rfl⟩), rfl, (hts _ qw368)⟩ ⟨PRE.blind, PRE.of hE hS hFc hPc hKc hDc⟩ rfl rfl hl.1 rfl (lv_room (Nat.le_of_ble_eq_true rfl)) dX21_init_55 ⟨Nat.le_of_ble_eq_true rfl, Nat.le_of_ble_eq_true rfl⟩) hS (fun q _ h => hFc q h) hFc (fun u t H locs ht hvm hw hB hz1 hk1 hS => ?_)
  obtain ⟨hP, hD, hK⟩ := JOIN (wr := [(h0, .inr (14, [.ref q1, .int 0, .int 0, .int 0, .null, .ref q3, .ref q5, .ref q7, .ref q8, .null, .int 0, .int 0, .null, .null, .null, .null, .null, .null])), (q1, .inl (c2, 16, .inl (fun _ => 0)))]) hP hD hK [2] [0, 1] [0] rfl rfl (by decide) (by decide) rfl hk1 hFc ht hvm hB
  have hP : va_P (dC, dI) cls [(h0, .inr (14, [.ref q1, .int 0, .int 0, .int 0, .null, .ref q3, .ref q5, .ref q7, .ref q8, .null, .int 0, .int 0, .null, .null, .null, .null, .null, .null])), (q1, .inl (c2, 16, .inl (fun _ => 0)))] H := hP
  have hD : va_D A [(h0, .inr (14, [.ref q1, .int 0, .int 0, .int 0, .null, .ref q3, .ref q5, .ref q7, .ref q8, .null, .int 0, .int 0, .null, .null, .null, .null, .null, .null])), (q1, .inl (c2, 16, .inl (fun _ => 0)))] := hD
  have hK : va_K (dC, dI) cls [(c2, .int)] s := hK
  refine W.widen (k := 9) (n := 46) (Nat.le_of_ble_eq_true rfl) (Nat.le_of_ble_eq_true rfl) ?_
  refine va_put (D := (dC, dI)) (ci := 14) (v := .ref q9) (ty := .object "GearboxModel$Row") (C := RX21) (T := TX21) (N := 18) hx hb hts i_X21 tyX21 tyX21_ok nmX21 hown hK hP hD hS 0 rfl rfl 9 (by decide) (hts _ qw371) (fun _ h9 => h9) rfl (by decide +kernel) rfl rfl (Nat.le_of_ble_eq_true rfl) dX21_init_58 (fun H locs hP hD hS => ?_)
  have hP : va_P (dC, dI) cls [(h0, .inr (14, [.ref q1, .int 0, .int 0, .int 0, .null, .ref q3, .ref q5, .ref q7, .ref q8, .ref q9, .int 0, .int 0, .null, .null, .null, .null, .null, .null])), (q1, .inl (c2, 16, .inl (fun _ => 0)))] H := hP
  have hD : va_D A [(h0, .inr (14, [.ref q1, .int 0, .int 0, .int 0, .null, .ref q3, .ref q5, .ref q7, .ref q8, .ref q9, .int 0, .int 0, .null, .null, .null, .null, .null, .null])), (q1, .inl (c2, 16, .inl (fun _ => 0)))] := hD
  refine lv_aload_n hx hb dX21_init_61 rfl (lv_at hl 0 rfl) ?_
  refine lv_bipush (v := 8) hx hb dX21_init_62 (by decide) ?_
  refine xk_newA (t := .int) hx hb hown (hts _ qw372) hE.2.2.1 hP hD hS (n := 8) (N' := 8) (by decide) (by decide +kernel) (Nat.le_of_ble_eq_true rfl) (Nat.le_of_ble_eq_true rfl) (Nat.le_of_ble_eq_true rfl) dX21_init_64 (fun q10 H hP hD hS => ?_)
  refine W.widen (k := 10) (n := 54) (Nat.le_of_ble_eq_true rfl) (Nat.le_of_ble_eq_true rfl) ?_
  refine va_putF (D := (dC, dI)) (ci := 14) (v := .ref q10) (ty := .array (.array .int)) (C := RX21) (T := TX21) (N := 18) hx hb hts i_X21 tyX21 tyX21_ok nmX21 hown hK hP hD hS 0 rfl rfl 12 (by decide) (hts _ qw373) (fun _ h9 => h9) rfl hin rfl (by decide +kernel) rfl rfl (Nat.le_of_ble_eq_true rfl) dX21_init_67 (fun H locs hP hD hS => ?_)
  have hP : va_P (dC, dI) cls [(h0, .inr (14, [.ref q1, .int 0, .int 0, .int 0, .null, .ref q3, .ref q5, .ref q7, .ref q8, .ref q9, .int 0, .int 0, .ref q10, .null, .null, .null, .null, .null])), (q1, .inl (c2, 16, .inl (fun _ => 0)))] H := hP
  have hD : va_D A [(h0, .inr (14, [.ref q1, .int 0, .int 0, .int 0, .null, .ref q3, .ref q5, .ref q7, .ref q8, .ref q9, .int 0, .int 0, .ref q10, .null, .null, .null, .null, .null])), (q1, .inl (c2, 16, .inl (fun _ => 0)))] := hD
  refine lv_aload_n hx hb dX21_init_70 rfl (lv_at hl 0 rfl) ?_
  refine lv_bipush (v := 8) hx hb dX21_init_71 (by decide) ?_
  refine va_newa (atype := .int) (ty := .int) hx hb (hts _ qw2) rfl hK hP hD hS hA (a0 := (8, .inl (fun _ => 0))) (fun _ => rfl) (by decide) (by decide +kernel) (Nat.le_of_ble_eq_true rfl) (Nat.le_of_ble_eq_true rfl) (Nat.le_of_ble_eq_true rfl) dX21_init_73 (fun q12 c13 H hK hP hD hS => ?_)
  have hP : va_P (dC, dI) cls [(h0, .inr (14, [.ref q1, .int 0, .int 0, .int 0, .null, .ref q3, .ref q5, .ref q7, .ref q8, .ref q9, .int 0, .int 0, .ref q10, .null, .null, .null, .null, .null])), (q1, .inl (c2, 16, .inl (fun _ => 0))), (q12, .inl (c13, 8, .inl (fun _ => 0)))] H := hP
  have hD : va_D A [(h0, .inr (14, [.ref q1, .int 0, .int 0, .int 0, .null, .ref q3, .ref q5, .ref q7, .ref q8, .ref q9, .int 0, .int 0, .ref q10, .null, .null, .null, .null, .null])), (q1, .inl (c2, 16, .inl (fun _ => 0))), (q12, .inl (c13, 8, .inl (fun _ => 0)))] := hD
  have hK : va_K (dC, dI) cls [(c2, .int), (c13, .int)] s := hK
  have hP : va_P (dC, dI) cls [(h0, .inr (14, [.ref q1, .int 0, .int 0, .int 0, .null, .ref q3, .ref q5, .ref q7, .ref q8, .ref q9, .int 0, .int 0, .ref q10, .null, .null, .null, .null, .null])), (q1, .inl (c2, 16, .inl (fun _ => 0)))] H := hP.sub [0, 1] rfl
  have hD : va_D A [(h0, .inr (14, [.ref q1, .int 0, .int 0, .int 0, .null, .ref q3, .ref q5, .ref q7, .ref q8, .ref q9, .int 0, .int 0, .ref q10, .null, .null, .null, .null, .null])), (q1, .inl (c2, 16, .inl (fun _ => 0)))] := hD.sub [0, 1] (by decide) rfl
  have hK : va_K (dC, dI) cls [(c2, .int)] s := hK.sub [0] rfl
  refine W.widen (k := 11) (n := 62) (Nat.le_of_ble_eq_true rfl) (Nat.le_of_ble_eq_true rfl) ?_
  refine va_putF (D := (dC, dI)) (ci := 14) (v := .ref q12) (ty := .array .int) (C := RX21) (T := TX21) (N := 18) hx hb hts i_X21 tyX21 tyX21_ok nmX21 hown hK hP hD hS 0 rfl rfl 13 (by decide) (hts _ qw374) (fun _ h9 => h9) rfl hin rfl (by decide +kernel) rfl rfl (Nat.le_of_ble_eq_true rfl) dX21_init_75 (fun H locs hP hD hS => ?_)
  have hP : va_P (dC, dI) cls [(h0, .inr (14, [.ref q1, .int 0, .int 0, .int 0, .null, .ref q3, .ref q5, .ref q7, .ref q8, .ref q9, .int 0, .int 0, .ref q10, .ref q12, .null, .null, .null, .null])), (q1, .inl (c2, 16, .inl (fun _ => 0)))] H := hP
  have hD : va_D A [(h0, .inr (14, [.ref q1, .int 0, .int 0, .int 0, .null, .ref q3, .ref q5, .ref q7, .ref q8, .ref q9, .int 0, .int 0, .ref q10, .ref q12, .null, .null, .null, .null])), (q1, .inl (c2, 16, .inl (fun _ => 0)))] := hD
  refine lv_aload_n hx hb dX21_init_78 rfl (lv_at hl 0 rfl) ?_
  refine lv_bipush (v := 8) hx hb dX21_init_79 (by decide) ?_
  refine va_newa (atype := .int) (ty := .int) hx hb (hts _ qw2) rfl hK hP hD hS hA (a0 := (8, .inl (fun _ => 0))) (fun _ => rfl) (by decide) (by decide +kernel) (Nat.le_of_ble_eq_true rfl) (Nat.le_of_ble_eq_true rfl) (Nat.le_of_ble_eq_true rfl) dX21_init_81 (fun q14 c15 H hK hP hD hS => ?_)
  have hP : va_P (dC, dI) cls [(h0, .inr (14, [.ref q1, .int 0, .int 0, .int 0, .null, .ref q3, .ref q5, .ref q7, .ref q8, .ref q9, .int 0, .int 0, .ref q10, .ref q12, .null, .null, .null, .null])), (q1, .inl (c2, 16, .inl (fun _ => 0))), (q14, .inl (c15, 8, .inl (fun _ => 0)))] H := hP
  have hD : va_D A [(h0, .inr (14, [.ref q1, .int 0, .int 0, .int 0, .null, .ref q3, .ref q5, .ref q7, .ref q8, .ref q9, .int 0, .int 0, .ref q10, .ref q12, .null, .null, .null, .null])), (q1, .inl (c2, 16, .inl (fun _ => 0))), (q14, .inl (c15, 8, .inl (fun _ => 0)))] := hD
  have hK : va_K (dC, dI) cls [(c2, .int), (c15, .int)] s := hK
  have hP : va_P (dC, dI) cls [(h0, .inr (14, [.ref q1, .int 0, .int 0, .int 0, .null, .ref q3, .ref q5, .ref q7, .ref q8, .ref q9, .int 0, .int 0, .ref q10, .ref q12, .null, .null, .null, .null])), (q1, .inl (c2, 16, .inl (fun _ => 0)))] H := hP.sub [0, 1] rfl
  have hD : va_D A [(h0, .inr (14, [.ref q1, .int 0, .int 0, .int 0, .null, .ref q3, .ref q5, .ref q7, .ref q8, .ref q9, .int 0, .int 0, .ref q10, .ref q12, .null, .null, .null, .null])), (q1, .inl (c2, 16, .inl (fun _ => 0)))] := hD.sub [0, 1] (by decide) rfl
  have hK : va_K (dC, dI) cls [(c2, .int)] s := hK.sub [0] rfl
  refine W.widen (k := 12) (n := 70) (Nat.le_of_ble_eq_true rfl) (Nat.le_of_ble_eq_true rfl) ?_
  refine va_putF (D := (dC, dI)) (ci := 14) (v := .ref q14) (ty := .array .int) (C := RX21) (T := TX21) (N := 18) hx hb hts i_X21 tyX21 tyX21_ok nmX21 hown hK hP hD hS 0 rfl rfl 14 (by decide) (hts _ qw375) (fun _ h9 => h9) rfl hin rfl (by decide +kernel) rfl rfl (Nat.le_of_ble_eq_true rfl) dX21_init_83 (fun H locs hP hD hS => ?_)
  have hP : va_P (dC, dI) cls [(h0, .inr (14, [.ref q1, .int 0, .int 0, .int 0, .null, .ref q3, .ref q5, .ref q7, .ref q8, .ref q9, .int 0, .int 0, .ref q10, .ref q12, .ref q14, .null, .null, .null])), (q1, .inl (c2, 16, .inl (fun _ => 0)))] H := hP
  have hD : va_D A [(h0, .inr (14, [.ref q1, .int 0, .int 0, .int 0, .null, .ref q3, .ref q5, .ref q7, .ref q8, .ref q9, .int 0, .int 0, .ref q10, .ref q12, .ref q14, .null, .null, .null])), (q1, .inl (c2, 16, .inl (fun _ => 0)))] := hD
  refine lv_aload_n hx hb dX21_init_86 rfl (lv_at hl 0 rfl) ?_
  refine lv_bipush (v := 8) hx hb dX21_init_87 (by decide) ?_
  refine va_newq hx hb hown (hts _ qw376) (hE.2.1 _ (List.mem_append_right _ (tbl_12 (i := 48) rfl))) hK hP hD hS hA (n := 8) (N' := 8) (by decide) (by decide +kernel) (Nat.le_of_ble_eq_true rfl) (Nat.le_of_ble_eq_true rfl) (Nat.le_of_ble_eq_true rfl) dX21_init_89 (fun q16 c17 H hK hP hD hS => ?_)
  have hP : va_P (dC, dI) cls [(h0, .inr (14, [.ref q1, .int 0, .int 0, .int 0, .null, .ref q3, .ref q5, .ref q7, .ref q8, .ref q9, .int 0, .int 0, .ref q10, .ref q12, .ref q14, .null, .null, .null])), (q1, .inl (c2, 16, .inl (fun _ => 0))), (q16, .inl (c17, 8, .inr (.inr (.inr (.inr (fun _ => none))))))] H := hP
  have hD : va_D A [(h0, .inr (14, [.ref q1, .int 0, .int 0, .int 0, .null, .ref q3, .ref q5, .ref q7, .ref q8, .ref q9, .int 0, .int 0, .ref q10, .ref q12, .ref q14, .null, .null, .null])), (q1, .inl (c2, 16, .inl (fun _ => 0))), (q16, .inl (c17, 8, .inr (.inr (.inr (.inr (fun _ => none))))))] := hD
  have hK : va_K (dC, dI) cls [(c2, .int), (c17, .object RX12)] s := hK
  have hP : va_P (dC, dI) cls [(h0, .inr (14, [.ref q1, .int 0, .int 0, .int 0, .null, .ref q3, .ref q5, .ref q7, .ref q8, .ref q9, .int 0, .int 0, .ref q10, .ref q12, .ref q14, .null, .null, .null])), (q1, .inl (c2, 16, .inl (fun _ => 0)))] H := hP.sub [0, 1] rfl
  have hD : va_D A [(h0, .inr (14, [.ref q1, .int 0, .int 0, .int 0, .null, .ref q3, .ref q5, .ref q7, .ref q8, .ref q9, .int 0, .int 0, .ref q10, .ref q12, .ref q14, .null, .null, .null])), (q1, .inl (c2, 16, .inl (fun _ => 0)))] := hD.sub [0, 1] (by decide) rfl
  have hK : va_K (dC, dI) cls [(c2, .int)] s := hK.sub [0] rfl
  refine W.widen (k := 13) (n := 78) (Nat.le_of_ble_eq_true rfl) (Nat.le_of_ble_eq_true rfl) ?_
  refine va_putF (D := (dC, dI)) (ci := 14) (v := .ref q16) (ty := .array (.object "GearboxModel$Block")) (C := RX21) (T := TX21) (N := 18) hx hb hts i_X21 tyX21 tyX21_ok nmX21 hown hK hP hD hS 0 rfl rfl 15 (by decide) (hts _ qw377) (fun _ h9 => h9) rfl hin rfl (by decide +kernel) rfl rfl (Nat.le_of_ble_eq_true rfl) dX21_init_92 (fun H locs hP hD hS => ?_)
  have hP : va_P (dC, dI) cls [(h0, .inr (14, [.ref q1, .int 0, .int 0, .int 0, .null, .ref q3, .ref q5, .ref q7, .ref q8, .ref q9, .int 0, .int 0, .ref q10, .ref q12, .ref q14, .ref q16, .null, .null])), (q1, .inl (c2, 16, .inl (fun _ => 0)))] H := hP
  have hD : va_D A [(h0, .inr (14, [.ref q1, .int 0, .int 0, .int 0, .null, .ref q3, .ref q5, .ref q7, .ref q8, .ref q9, .int 0, .int 0, .ref q10, .ref q12, .ref q14, .ref q16, .null, .null])), (q1, .inl (c2, 16, .inl (fun _ => 0)))] := hD
  refine lv_aload_n hx hb dX21_init_95 rfl (lv_at hl 0 rfl) ?_
  refine va_new (ci := 12) (fs := [.null, .int 0]) (C := RX20) (T := TX20) (N := 2) hx hb hts i_X20 tyX20 tyX20_ok hown (hts _ qw364) (hts _ qw365) (hts _ qw366) hK hP hD hS hA rfl df_X20 (Nat.le_of_ble_eq_true rfl) (Nat.le_of_ble_eq_true rfl) dX21_init_96 (fun q18 H hP hD hS => ?_)
  have hP : va_P (dC, dI) cls [(h0, .inr (14, [.ref q1, .int 0, .int 0, .int 0, .null, .ref q3, .ref q5, .ref q7, .ref q8, .ref q9, .int 0, .int 0, .ref q10, .ref q12, .ref q14, .ref q16, .null, .null])), (q1, .inl (c2, 16, .inl (fun _ => 0))), (q18, .inr (12, [.null, .int 0]))] H := hP
  have hD : va_D A [(h0, .inr (14, [.ref q1, .int 0, .int 0, .int 0, .null, .ref q3, .ref q5, .ref q7, .ref q8, .ref q9, .int 0, .int 0, .ref q10, .ref q12, .ref q14, .ref q16, .null, .null])), (q1, .inl (c2, 16, .inl (fun _ => 0))), (q18, .inr (12, [.null, .int 0]))] := hD
  refine W.widen (k := 14) (n := 80) (Nat.le_of_ble_eq_true rfl) (Nat.le_of_ble_eq_true rfl) ?_
  refine lv_dup hx hb dX21_init_99 rfl ?_
  have hPc := hP.sub (ws' := [(q18, .inr (12, [.null, .int 0]))]) [2] rfl
  have hDc := hD.sub (ws' := [(q18, .inr (12, [.null, .int 0]))]) [2] (by decide) rfl
  have hKc := hK.sub (tys' := []) [] rfl
  have hFc := va_free (wc := [(q18, .inr (12, [.null, .int 0]))]) hD hS hA [2] rfl
  refine va_callv (va_runIN (As := []) (rest := [.ref q18, .ref h0]) ⟨hx, hb, hml, hown, hts⟩ (kX20_init l dC dI (h0 := q18) (sz := _)) ⟨(va_cnB 0 hts (gi_z qw367) rfl rfl rfl (hE.nw (List.mem_append_right _ (tbl_12 (i := 23) rfl)) rfl) (hts _ qw366) (by decide +kernel) ⟨Nat.le_of_ble_eq_true rfl, Nat.le_of_ble_eq_true rfl⟩), rfl, (hts _ qw368)⟩ ⟨PRE.blind, PRE.of hE hS hFc hPc hKc hDc⟩ rfl rfl hl.1 rfl (lv_room (Nat.le_of_ble_eq_true rfl)) dX21_init_100 ⟨Nat.le_of_ble_eq_true rfl, Nat.le_of_ble_eq_true rfl⟩) hS (fun q _ h => hFc q h) hFc (fun u t H locs ht hvm hw hB hz1 hk1 hS => ?_)
  obtain ⟨hP, hD, hK⟩ := JOIN (wr := [(h0, .inr (14, [.ref q1, .int 0, .int 0, .int 0, .null, .ref q3, .ref q5, .ref q7, .ref q8, .ref q9, .int 0, .int 0, .ref q10, .ref q12, .ref q14, .ref q16, .null, .null])), (q1, .inl (c2, 16, .inl (fun _ => 0)))]) hP hD hK [2] [0, 1] [0] rfl rfl (by decide) (by decide) rfl hk1 hFc ht hvm hB
  have hP : va_P (dC, dI) cls [(h0, .inr (14, [.ref q1, .int 0, .int 0, .int 0, .null, .ref q3, .ref q5, .ref q7, .ref q8, .ref q9, .int 0, .int 0, .ref q10, .ref q12, .ref q14, .ref q16, .null, .null])), (q1, .inl (c2, 16, .inl (fun _ => 0)))] H := hP
  have hD : va_D A [(h0, .inr (14, [.ref q1, .int 0, .int 0, .int 0, .null, .ref q3, .ref q5, .ref q7, .ref q8, .ref q9, .int 0, .int 0, .ref q10, .ref q12, .ref q14, .ref q16, .null, .null])), (q1, .inl (c2, 16, .inl (fun _ => 0)))] := hD
  have hK : va_K (dC, dI) cls [(c2, .int)] s := hK
  refine W.widen (k := 15) (n := 88) (Nat.le_of_ble_eq_true rfl) (Nat.le_of_ble_eq_true rfl) ?_
  refine va_putF (D := (dC, dI)) (ci := 14) (v := .ref q18) (ty := .object "GearboxModel$Row") (C := RX21) (T := TX21) (N := 18) hx hb hts i_X21 tyX21 tyX21_ok nmX21 hown hK hP hD hS 0 rfl rfl 16 (by decide) (hts _ qw378) (fun _ h9 => h9) rfl hin rfl (by decide +kernel) rfl rfl (Nat.le_of_ble_eq_true rfl) dX21_init_103 (fun H locs hP hD hS => ?_)
  have hP : va_P (dC, dI) cls [(h0, .inr (14, [.ref q1, .int 0, .int 0, .int 0, .null, .ref q3, .ref q5, .ref q7, .ref q8, .ref q9, .int 0, .int 0, .ref q10, .ref q12, .ref q14, .ref q16, .ref q18, .null])), (q1, .inl (c2, 16, .inl (fun _ => 0)))] H := hP
  have hD : va_D A [(h0, .inr (14, [.ref q1, .int 0, .int 0, .int 0, .null, .ref q3, .ref q5, .ref q7, .ref q8, .ref q9, .int 0, .int 0, .ref q10, .ref q12, .ref q14, .ref q16, .ref q18, .null])), (q1, .inl (c2, 16, .inl (fun _ => 0)))] := hD
  refine lv_aload_n hx hb dX21_init_106 rfl (lv_at hl 0 rfl) ?_
  refine lv_bipush (v := 16) hx hb dX21_init_107 (by decide) ?_
  refine va_newa (atype := .int) (ty := .int) hx hb (hts _ qw2) rfl hK hP hD hS hA (a0 := (16, .inl (fun _ => 0))) (fun _ => rfl) (by decide) (by decide +kernel) (Nat.le_of_ble_eq_true rfl) (Nat.le_of_ble_eq_true rfl) (Nat.le_of_ble_eq_true rfl) dX21_init_109 (fun q19 c20 H hK hP hD hS => ?_)
  have hP : va_P (dC, dI) cls [(h0, .inr (14, [.ref q1, .int 0, .int 0, .int 0, .null, .ref q3, .ref q5, .ref q7, .ref q8, .ref q9, .int 0, .int 0, .ref q10, .ref q12, .ref q14, .ref q16, .ref q18, .null])), (q1, .inl (c2, 16, .inl (fun _ => 0))), (q19, .inl (c20, 16, .inl (fun _ => 0)))] H := hP
  have hD : va_D A [(h0, .inr (14, [.ref q1, .int 0, .int 0, .int 0, .null, .ref q3, .ref q5, .ref q7, .ref q8, .ref q9, .int 0, .int 0, .ref q10, .ref q12, .ref q14, .ref q16, .ref q18, .null])), (q1, .inl (c2, 16, .inl (fun _ => 0))), (q19, .inl (c20, 16, .inl (fun _ => 0)))] := hD
  have hK : va_K (dC, dI) cls [(c2, .int), (c20, .int)] s := hK
  have hP : va_P (dC, dI) cls [(h0, .inr (14, [.ref q1, .int 0, .int 0, .int 0, .null, .ref q3, .ref q5, .ref q7, .ref q8, .ref q9, .int 0, .int 0, .ref q10, .ref q12, .ref q14, .ref q16, .ref q18, .null])), (q1, .inl (c2, 16, .inl (fun _ => 0)))] H := hP.sub [0, 1] rfl
  have hD : va_D A [(h0, .inr (14, [.ref q1, .int 0, .int 0, .int 0, .null, .ref q3, .ref q5, .ref q7, .ref q8, .ref q9, .int 0, .int 0, .ref q10, .ref q12, .ref q14, .ref q16, .ref q18, .null])), (q1, .inl (c2, 16, .inl (fun _ => 0)))] := hD.sub [0, 1] (by decide) rfl
  have hK : va_K (dC, dI) cls [(c2, .int)] s := hK.sub [0] rfl
  refine W.widen (k := 16) (n := 104) (Nat.le_of_ble_eq_true rfl) (Nat.le_of_ble_eq_true rfl) ?_
  refine va_put (D := (dC, dI)) (ci := 14) (v := .ref q19) (ty := .array .int) (C := RX21) (T := TX21) (N := 18) hx hb hts i_X21 tyX21 tyX21_ok nmX21 hown hK hP hD hS 0 rfl rfl 17 (by decide) (hts _ qw379) (fun _ h9 => h9) rfl (by decide +kernel) rfl rfl (Nat.le_of_ble_eq_true rfl) dX21_init_111 (fun H locs hP hD hS => ?_)
  have hP : va_P (dC, dI) cls [(h0, .inr (14, [.ref q1, .int 0, .int 0, .int 0, .null, .ref q3, .ref q5, .ref q7, .ref q8, .ref q9, .int 0, .int 0, .ref q10, .ref q12, .ref q14, .ref q16, .ref q18, .ref q19])), (q1, .inl (c2, 16, .inl (fun _ => 0)))] H := hP
  have hD : va_D A [(h0, .inr (14, [.ref q1, .int 0, .int 0, .int 0, .null, .ref q3, .ref q5, .ref q7, .ref q8, .ref q9, .int 0, .int 0, .ref q10, .ref q12, .ref q14, .ref q16, .ref q18, .ref q19])), (q1, .inl (c2, 16, .inl (fun _ => 0)))] := hD
  have hP9 : va_P (dC, dI) cls [(h0, .inr (14, [.ref q1, .int 0, .int 0, .int 0, .null, .ref q3, .ref q5, .ref q7, .ref q8, .ref q9, .int 0, .int 0, .ref q10, .ref q12, .ref q14, .ref q16, .ref q18, .ref q19])), (q1, .inl (c2, 16, .inl (fun _ => 0)))] H := hP.sub [0, 1] rfl
  have hD9 : va_D A [(h0, .inr (14, [.ref q1, .int 0, .int 0, .int 0, .null, .ref q3, .ref q5, .ref q7, .ref q8, .ref q9, .int 0, .int 0, .ref q10, .ref q12, .ref q14, .ref q16, .ref q18, .ref q19])), (q1, .inl (c2, 16, .inl (fun _ => 0)))] := hD.sub [0, 1] (by decide) rfl
  have hK9 : va_K (dC, dI) cls [(c2, .int)] s := hK.sub [0] rfl
  exact W.vret hx hb hr (fun t ht hW => ⟨⟨(), rfl, trivial, ⟨q1, c2, q3, q5, q7, q8, q9, q10, q12, q14, q16, q18, q19, ⟨by rw [ht]; exact hP9, va_K.moved hW.alike hK9, hD9⟩⟩⟩, hS.F ht⟩) hS.2.2 dX21_init_114
set_option maxHeartbeats 4000000 in
set_option maxRecDepth 100000 in
theorem kX24_init {zs : Nat × Nat} (l : Launch) (dC : Nat → ClassId) (dI : Nat → Nat → Nat) (h0 : Nat) (sz : Nat)  : Met l yX24_init (wz yX24_init cX24_init 1 (Option.none : Option Jvm.ClassFile.FieldType)) ({ frames := 3, cells := 51, slots := 17494, locals := 52 }) (va_Pc [.ref h0] (PRE zs dC dI [(h0, .inr (15, [.null, .int 0, .int 0, .int 0, .null, .null, .null, .null, .null]))] [] sz)) (va_Qv (fun (_ : Unit) => True) (fun _ t => ∃ (q1 : Nat), ∃ (c2 : ClassId), ∃ (q3 : Nat), ∃ (q4 : Nat), ∃ (c5 : ClassId), ∃ (q6 : Nat), ∃ (c7 : ClassId), ∃ (q8 : Nat), ∃ (q9 : Nat), ∃ (c10 : ClassId), ∃ (q11 : Nat), ∃ (q12 : Nat), ∃ (q13 : Nat), ∃ (q14 : Nat), ∃ (q15 : Nat), ∃ (q16 : Nat), ∃ (q17 : Nat), ∃ (q18 : Nat), ∃ (q19 : Nat), ∃ (q20 : Nat), ∃ (q21 : Nat), ∃ (q22 : Nat), POST dC dI [(h0, .inr (15, [.ref q1, .int 0, .int (-1), .int 0, .ref q3, .ref q4, .ref q6, .ref q8, .ref q22])), (q1, .inl (c2, 1200, .inl (fun _ => 0))), (q4, .inl (c5, 0, .inr (.inr (.inr (.inr (fun _ => none)))))), (q6, .inl (c7, 0, .inr (.inr (.inr (.inr (fun _ => none)))))), (q8, .inr (14, [.ref q9, .int 0, .int 0, .int 0, .null, .ref q11, .ref q12, .ref q13, .ref q14, .ref q15, .int 0, .int 0, .ref q16, .ref q17, .ref q18, .ref q19, .ref q20, .ref q21])), (q9, .inl (c10, 16, .inl (fun _ => 0)))] [(c2, .int), (c5, .object RX14), (c7, .object RX13), (c10, .int)] (va_A [(h0, .inr (15, [.null, .int 0, .int 0, .int 0, .null, .null, .null, .null, .null]))] sz) t) (va_A [(h0, .inr (15, [.null, .int 0, .int 0, .int 0, .null, .null, .null, .null, .null]))] sz)) 51 17494 (va_A [(h0, .inr (15, [.null, .int 0, .int 0, .int 0, .null, .null, .null, .null, .null]))] sz) := by
  refine Met.ofW (cc := cX24_init) (maxL := 1) (ret := (Option.none : Option Jvm.ClassFile.FieldType)) (by decide) rfl ?_
  intro p e s m args below meth c s₁ B hml hv
  obtain ⟨rfl, hsz, hP, hK, hD0, hE⟩ := hv
  have hx := B.exec
  have hb := B.bytes
  have hr := B.returns
  have hts0 := atoms_spec (ws := wz yX24_init cX24_init 1 (Option.none : Option Jvm.ClassFile.FieldType)) B.pre
  have hts : ∀ w ∈ gw, w.before _ s = true := fun w h => hts0 w (List.mem_cons_of_mem _ h)
  have hown : s.vm.findClass RX24 = some m.cls := findClass_of_methodNamed B.named
  have hlocks := B.notSynchronized
  have hin : meth.name = "<init>" := (name_of_methodNamed B.named B.method).1
  subst hsz
  have hD := hD0.self (sz := s.heap.size)
  generalize hAe : va_A [(h0, .inr (15, [.null, .int 0, .int 0, .int 0, .null, .null, .null, .null, .null]))] s.heap.size = A at hD hE ⊢
  have hA : ∀ q : Nat, s.heap.size ≤ q → A q := fun q h => by rw [← hAe]; exact Or.inr h
  have hS : va_S A s.heap s.heap [] := va_S.rf
  have hP : va_P (dC, dI) cls [(h0, .inr (15, [.null, .int 0, .int 0, .int 0, .null, .null, .null, .null, .null]))] s.heap := hP
  have hl := lv_entry ([.ref h0]) (n := 1) (Nat.le_of_ble_eq_true rfl)
  rw [lg_entry_eq]
  generalize (lg_sl ([.ref h0]) ++ List.replicate (1 - (lg_sl ([.ref h0])).length) Slot.unset).toArray = ls at hl ⊢
  have hl : lv_has ls 1 [(0, .ref h0)] := hl
  refine lv_aload_n hx hb dX24_init_0 rfl (lv_at hl 0 rfl) ?_
  refine W.objInit hx hb hown (hts _ qw380) (hts _ qw1) (hts _ qw_oi) rfl (by rw [hml]; exact hl.1) rfl dX24_init_1 (Nat.le_of_ble_eq_true rfl) (Nat.le_of_ble_eq_true rfl) ?_
  refine W.eq (g2 := F0 m 4 ls []) rfl ?_
  refine lv_aload_n hx hb dX24_init_4 rfl (lv_at hl 0 rfl) ?_
  refine lv_sipush (v := 1200) hx hb dX24_init_5 (by decide) ?_
  refine va_newa (atype := .int) (ty := .int) hx hb (hts _ qw2) rfl hK hP hD hS hA (a0 := (1200, .inl (fun _ => 0))) (fun _ => rfl) (by decide) (by decide +kernel) (Nat.le_of_ble_eq_true rfl) (Nat.le_of_ble_eq_true rfl) (Nat.le_of_ble_eq_true rfl) dX24_init_8 (fun q1 c2 H hK hP hD hS => ?_)
  have hP : va_P (dC, dI) cls [(h0, .inr (15, [.null, .int 0, .int 0, .int 0, .null, .null, .null, .null, .null])), (q1, .inl (c2, 1200, .inl (fun _ => 0)))] H := hP
  have hD : va_D A [(h0, .inr (15, [.null, .int 0, .int 0, .int 0, .null, .null, .null, .null, .null])), (q1, .inl (c2, 1200, .inl (fun _ => 0)))] := hD
  have hK : va_K (dC, dI) cls [(c2, .int)] s := hK
  refine W.widen (k := 1) (n := 1200) (Nat.le_of_ble_eq_true rfl) (Nat.le_of_ble_eq_true rfl) ?_
  refine va_putF (D := (dC, dI)) (ci := 15) (v := .ref q1) (ty := .array .int) (C := RX24) (T := TX24) (N := 9) hx hb hts i_X24 tyX24 tyX24_ok nmX24 hown hK hP hD hS 0 rfl rfl 0 (by decide) (hts _ qw381) (fun _ h9 => h9) rfl hin rfl (by decide +kernel) rfl rfl (Nat.le_of_ble_eq_true rfl) dX24_init_10 (fun H locs hP hD hS => ?_)
  have hP : va_P (dC, dI) cls [(h0, .inr (15, [.ref q1, .int 0, .int 0, .int 0, .null, .null, .null, .null, .null])), (q1, .inl (c2, 1200, .inl (fun _ => 0)))] H := hP
  have hD : va_D A [(h0, .inr (15, [.ref q1, .int 0, .int 0, .int 0, .null, .null, .null, .null, .null])), (q1, .inl (c2, 1200, .inl (fun _ => 0)))] := hD
  refine lv_aload_n hx hb dX24_init_13 rfl (lv_at hl 0 rfl) ?_
  refine lv_iconst (v := (-1)) hx hb dX24_init_14 (by decide) ?_
  refine va_put (D := (dC, dI)) (ci := 15) (v := .int (-1)) (ty := .int) (C := RX24) (T := TX24) (N := 9) hx hb hts i_X24 tyX24 tyX24_ok nmX24 hown hK hP hD hS 0 rfl rfl 2 (by decide) (hts _ qw382) (fun _ h9 => h9) rfl (by decide +kernel) rfl rfl (Nat.le_of_ble_eq_true rfl) dX24_init_15 (fun H locs hP hD hS => ?_)
  have hP : va_P (dC, dI) cls [(h0, .inr (15, [.ref q1, .int 0, .int (-1), .int 0, .null, .null, .null, .null, .null])), (q1, .inl (c2, 1200, .inl (fun _ => 0)))] H := hP
  have hD : va_D A [(h0, .inr (15, [.ref q1, .int 0, .int (-1), .int 0, .null, .null, .null, .null, .null])), (q1, .inl (c2, 1200, .inl (fun _ => 0)))] := hD
  refine lv_aload_n hx hb dX24_init_18 rfl (lv_at hl 0 rfl) ?_
  refine va_new (ci := 13) (fs := [.int 0, .null, .null, .null, .null, .null, .null, .null, .null, .int 0, .null, .null, .null, .null, .null]) (C := RX22) (T := TX22) (N := 15) hx hb hts i_X22 tyX22 tyX22_ok hown (hts _ qw383) (hts _ qw384) (hts _ qw385) hK hP hD hS hA rfl df_X22 (Nat.le_of_ble_eq_true rfl) (Nat.le_of_ble_eq_true rfl) dX24_init_19 (fun q3 H hP hD hS => ?_)
  have hP : va_P (dC, dI) cls [(h0, .inr (15, [.ref q1, .int 0, .int (-1), .int 0, .null, .null, .null, .null, .null])), (q1, .inl (c2, 1200, .inl (fun _ => 0))), (q3, .inr (13, [.int 0, .null, .null, .null, .null, .null, .null, .null, .null, .int 0, .null, .null, .null, .null, .null]))] H := hP
  have hD : va_D A [(h0, .inr (15, [.ref q1, .int 0, .int (-1), .int 0, .null, .null, .null, .null, .null])), (q1, .inl (c2, 1200, .inl (fun _ => 0))), (q3, .inr (13, [.int 0, .null, .null, .null, .null, .null, .null, .null, .null, .int 0, .null, .null, .null, .null, .null]))] := hD
  refine W.widen (k := 2) (n := 1215) (Nat.le_of_ble_eq_true rfl) (Nat.le_of_ble_eq_true rfl) ?_
  refine lv_dup hx hb dX24_init_22 rfl ?_
  have hPc := hP.sub (ws' := [(q3, .inr (13, [.int 0, .null, .null, .null, .null, .null, .null, .null, .null, .int 0, .null, .null, .null, .null, .null]))]) [2] rfl
  have hDc := hD.sub (ws' := [(q3, .inr (13, [.int 0, .null, .null, .null, .null, .null, .null, .null, .null, .int 0, .null, .null, .null, .null, .null]))]) [2] (by decide) rfl
  have hKc := hK.sub (tys' := []) [] rfl
  have hFc := va_free (wc := [(q3, .inr (13, [.int 0, .null, .null, .null, .null, .null, .null, .null, .null, .int 0, .null, .null, .null, .null, .null]))]) hD hS hA [2] rfl
  refine va_callv (va_runIN (As := []) (rest := [.ref q3, .ref h0]) ⟨hx, hb, hml, hown, hts⟩ (kX22_init l dC dI (h0 := q3) (sz := _)) ⟨(va_cnB 0 hts (gi_z qw386) rfl rfl rfl (hE.nw (List.mem_append_right _ (tbl_11 (i := 166) rfl)) rfl) (hts _ qw385) (by decide +kernel) ⟨Nat.le_of_ble_eq_true rfl, Nat.le_of_ble_eq_true rfl⟩), rfl, (hts _ qw387)⟩ ⟨PRE.blind, PRE.of hE hS hFc hPc hKc hDc⟩ rfl rfl hl.1 rfl (lv_room (Nat.le_of_ble_eq_true rfl)) dX24_init_23 ⟨Nat.le_of_ble_eq_true rfl, Nat.le_of_ble_eq_true rfl⟩) hS (fun q _ h => hFc q h) hFc (fun u t H locs ht hvm hw hB hz1 hk1 hS => ?_)
  obtain ⟨hP, hD, hK⟩ := JOIN (wr := [(h0, .inr (15, [.ref q1, .int 0, .int (-1), .int 0, .null, .null, .null, .null, .null])), (q1, .inl (c2, 1200, .inl (fun _ => 0)))]) hP hD hK [2] [0, 1] [0] rfl rfl (by decide) (by decide) rfl hk1 hFc ht hvm hB
  have hP : va_P (dC, dI) cls [(h0, .inr (15, [.ref q1, .int 0, .int (-1), .int 0, .null, .null, .null, .null, .null])), (q1, .inl (c2, 1200, .inl (fun _ => 0)))] H := hP
  have hD : va_D A [(h0, .inr (15, [.ref q1, .int 0, .int (-1), .int 0, .null, .null, .null, .null, .null])), (q1, .inl (c2, 1200, .inl (fun _ => 0)))] := hD
  have hK : va_K (dC, dI) cls [(c2, .int)] s := hK
  refine W.widen (k := 15) (n := 17250) (Nat.le_of_ble_eq_true rfl) (Nat.le_of_ble_eq_true rfl) ?_
  refine va_put (D := (dC, dI)) (ci := 15) (v := .ref q3) (ty := .object "GearboxModel$Text") (C := RX24) (T := TX24) (N := 9) hx hb hts i_X24 tyX24 tyX24_ok nmX24 hown hK hP hD hS 0 rfl rfl 4 (by decide) (hts _ qw388) (fun _ h9 => h9) rfl (by decide +kernel) rfl rfl (Nat.le_of_ble_eq_true rfl) dX24_init_26 (fun H locs hP hD hS => ?_)
  have hP : va_P (dC, dI) cls [(h0, .inr (15, [.ref q1, .int 0, .int (-1), .int 0, .ref q3, .null, .null, .null, .null])), (q1, .inl (c2, 1200, .inl (fun _ => 0)))] H := hP
  have hD : va_D A [(h0, .inr (15, [.ref q1, .int 0, .int (-1), .int 0, .ref q3, .null, .null, .null, .null])), (q1, .inl (c2, 1200, .inl (fun _ => 0)))] := hD
  refine lv_aload_n hx hb dX24_init_29 rfl (lv_at hl 0 rfl) ?_
  refine lv_iconst (v := 0) hx hb dX24_init_30 (by decide) ?_
  refine va_newq hx hb hown (hts _ qw389) (hE.2.1 _ (List.mem_append_right _ (tbl_12 (i := 10) rfl))) hK hP hD hS hA (n := 0) (N' := 0) (by decide) (by decide +kernel) (Nat.le_of_ble_eq_true rfl) (Nat.le_of_ble_eq_true rfl) (Nat.le_of_ble_eq_true rfl) dX24_init_31 (fun q4 c5 H hK hP hD hS => ?_)
  have hP : va_P (dC, dI) cls [(h0, .inr (15, [.ref q1, .int 0, .int (-1), .int 0, .ref q3, .null, .null, .null, .null])), (q1, .inl (c2, 1200, .inl (fun _ => 0))), (q4, .inl (c5, 0, .inr (.inr (.inr (.inr (fun _ => none))))))] H := hP
  have hD : va_D A [(h0, .inr (15, [.ref q1, .int 0, .int (-1), .int 0, .ref q3, .null, .null, .null, .null])), (q1, .inl (c2, 1200, .inl (fun _ => 0))), (q4, .inl (c5, 0, .inr (.inr (.inr (.inr (fun _ => none))))))] := hD
  have hK : va_K (dC, dI) cls [(c2, .int), (c5, .object RX14)] s := hK
  refine W.widen (k := 16) (n := 17250) (Nat.le_of_ble_eq_true rfl) (Nat.le_of_ble_eq_true rfl) ?_
  refine va_put (D := (dC, dI)) (ci := 15) (v := .ref q4) (ty := .array (.object "GearboxModel$Graph")) (C := RX24) (T := TX24) (N := 9) hx hb hts i_X24 tyX24 tyX24_ok nmX24 hown hK hP hD hS 0 rfl rfl 5 (by decide) (hts _ qw390) (fun _ h9 => h9) rfl (by decide +kernel) rfl rfl (Nat.le_of_ble_eq_true rfl) dX24_init_34 (fun H locs hP hD hS => ?_)
  have hP : va_P (dC, dI) cls [(h0, .inr (15, [.ref q1, .int 0, .int (-1), .int 0, .ref q3, .ref q4, .null, .null, .null])), (q1, .inl (c2, 1200, .inl (fun _ => 0))), (q4, .inl (c5, 0, .inr (.inr (.inr (.inr (fun _ => none))))))] H := hP
  have hD : va_D A [(h0, .inr (15, [.ref q1, .int 0, .int (-1), .int 0, .ref q3, .ref q4, .null, .null, .null])), (q1, .inl (c2, 1200, .inl (fun _ => 0))), (q4, .inl (c5, 0, .inr (.inr (.inr (.inr (fun _ => none))))))] := hD
  refine lv_aload_n hx hb dX24_init_37 rfl (lv_at hl 0 rfl) ?_
  refine lv_iconst (v := 0) hx hb dX24_init_38 (by decide) ?_
  refine va_newq hx hb hown (hts _ qw391) (hE.2.1 _ (List.mem_append_right _ (tbl_12 (i := 12) rfl))) hK hP hD hS hA (n := 0) (N' := 0) (by decide) (by decide +kernel) (Nat.le_of_ble_eq_true rfl) (Nat.le_of_ble_eq_true rfl) (Nat.le_of_ble_eq_true rfl) dX24_init_39 (fun q6 c7 H hK hP hD hS => ?_)
  have hP : va_P (dC, dI) cls [(h0, .inr (15, [.ref q1, .int 0, .int (-1), .int 0, .ref q3, .ref q4, .null, .null, .null])), (q1, .inl (c2, 1200, .inl (fun _ => 0))), (q4, .inl (c5, 0, .inr (.inr (.inr (.inr (fun _ => none)))))), (q6, .inl (c7, 0, .inr (.inr (.inr (.inr (fun _ => none))))))] H := hP
  have hD : va_D A [(h0, .inr (15, [.ref q1, .int 0, .int (-1), .int 0, .ref q3, .ref q4, .null, .null, .null])), (q1, .inl (c2, 1200, .inl (fun _ => 0))), (q4, .inl (c5, 0, .inr (.inr (.inr (.inr (fun _ => none)))))), (q6, .inl (c7, 0, .inr (.inr (.inr (.inr (fun _ => none))))))] := hD
  have hK : va_K (dC, dI) cls [(c2, .int), (c5, .object RX14), (c7, .object RX13)] s := hK
  refine W.widen (k := 17) (n := 17250) (Nat.le_of_ble_eq_true rfl) (Nat.le_of_ble_eq_true rfl) ?_
  refine va_put (D := (dC, dI)) (ci := 15) (v := .ref q6) (ty := .array (.object "GearboxModel$Code")) (C := RX24) (T := TX24) (N := 9) hx hb hts i_X24 tyX24 tyX24_ok nmX24 hown hK hP hD hS 0 rfl rfl 6 (by decide) (hts _ qw392) (fun _ h9 => h9) rfl (by decide +kernel) rfl rfl (Nat.le_of_ble_eq_true rfl) dX24_init_42 (fun H locs hP hD hS => ?_)
  have hP : va_P (dC, dI) cls [(h0, .inr (15, [.ref q1, .int 0, .int (-1), .int 0, .ref q3, .ref q4, .ref q6, .null, .null])), (q1, .inl (c2, 1200, .inl (fun _ => 0))), (q4, .inl (c5, 0, .inr (.inr (.inr (.inr (fun _ => none)))))), (q6, .inl (c7, 0, .inr (.inr (.inr (.inr (fun _ => none))))))] H := hP
  have hD : va_D A [(h0, .inr (15, [.ref q1, .int 0, .int (-1), .int 0, .ref q3, .ref q4, .ref q6, .null, .null])), (q1, .inl (c2, 1200, .inl (fun _ => 0))), (q4, .inl (c5, 0, .inr (.inr (.inr (.inr (fun _ => none)))))), (q6, .inl (c7, 0, .inr (.inr (.inr (.inr (fun _ => none))))))] := hD
  refine lv_aload_n hx hb dX24_init_45 rfl (lv_at hl 0 rfl) ?_
  refine va_new (ci := 14) (fs := [.null, .int 0, .int 0, .int 0, .null, .null, .null, .null, .null, .null, .int 0, .int 0, .null, .null, .null, .null, .null, .null]) (C := RX21) (T := TX21) (N := 18) hx hb hts i_X21 tyX21 tyX21_ok hown (hts _ qw393) (hts _ qw394) (hts _ qw395) hK hP hD hS hA rfl df_X21 (Nat.le_of_ble_eq_true rfl) (Nat.le_of_ble_eq_true rfl) dX24_init_46 (fun q8 H hP hD hS => ?_)
  have hP : va_P (dC, dI) cls [(h0, .inr (15, [.ref q1, .int 0, .int (-1), .int 0, .ref q3, .ref q4, .ref q6, .null, .null])), (q1, .inl (c2, 1200, .inl (fun _ => 0))), (q4, .inl (c5, 0, .inr (.inr (.inr (.inr (fun _ => none)))))), (q6, .inl (c7, 0, .inr (.inr (.inr (.inr (fun _ => none)))))), (q8, .inr (14, [.null, .int 0, .int 0, .int 0, .null, .null, .null, .null, .null, .null, .int 0, .int 0, .null, .null, .null, .null, .null, .null]))] H := hP
  have hD : va_D A [(h0, .inr (15, [.ref q1, .int 0, .int (-1), .int 0, .ref q3, .ref q4, .ref q6, .null, .null])), (q1, .inl (c2, 1200, .inl (fun _ => 0))), (q4, .inl (c5, 0, .inr (.inr (.inr (.inr (fun _ => none)))))), (q6, .inl (c7, 0, .inr (.inr (.inr (.inr (fun _ => none)))))), (q8, .inr (14, [.null, .int 0, .int 0, .int 0, .null, .null, .null, .null, .null, .null, .int 0, .int 0, .null, .null, .null, .null, .null, .null]))] := hD
  refine W.widen (k := 18) (n := 17268) (Nat.le_of_ble_eq_true rfl) (Nat.le_of_ble_eq_true rfl) ?_
  refine lv_dup hx hb dX24_init_49 rfl ?_
  have hPc := hP.sub (ws' := [(q8, .inr (14, [.null, .int 0, .int 0, .int 0, .null, .null, .null, .null, .null, .null, .int 0, .int 0, .null, .null, .null, .null, .null, .null]))]) [4] rfl
  have hDc := hD.sub (ws' := [(q8, .inr (14, [.null, .int 0, .int 0, .int 0, .null, .null, .null, .null, .null, .null, .int 0, .int 0, .null, .null, .null, .null, .null, .null]))]) [4] (by decide) rfl
  have hKc := hK.sub (tys' := []) [] rfl
  have hFc := va_free (wc := [(q8, .inr (14, [.null, .int 0, .int 0, .int 0, .null, .null, .null, .null, .null, .null, .int 0, .int 0, .null, .null, .null, .null, .null, .null]))]) hD hS hA [4] rfl
  refine va_callv (va_runIN (As := []) (rest := [.ref q8, .ref h0]) ⟨hx, hb, hml, hown, hts⟩ (kX21_init l dC dI (h0 := q8) (sz := _)) ⟨(va_cnB 0 hts (gi_z qw396) rfl rfl rfl (hE.nw (List.mem_append_right _ (tbl_12 (i := 15) rfl)) rfl) (hts _ qw395) (by decide +kernel) ⟨Nat.le_of_ble_eq_true rfl, Nat.le_of_ble_eq_true rfl⟩), rfl, (hts _ qw397)⟩ ⟨PRE.blind, PRE.of hE hS hFc hPc hKc hDc⟩ rfl rfl hl.1 rfl (lv_room (Nat.le_of_ble_eq_true rfl)) dX24_init_50 ⟨Nat.le_of_ble_eq_true rfl, Nat.le_of_ble_eq_true rfl⟩) hS (fun q _ h => hFc q h) hFc (fun u t H locs ht hvm hw hB hz1 hk1 hS => ?_)
  obtain ⟨q9, c10, q11, q12, q13, q14, q15, q16, q17, q18, q19, q20, q21, hB⟩ := hB
  obtain ⟨hP, hD, hK⟩ := JOIN (wr := [(h0, .inr (15, [.ref q1, .int 0, .int (-1), .int 0, .ref q3, .ref q4, .ref q6, .null, .null])), (q1, .inl (c2, 1200, .inl (fun _ => 0))), (q4, .inl (c5, 0, .inr (.inr (.inr (.inr (fun _ => none)))))), (q6, .inl (c7, 0, .inr (.inr (.inr (.inr (fun _ => none))))))]) hP hD hK [4] [0, 1, 2, 3] [0, 1, 2] rfl rfl (by decide) (by decide) rfl hk1 hFc ht hvm hB
  have hP : va_P (dC, dI) cls [(h0, .inr (15, [.ref q1, .int 0, .int (-1), .int 0, .ref q3, .ref q4, .ref q6, .null, .null])), (q1, .inl (c2, 1200, .inl (fun _ => 0))), (q4, .inl (c5, 0, .inr (.inr (.inr (.inr (fun _ => none)))))), (q6, .inl (c7, 0, .inr (.inr (.inr (.inr (fun _ => none)))))), (q8, .inr (14, [.ref q9, .int 0, .int 0, .int 0, .null, .ref q11, .ref q12, .ref q13, .ref q14, .ref q15, .int 0, .int 0, .ref q16, .ref q17, .ref q18, .ref q19, .ref q20, .ref q21])), (q9, .inl (c10, 16, .inl (fun _ => 0)))] H := hP
  have hD : va_D A [(h0, .inr (15, [.ref q1, .int 0, .int (-1), .int 0, .ref q3, .ref q4, .ref q6, .null, .null])), (q1, .inl (c2, 1200, .inl (fun _ => 0))), (q4, .inl (c5, 0, .inr (.inr (.inr (.inr (fun _ => none)))))), (q6, .inl (c7, 0, .inr (.inr (.inr (.inr (fun _ => none)))))), (q8, .inr (14, [.ref q9, .int 0, .int 0, .int 0, .null, .ref q11, .ref q12, .ref q13, .ref q14, .ref q15, .int 0, .int 0, .ref q16, .ref q17, .ref q18, .ref q19, .ref q20, .ref q21])), (q9, .inl (c10, 16, .inl (fun _ => 0)))] := hD
  have hK : va_K (dC, dI) cls [(c2, .int), (c5, .object RX14), (c7, .object RX13), (c10, .int)] s := hK
  refine W.widen (k := 34) (n := 17372) (Nat.le_of_ble_eq_true rfl) (Nat.le_of_ble_eq_true rfl) ?_
  refine va_putF (D := (dC, dI)) (ci := 15) (v := .ref q8) (ty := .object "GearboxModel$Runner") (C := RX24) (T := TX24) (N := 9) hx hb hts i_X24 tyX24 tyX24_ok nmX24 hown hK hP hD hS 0 rfl rfl 7 (by decide) (hts _ qw398) (fun _ h9 => h9) rfl hin rfl (by decide +kernel) rfl rfl (Nat.le_of_ble_eq_true rfl) dX24_init_53 (fun H locs hP hD hS => ?_)
  have hP : va_P (dC, dI) cls [(h0, .inr (15, [.ref q1, .int 0, .int (-1), .int 0, .ref q3, .ref q4, .ref q6, .ref q8, .null])), (q1, .inl (c2, 1200, .inl (fun _ => 0))), (q4, .inl (c5, 0, .inr (.inr (.inr (.inr (fun _ => none)))))), (q6, .inl (c7, 0, .inr (.inr (.inr (.inr (fun _ => none)))))), (q8, .inr (14, [.ref q9, .int 0, .int 0, .int 0, .null, .ref q11, .ref q12, .ref q13, .ref q14, .ref q15, .int 0, .int 0, .ref q16, .ref q17, .ref q18, .ref q19, .ref q20, .ref q21])), (q9, .inl (c10, 16, .inl (fun _ => 0)))] H := hP
  have hD : va_D A [(h0, .inr (15, [.ref q1, .int 0, .int (-1), .int 0, .ref q3, .ref q4, .ref q6, .ref q8, .null])), (q1, .inl (c2, 1200, .inl (fun _ => 0))), (q4, .inl (c5, 0, .inr (.inr (.inr (.inr (fun _ => none)))))), (q6, .inl (c7, 0, .inr (.inr (.inr (.inr (fun _ => none)))))), (q8, .inr (14, [.ref q9, .int 0, .int 0, .int 0, .null, .ref q11, .ref q12, .ref q13, .ref q14, .ref q15, .int 0, .int 0, .ref q16, .ref q17, .ref q18, .ref q19, .ref q20, .ref q21])), (q9, .inl (c10, 16, .inl (fun _ => 0)))] := hD
  refine lv_aload_n hx hb dX24_init_56 rfl (lv_at hl 0 rfl) ?_
  refine va_new (ci := 14) (fs := [.null, .int 0, .int 0, .int 0, .null, .null, .null, .null, .null, .null, .int 0, .int 0, .null, .null, .null, .null, .null, .null]) (C := RX21) (T := TX21) (N := 18) hx hb hts i_X21 tyX21 tyX21_ok hown (hts _ qw393) (hts _ qw394) (hts _ qw395) hK hP hD hS hA rfl df_X21 (Nat.le_of_ble_eq_true rfl) (Nat.le_of_ble_eq_true rfl) dX24_init_57 (fun q22 H hP hD hS => ?_)
  have hP : va_P (dC, dI) cls [(h0, .inr (15, [.ref q1, .int 0, .int (-1), .int 0, .ref q3, .ref q4, .ref q6, .ref q8, .null])), (q1, .inl (c2, 1200, .inl (fun _ => 0))), (q4, .inl (c5, 0, .inr (.inr (.inr (.inr (fun _ => none)))))), (q6, .inl (c7, 0, .inr (.inr (.inr (.inr (fun _ => none)))))), (q8, .inr (14, [.ref q9, .int 0, .int 0, .int 0, .null, .ref q11, .ref q12, .ref q13, .ref q14, .ref q15, .int 0, .int 0, .ref q16, .ref q17, .ref q18, .ref q19, .ref q20, .ref q21])), (q9, .inl (c10, 16, .inl (fun _ => 0))), (q22, .inr (14, [.null, .int 0, .int 0, .int 0, .null, .null, .null, .null, .null, .null, .int 0, .int 0, .null, .null, .null, .null, .null, .null]))] H := hP
  have hD : va_D A [(h0, .inr (15, [.ref q1, .int 0, .int (-1), .int 0, .ref q3, .ref q4, .ref q6, .ref q8, .null])), (q1, .inl (c2, 1200, .inl (fun _ => 0))), (q4, .inl (c5, 0, .inr (.inr (.inr (.inr (fun _ => none)))))), (q6, .inl (c7, 0, .inr (.inr (.inr (.inr (fun _ => none)))))), (q8, .inr (14, [.ref q9, .int 0, .int 0, .int 0, .null, .ref q11, .ref q12, .ref q13, .ref q14, .ref q15, .int 0, .int 0, .ref q16, .ref q17, .ref q18, .ref q19, .ref q20, .ref q21])), (q9, .inl (c10, 16, .inl (fun _ => 0))), (q22, .inr (14, [.null, .int 0, .int 0, .int 0, .null, .null, .null, .null, .null, .null, .int 0, .int 0, .null, .null, .null, .null, .null, .null]))] := hD
  refine W.widen (k := 35) (n := 17390) (Nat.le_of_ble_eq_true rfl) (Nat.le_of_ble_eq_true rfl) ?_
  refine lv_dup hx hb dX24_init_60 rfl ?_
  have hPc := hP.sub (ws' := [(q22, .inr (14, [.null, .int 0, .int 0, .int 0, .null, .null, .null, .null, .null, .null, .int 0, .int 0, .null, .null, .null, .null, .null, .null]))]) [6] rfl
  have hDc := hD.sub (ws' := [(q22, .inr (14, [.null, .int 0, .int 0, .int 0, .null, .null, .null, .null, .null, .null, .int 0, .int 0, .null, .null, .null, .null, .null, .null]))]) [6] (by decide) rfl
  have hKc := hK.sub (tys' := []) [] rfl
  have hFc := va_free (wc := [(q22, .inr (14, [.null, .int 0, .int 0, .int 0, .null, .null, .null, .null, .null, .null, .int 0, .int 0, .null, .null, .null, .null, .null, .null]))]) hD hS hA [6] rfl
  refine va_callv (va_runIN (As := []) (rest := [.ref q22, .ref h0]) ⟨hx, hb, hml, hown, hts⟩ (kX21_init l dC dI (h0 := q22) (sz := _)) ⟨(va_cnB 0 hts (gi_z qw396) rfl rfl rfl (hE.nw (List.mem_append_right _ (tbl_12 (i := 15) rfl)) rfl) (hts _ qw395) (by decide +kernel) ⟨Nat.le_of_ble_eq_true rfl, Nat.le_of_ble_eq_true rfl⟩), rfl, (hts _ qw397)⟩ ⟨PRE.blind, PRE.of hE hS hFc hPc hKc hDc⟩ rfl rfl hl.1 rfl (lv_room (Nat.le_of_ble_eq_true rfl)) dX24_init_61 ⟨Nat.le_of_ble_eq_true rfl, Nat.le_of_ble_eq_true rfl⟩) hS (fun q _ h => hFc q h) hFc (fun u t H locs ht hvm hw hB hz1 hk1 hS => ?_)
  obtain ⟨q23, c24, q25, q26, q27, q28, q29, q30, q31, q32, q33, q34, q35, hB⟩ := hB
  obtain ⟨hP, hD, hK⟩ := JOIN (wr := [(h0, .inr (15, [.ref q1, .int 0, .int (-1), .int 0, .ref q3, .ref q4, .ref q6, .ref q8, .null])), (q1, .inl (c2, 1200, .inl (fun _ => 0))), (q4, .inl (c5, 0, .inr (.inr (.inr (.inr (fun _ => none)))))), (q6, .inl (c7, 0, .inr (.inr (.inr (.inr (fun _ => none)))))), (q8, .inr (14, [.ref q9, .int 0, .int 0, .int 0, .null, .ref q11, .ref q12, .ref q13, .ref q14, .ref q15, .int 0, .int 0, .ref q16, .ref q17, .ref q18, .ref q19, .ref q20, .ref q21])), (q9, .inl (c10, 16, .inl (fun _ => 0)))]) hP hD hK [6] [0, 1, 2, 3, 4, 5] [0, 1, 2, 3] rfl rfl (by decide) (by decide) rfl hk1 hFc ht hvm hB
  have hP : va_P (dC, dI) cls [(h0, .inr (15, [.ref q1, .int 0, .int (-1), .int 0, .ref q3, .ref q4, .ref q6, .ref q8, .null])), (q1, .inl (c2, 1200, .inl (fun _ => 0))), (q4, .inl (c5, 0, .inr (.inr (.inr (.inr (fun _ => none)))))), (q6, .inl (c7, 0, .inr (.inr (.inr (.inr (fun _ => none)))))), (q8, .inr (14, [.ref q9, .int 0, .int 0, .int 0, .null, .ref q11, .ref q12, .ref q13, .ref q14, .ref q15, .int 0, .int 0, .ref q16, .ref q17, .ref q18, .ref q19, .ref q20, .ref q21])), (q9, .inl (c10, 16, .inl (fun _ => 0))), (q22, .inr (14, [.ref q23, .int 0, .int 0, .int 0, .null, .ref q25, .ref q26, .ref q27, .ref q28, .ref q29, .int 0, .int 0, .ref q30, .ref q31, .ref q32, .ref q33, .ref q34, .ref q35])), (q23, .inl (c24, 16, .inl (fun _ => 0)))] H := hP
  have hD : va_D A [(h0, .inr (15, [.ref q1, .int 0, .int (-1), .int 0, .ref q3, .ref q4, .ref q6, .ref q8, .null])), (q1, .inl (c2, 1200, .inl (fun _ => 0))), (q4, .inl (c5, 0, .inr (.inr (.inr (.inr (fun _ => none)))))), (q6, .inl (c7, 0, .inr (.inr (.inr (.inr (fun _ => none)))))), (q8, .inr (14, [.ref q9, .int 0, .int 0, .int 0, .null, .ref q11, .ref q12, .ref q13, .ref q14, .ref q15, .int 0, .int 0, .ref q16, .ref q17, .ref q18, .ref q19, .ref q20, .ref q21])), (q9, .inl (c10, 16, .inl (fun _ => 0))), (q22, .inr (14, [.ref q23, .int 0, .int 0, .int 0, .null, .ref q25, .ref q26, .ref q27, .ref q28, .ref q29, .int 0, .int 0, .ref q30, .ref q31, .ref q32, .ref q33, .ref q34, .ref q35])), (q23, .inl (c24, 16, .inl (fun _ => 0)))] := hD
  have hK : va_K (dC, dI) cls [(c2, .int), (c5, .object RX14), (c7, .object RX13), (c10, .int), (c24, .int)] s := hK
  refine W.widen (k := 51) (n := 17494) (Nat.le_of_ble_eq_true rfl) (Nat.le_of_ble_eq_true rfl) ?_
  refine va_putF (D := (dC, dI)) (ci := 15) (v := .ref q22) (ty := .object "GearboxModel$Runner") (C := RX24) (T := TX24) (N := 9) hx hb hts i_X24 tyX24 tyX24_ok nmX24 hown hK hP hD hS 0 rfl rfl 8 (by decide) (hts _ qw399) (fun _ h9 => h9) rfl hin rfl (by decide +kernel) rfl rfl (Nat.le_of_ble_eq_true rfl) dX24_init_64 (fun H locs hP hD hS => ?_)
  have hP : va_P (dC, dI) cls [(h0, .inr (15, [.ref q1, .int 0, .int (-1), .int 0, .ref q3, .ref q4, .ref q6, .ref q8, .ref q22])), (q1, .inl (c2, 1200, .inl (fun _ => 0))), (q4, .inl (c5, 0, .inr (.inr (.inr (.inr (fun _ => none)))))), (q6, .inl (c7, 0, .inr (.inr (.inr (.inr (fun _ => none)))))), (q8, .inr (14, [.ref q9, .int 0, .int 0, .int 0, .null, .ref q11, .ref q12, .ref q13, .ref q14, .ref q15, .int 0, .int 0, .ref q16, .ref q17, .ref q18, .ref q19, .ref q20, .ref q21])), (q9, .inl (c10, 16, .inl (fun _ => 0))), (q22, .inr (14, [.ref q23, .int 0, .int 0, .int 0, .null, .ref q25, .ref q26, .ref q27, .ref q28, .ref q29, .int 0, .int 0, .ref q30, .ref q31, .ref q32, .ref q33, .ref q34, .ref q35])), (q23, .inl (c24, 16, .inl (fun _ => 0)))] H := hP
  have hD : va_D A [(h0, .inr (15, [.ref q1, .int 0, .int (-1), .int 0, .ref q3, .ref q4, .ref q6, .ref q8, .ref q22])), (q1, .inl (c2, 1200, .inl (fun _ => 0))), (q4, .inl (c5, 0, .inr (.inr (.inr (.inr (fun _ => none)))))), (q6, .inl (c7, 0, .inr (.inr (.inr (.inr (fun _ => none)))))), (q8, .inr (14, [.ref q9, .int 0, .int 0, .int 0, .null, .ref q11, .ref q12, .ref q13, .ref q14, .ref q15, .int 0, .int 0, .ref q16, .ref q17, .ref q18, .ref q19, .ref q20, .ref q21])), (q9, .inl (c10, 16, .inl (fun _ => 0))), (q22, .inr (14, [.ref q23, .int 0, .int 0, .int 0, .null, .ref q25, .ref q26, .ref q27, .ref q28, .ref q29, .int 0, .int 0, .ref q30, .ref q31, .ref q32, .ref q33, .ref q34, .ref q35])), (q23, .inl (c24, 16, .inl (fun _ => 0)))] := hD
  have hP9 : va_P (dC, dI) cls [(h0, .inr (15, [.ref q1, .int 0, .int (-1), .int 0, .ref q3, .ref q4, .ref q6, .ref q8, .ref q22])), (q1, .inl (c2, 1200, .inl (fun _ => 0))), (q4, .inl (c5, 0, .inr (.inr (.inr (.inr (fun _ => none)))))), (q6, .inl (c7, 0, .inr (.inr (.inr (.inr (fun _ => none)))))), (q8, .inr (14, [.ref q9, .int 0, .int 0, .int 0, .null, .ref q11, .ref q12, .ref q13, .ref q14, .ref q15, .int 0, .int 0, .ref q16, .ref q17, .ref q18, .ref q19, .ref q20, .ref q21])), (q9, .inl (c10, 16, .inl (fun _ => 0)))] H := hP.sub [0, 1, 2, 3, 4, 5] rfl
  have hD9 : va_D A [(h0, .inr (15, [.ref q1, .int 0, .int (-1), .int 0, .ref q3, .ref q4, .ref q6, .ref q8, .ref q22])), (q1, .inl (c2, 1200, .inl (fun _ => 0))), (q4, .inl (c5, 0, .inr (.inr (.inr (.inr (fun _ => none)))))), (q6, .inl (c7, 0, .inr (.inr (.inr (.inr (fun _ => none)))))), (q8, .inr (14, [.ref q9, .int 0, .int 0, .int 0, .null, .ref q11, .ref q12, .ref q13, .ref q14, .ref q15, .int 0, .int 0, .ref q16, .ref q17, .ref q18, .ref q19, .ref q20, .ref q21])), (q9, .inl (c10, 16, .inl (fun _ => 0)))] := hD.sub [0, 1, 2, 3, 4, 5] (by decide) rfl
  have hK9 : va_K (dC, dI) cls [(c2, .int), (c5, .object RX14), (c7, .object RX13), (c10, .int)] s := hK.sub [0, 1, 2, 3] rfl
  exact W.vret hx hb hr (fun t ht hW => ⟨⟨(), rfl, trivial, ⟨q1, c2, q3, q4, c5, q6, c7, q8, q9, c10, q11, q12, q13, q14, q15, q16, q17, q18, q19, q20, q21, q22, ⟨by rw [ht]; exact hP9, va_K.moved hW.alike hK9, hD9⟩⟩⟩, hS.F ht⟩) hS.2.2 dX24_init_67
