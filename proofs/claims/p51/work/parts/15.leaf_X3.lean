abbrev cX3_tell : ByteArray := prog_5_method_3_code
def yX3_tell : MethodName := ⟨RX3, "tell", "(IIII)V"⟩
def RJ7 : String := "java/util/Arrays"
abbrev cJ7_fill_53178 : ByteArray := prog_48_method_103_code
def yJ7_fill_53178 : MethodName := ⟨RJ7, "fill", "([II)V"⟩
abbrev cX3_argumentOf : ByteArray := prog_5_method_15_code
def yX3_argumentOf : MethodName := ⟨RX3, "argumentOf", "(II)I"⟩
abbrev cX3_begin : ByteArray := prog_5_method_2_code
def yX3_begin : MethodName := ⟨RX3, "begin", "(LGearbox$Program;)V"⟩
abbrev cX3_close : ByteArray := prog_5_method_10_code
def yX3_close : MethodName := ⟨RX3, "close", "(I)Z"⟩
abbrev cX3_stop : ByteArray := prog_5_method_11_code
def yX3_stop : MethodName := ⟨RX3, "stop", "(I)V"⟩
abbrev cX3_tick : ByteArray := prog_5_method_12_code
def yX3_tick : MethodName := ⟨RX3, "tick", "(I)Z"⟩
abbrev cX3_push : ByteArray := prog_5_method_13_code
def yX3_push : MethodName := ⟨RX3, "push", "(I)V"⟩
abbrev cX3_pop : ByteArray := prog_5_method_14_code
def yX3_pop : MethodName := ⟨RX3, "pop", "()I"⟩
abbrev cX3_readWord : ByteArray := prog_5_method_17_code
def yX3_readWord : MethodName := ⟨RX3, "readWord", "(I)I"⟩
abbrev cX3_writeWord : ByteArray := prog_5_method_18_code
def yX3_writeWord : MethodName := ⟨RX3, "writeWord", "(II)V"⟩
abbrev cX3_operate : ByteArray := prog_5_method_16_code
def yX3_operate : MethodName := ⟨RX3, "operate", "(III)I"⟩
theorem dJ7_fill_53178_0 : decode cJ7_fill_53178 0 = .ok (.iconst 0, 1) := by decide +kernel
theorem dJ7_fill_53178_1 : decode cJ7_fill_53178 1 = .ok (.istore_n 2, 1) := by decide +kernel
theorem dJ7_fill_53178_2 : decode cJ7_fill_53178 2 = .ok (.aload_n 0, 1) := by decide +kernel
theorem dJ7_fill_53178_3 : decode cJ7_fill_53178 3 = .ok (.arraylength, 1) := by decide +kernel
theorem dJ7_fill_53178_4 : decode cJ7_fill_53178 4 = .ok (.istore_n 3, 1) := by decide +kernel
theorem dJ7_fill_53178_5 : decode cJ7_fill_53178 5 = .ok (.iload_n 2, 1) := by decide +kernel
theorem dJ7_fill_53178_6 : decode cJ7_fill_53178 6 = .ok (.iload_n 3, 1) := by decide +kernel
theorem dJ7_fill_53178_7 : decode cJ7_fill_53178 7 = .ok (.if_icmp .ge 13, 3) := by decide +kernel
theorem dJ7_fill_53178_10 : decode cJ7_fill_53178 10 = .ok (.aload_n 0, 1) := by decide +kernel
theorem dJ7_fill_53178_11 : decode cJ7_fill_53178 11 = .ok (.iload_n 2, 1) := by decide +kernel
theorem dJ7_fill_53178_12 : decode cJ7_fill_53178 12 = .ok (.iload_n 1, 1) := by decide +kernel
theorem dJ7_fill_53178_13 : decode cJ7_fill_53178 13 = .ok (.iastore, 1) := by decide +kernel
theorem dJ7_fill_53178_14 : decode cJ7_fill_53178 14 = .ok (.iinc 2 1, 3) := by decide +kernel
theorem dJ7_fill_53178_17 : decode cJ7_fill_53178 17 = .ok (.goto (-12), 3) := by decide +kernel
theorem dJ7_fill_53178_20 : decode cJ7_fill_53178 20 = .ok (.return_, 1) := by decide +kernel
theorem dX3_argumentOf_0 : decode cX3_argumentOf 0 = .ok (.aload_n 0, 1) := by decide +kernel
theorem dX3_argumentOf_1 : decode cX3_argumentOf 1 = .ok (.getfield 30, 3) := by decide +kernel
theorem dX3_argumentOf_4 : decode cX3_argumentOf 4 = .ok (.iload_n 1, 1) := by decide +kernel
theorem dX3_argumentOf_5 : decode cX3_argumentOf 5 = .ok (.iconst 4, 1) := by decide +kernel
theorem dX3_argumentOf_6 : decode cX3_argumentOf 6 = .ok (.imul, 1) := by decide +kernel
theorem dX3_argumentOf_7 : decode cX3_argumentOf 7 = .ok (.iload_n 2, 1) := by decide +kernel
theorem dX3_argumentOf_8 : decode cX3_argumentOf 8 = .ok (.iadd, 1) := by decide +kernel
theorem dX3_argumentOf_9 : decode cX3_argumentOf 9 = .ok (.iaload, 1) := by decide +kernel
theorem dX3_argumentOf_10 : decode cX3_argumentOf 10 = .ok (.ireturn, 1) := by decide +kernel
theorem dX3_begin_0 : decode cX3_begin 0 = .ok (.aload_n 0, 1) := by decide +kernel
theorem dX3_begin_1 : decode cX3_begin 1 = .ok (.aload_n 1, 1) := by decide +kernel
theorem dX3_begin_2 : decode cX3_begin 2 = .ok (.putfield 42, 3) := by decide +kernel
theorem dX3_begin_5 : decode cX3_begin 5 = .ok (.aload_n 0, 1) := by decide +kernel
theorem dX3_begin_6 : decode cX3_begin 6 = .ok (.iconst 0, 1) := by decide +kernel
theorem dX3_begin_7 : decode cX3_begin 7 = .ok (.putfield 54, 3) := by decide +kernel
theorem dX3_begin_10 : decode cX3_begin 10 = .ok (.aload_n 0, 1) := by decide +kernel
theorem dX3_begin_11 : decode cX3_begin 11 = .ok (.iconst 0, 1) := by decide +kernel
theorem dX3_begin_12 : decode cX3_begin 12 = .ok (.putfield 58, 3) := by decide +kernel
theorem dX3_begin_15 : decode cX3_begin 15 = .ok (.aload_n 0, 1) := by decide +kernel
theorem dX3_begin_16 : decode cX3_begin 16 = .ok (.iconst 0, 1) := by decide +kernel
theorem dX3_begin_17 : decode cX3_begin 17 = .ok (.putfield 61, 3) := by decide +kernel
theorem dX3_begin_20 : decode cX3_begin 20 = .ok (.aload_n 0, 1) := by decide +kernel
theorem dX3_begin_21 : decode cX3_begin 21 = .ok (.getfield 9, 3) := by decide +kernel
theorem dX3_begin_24 : decode cX3_begin 24 = .ok (.iconst 0, 1) := by decide +kernel
theorem dX3_begin_25 : decode cX3_begin 25 = .ok (.invokestatic 64, 3) := by decide +kernel
theorem dX3_begin_28 : decode cX3_begin 28 = .ok (.return_, 1) := by decide +kernel
theorem dX3_close_0 : decode cX3_close 0 = .ok (.aload_n 0, 1) := by decide +kernel
theorem dX3_close_1 : decode cX3_close 1 = .ok (.dup, 1) := by decide +kernel
theorem dX3_close_2 : decode cX3_close 2 = .ok (.getfield 84, 3) := by decide +kernel
theorem dX3_close_5 : decode cX3_close 5 = .ok (.iconst 1, 1) := by decide +kernel
theorem dX3_close_6 : decode cX3_close 6 = .ok (.isub, 1) := by decide +kernel
theorem dX3_close_7 : decode cX3_close 7 = .ok (.putfield 84, 3) := by decide +kernel
theorem dX3_close_10 : decode cX3_close 10 = .ok (.aload_n 0, 1) := by decide +kernel
theorem dX3_close_11 : decode cX3_close 11 = .ok (.getfield 84, 3) := by decide +kernel
theorem dX3_close_14 : decode cX3_close 14 = .ok (.ifCond .ne 13, 3) := by decide +kernel
theorem dX3_close_17 : decode cX3_close 17 = .ok (.aload_n 0, 1) := by decide +kernel
theorem dX3_close_18 : decode cX3_close 18 = .ok (.iconst 0, 1) := by decide +kernel
theorem dX3_close_19 : decode cX3_close 19 = .ok (.invokevirtual 137, 3) := by decide +kernel
theorem dX3_close_22 : decode cX3_close 22 = .ok (.aload_n 0, 1) := by decide +kernel
theorem dX3_close_23 : decode cX3_close 23 = .ok (.iload_n 1, 1) := by decide +kernel
theorem dX3_close_24 : decode cX3_close 24 = .ok (.putfield 58, 3) := by decide +kernel
theorem dX3_close_27 : decode cX3_close 27 = .ok (.aload_n 0, 1) := by decide +kernel
theorem dX3_close_28 : decode cX3_close 28 = .ok (.getfield 84, 3) := by decide +kernel
theorem dX3_close_31 : decode cX3_close 31 = .ok (.ifCond .le 7, 3) := by decide +kernel
theorem dX3_close_34 : decode cX3_close 34 = .ok (.iconst 1, 1) := by decide +kernel
theorem dX3_close_35 : decode cX3_close 35 = .ok (.goto 4, 3) := by decide +kernel
theorem dX3_close_38 : decode cX3_close 38 = .ok (.iconst 0, 1) := by decide +kernel
theorem dX3_close_39 : decode cX3_close 39 = .ok (.ireturn, 1) := by decide +kernel
theorem dX3_operate_0 : decode cX3_operate 0 = .ok (.iload_n 1, 1) := by decide +kernel
theorem dX3_operate_1 : decode cX3_operate 1 = .ok (.iload_n 3, 1) := by decide +kernel
theorem dX3_operate_2 : decode cX3_operate 2 = .ok (.invokestatic 150, 3) := by decide +kernel
theorem dX3_operate_5 : decode cX3_operate 5 = .ok (.ifCond .eq 10, 3) := by decide +kernel
theorem dX3_operate_8 : decode cX3_operate 8 = .ok (.aload_n 0, 1) := by decide +kernel
theorem dX3_operate_9 : decode cX3_operate 9 = .ok (.iconst 1, 1) := by decide +kernel
theorem dX3_operate_10 : decode cX3_operate 10 = .ok (.invokevirtual 137, 3) := by decide +kernel
theorem dX3_operate_13 : decode cX3_operate 13 = .ok (.iconst 0, 1) := by decide +kernel
theorem dX3_operate_14 : decode cX3_operate 14 = .ok (.ireturn, 1) := by decide +kernel
theorem dX3_operate_15 : decode cX3_operate 15 = .ok (.iload_n 1, 1) := by decide +kernel
theorem dX3_operate_16 : decode cX3_operate 16 = .ok (.iload_n 2, 1) := by decide +kernel
theorem dX3_operate_17 : decode cX3_operate 17 = .ok (.iload_n 3, 1) := by decide +kernel
theorem dX3_operate_18 : decode cX3_operate 18 = .ok (.invokestatic 154, 3) := by decide +kernel
theorem dX3_operate_21 : decode cX3_operate 21 = .ok (.ireturn, 1) := by decide +kernel
theorem dX3_pop_0 : decode cX3_pop 0 = .ok (.aload_n 0, 1) := by decide +kernel
theorem dX3_pop_1 : decode cX3_pop 1 = .ok (.getfield 87, 3) := by decide +kernel
theorem dX3_pop_4 : decode cX3_pop 4 = .ok (.ifCond .ne 5, 3) := by decide +kernel
theorem dX3_pop_7 : decode cX3_pop 7 = .ok (.iconst 0, 1) := by decide +kernel
theorem dX3_pop_8 : decode cX3_pop 8 = .ok (.ireturn, 1) := by decide +kernel
theorem dX3_pop_9 : decode cX3_pop 9 = .ok (.aload_n 0, 1) := by decide +kernel
theorem dX3_pop_10 : decode cX3_pop 10 = .ok (.dup, 1) := by decide +kernel
theorem dX3_pop_11 : decode cX3_pop 11 = .ok (.getfield 87, 3) := by decide +kernel
theorem dX3_pop_14 : decode cX3_pop 14 = .ok (.iconst 1, 1) := by decide +kernel
theorem dX3_pop_15 : decode cX3_pop 15 = .ok (.isub, 1) := by decide +kernel
theorem dX3_pop_16 : decode cX3_pop 16 = .ok (.putfield 87, 3) := by decide +kernel
theorem dX3_pop_19 : decode cX3_pop 19 = .ok (.aload_n 0, 1) := by decide +kernel
theorem dX3_pop_20 : decode cX3_pop 20 = .ok (.getfield 39, 3) := by decide +kernel
theorem dX3_pop_23 : decode cX3_pop 23 = .ok (.aload_n 0, 1) := by decide +kernel
theorem dX3_pop_24 : decode cX3_pop 24 = .ok (.getfield 87, 3) := by decide +kernel
theorem dX3_pop_27 : decode cX3_pop 27 = .ok (.iaload, 1) := by decide +kernel
theorem dX3_pop_28 : decode cX3_pop 28 = .ok (.ireturn, 1) := by decide +kernel
theorem dX3_push_0 : decode cX3_push 0 = .ok (.aload_n 0, 1) := by decide +kernel
theorem dX3_push_1 : decode cX3_push 1 = .ok (.getfield 87, 3) := by decide +kernel
theorem dX3_push_4 : decode cX3_push 4 = .ok (.sipush 512, 3) := by decide +kernel
theorem dX3_push_7 : decode cX3_push 7 = .ok (.if_icmp .ge 23, 3) := by decide +kernel
theorem dX3_push_10 : decode cX3_push 10 = .ok (.aload_n 0, 1) := by decide +kernel
theorem dX3_push_11 : decode cX3_push 11 = .ok (.getfield 39, 3) := by decide +kernel
theorem dX3_push_14 : decode cX3_push 14 = .ok (.aload_n 0, 1) := by decide +kernel
theorem dX3_push_15 : decode cX3_push 15 = .ok (.getfield 87, 3) := by decide +kernel
theorem dX3_push_18 : decode cX3_push 18 = .ok (.iload_n 1, 1) := by decide +kernel
theorem dX3_push_19 : decode cX3_push 19 = .ok (.iastore, 1) := by decide +kernel
theorem dX3_push_20 : decode cX3_push 20 = .ok (.aload_n 0, 1) := by decide +kernel
theorem dX3_push_21 : decode cX3_push 21 = .ok (.dup, 1) := by decide +kernel
theorem dX3_push_22 : decode cX3_push 22 = .ok (.getfield 87, 3) := by decide +kernel
theorem dX3_push_25 : decode cX3_push 25 = .ok (.iconst 1, 1) := by decide +kernel
theorem dX3_push_26 : decode cX3_push 26 = .ok (.iadd, 1) := by decide +kernel
theorem dX3_push_27 : decode cX3_push 27 = .ok (.putfield 87, 3) := by decide +kernel
theorem dX3_push_30 : decode cX3_push 30 = .ok (.return_, 1) := by decide +kernel
theorem dX3_readWord_0 : decode cX3_readWord 0 = .ok (.aload_n 0, 1) := by decide +kernel
theorem dX3_readWord_1 : decode cX3_readWord 1 = .ok (.getfield 9, 3) := by decide +kernel
theorem dX3_readWord_4 : decode cX3_readWord 4 = .ok (.iload_n 1, 1) := by decide +kernel
theorem dX3_readWord_5 : decode cX3_readWord 5 = .ok (.bipush 15, 2) := by decide +kernel
theorem dX3_readWord_7 : decode cX3_readWord 7 = .ok (.iand, 1) := by decide +kernel
theorem dX3_readWord_8 : decode cX3_readWord 8 = .ok (.iaload, 1) := by decide +kernel
theorem dX3_readWord_9 : decode cX3_readWord 9 = .ok (.ireturn, 1) := by decide +kernel
theorem dX3_stop_0 : decode cX3_stop 0 = .ok (.aload_n 0, 1) := by decide +kernel
theorem dX3_stop_1 : decode cX3_stop 1 = .ok (.iload_n 1, 1) := by decide +kernel
theorem dX3_stop_2 : decode cX3_stop 2 = .ok (.putfield 54, 3) := by decide +kernel
theorem dX3_stop_5 : decode cX3_stop 5 = .ok (.aload_n 0, 1) := by decide +kernel
theorem dX3_stop_6 : decode cX3_stop 6 = .ok (.iconst 0, 1) := by decide +kernel
theorem dX3_stop_7 : decode cX3_stop 7 = .ok (.putfield 80, 3) := by decide +kernel
theorem dX3_stop_10 : decode cX3_stop 10 = .ok (.return_, 1) := by decide +kernel
theorem dX3_tell_0 : decode cX3_tell 0 = .ok (.aload_n 0, 1) := by decide +kernel
theorem dX3_tell_1 : decode cX3_tell 1 = .ok (.getfield 15, 3) := by decide +kernel
theorem dX3_tell_4 : decode cX3_tell 4 = .ok (.iconst 0, 1) := by decide +kernel
theorem dX3_tell_5 : decode cX3_tell 5 = .ok (.iload_n 1, 1) := by decide +kernel
theorem dX3_tell_6 : decode cX3_tell 6 = .ok (.iastore, 1) := by decide +kernel
theorem dX3_tell_7 : decode cX3_tell 7 = .ok (.aload_n 0, 1) := by decide +kernel
theorem dX3_tell_8 : decode cX3_tell 8 = .ok (.getfield 15, 3) := by decide +kernel
theorem dX3_tell_11 : decode cX3_tell 11 = .ok (.iconst 1, 1) := by decide +kernel
theorem dX3_tell_12 : decode cX3_tell 12 = .ok (.iload_n 2, 1) := by decide +kernel
theorem dX3_tell_13 : decode cX3_tell 13 = .ok (.iastore, 1) := by decide +kernel
theorem dX3_tell_14 : decode cX3_tell 14 = .ok (.aload_n 0, 1) := by decide +kernel
theorem dX3_tell_15 : decode cX3_tell 15 = .ok (.getfield 15, 3) := by decide +kernel
theorem dX3_tell_18 : decode cX3_tell 18 = .ok (.iconst 2, 1) := by decide +kernel
theorem dX3_tell_19 : decode cX3_tell 19 = .ok (.iload_n 3, 1) := by decide +kernel
theorem dX3_tell_20 : decode cX3_tell 20 = .ok (.iastore, 1) := by decide +kernel
theorem dX3_tell_21 : decode cX3_tell 21 = .ok (.aload_n 0, 1) := by decide +kernel
theorem dX3_tell_22 : decode cX3_tell 22 = .ok (.getfield 15, 3) := by decide +kernel
theorem dX3_tell_25 : decode cX3_tell 25 = .ok (.iconst 3, 1) := by decide +kernel
theorem dX3_tell_26 : decode cX3_tell 26 = .ok (.iload 4, 2) := by decide +kernel
theorem dX3_tell_28 : decode cX3_tell 28 = .ok (.iastore, 1) := by decide +kernel
theorem dX3_tell_29 : decode cX3_tell 29 = .ok (.return_, 1) := by decide +kernel
theorem dX3_tick_0 : decode cX3_tick 0 = .ok (.aload_n 0, 1) := by decide +kernel
theorem dX3_tick_1 : decode cX3_tick 1 = .ok (.getfield 61, 3) := by decide +kernel
theorem dX3_tick_4 : decode cX3_tick 4 = .ok (.iload_n 1, 1) := by decide +kernel
theorem dX3_tick_5 : decode cX3_tick 5 = .ok (.iadd, 1) := by decide +kernel
theorem dX3_tick_6 : decode cX3_tick 6 = .ok (.sipush 5000, 3) := by decide +kernel
theorem dX3_tick_9 : decode cX3_tick 9 = .ok (.if_icmp .le 17, 3) := by decide +kernel
theorem dX3_tick_12 : decode cX3_tick 12 = .ok (.aload_n 0, 1) := by decide +kernel
theorem dX3_tick_13 : decode cX3_tick 13 = .ok (.sipush 5000, 3) := by decide +kernel
theorem dX3_tick_16 : decode cX3_tick 16 = .ok (.putfield 61, 3) := by decide +kernel
theorem dX3_tick_19 : decode cX3_tick 19 = .ok (.aload_n 0, 1) := by decide +kernel
theorem dX3_tick_20 : decode cX3_tick 20 = .ok (.iconst 2, 1) := by decide +kernel
theorem dX3_tick_21 : decode cX3_tick 21 = .ok (.invokevirtual 137, 3) := by decide +kernel
theorem dX3_tick_24 : decode cX3_tick 24 = .ok (.iconst 0, 1) := by decide +kernel
theorem dX3_tick_25 : decode cX3_tick 25 = .ok (.ireturn, 1) := by decide +kernel
theorem dX3_tick_26 : decode cX3_tick 26 = .ok (.aload_n 0, 1) := by decide +kernel
theorem dX3_tick_27 : decode cX3_tick 27 = .ok (.dup, 1) := by decide +kernel
theorem dX3_tick_28 : decode cX3_tick 28 = .ok (.getfield 61, 3) := by decide +kernel
theorem dX3_tick_31 : decode cX3_tick 31 = .ok (.iload_n 1, 1) := by decide +kernel
theorem dX3_tick_32 : decode cX3_tick 32 = .ok (.iadd, 1) := by decide +kernel
theorem dX3_tick_33 : decode cX3_tick 33 = .ok (.putfield 61, 3) := by decide +kernel
theorem dX3_tick_36 : decode cX3_tick 36 = .ok (.iconst 1, 1) := by decide +kernel
theorem dX3_tick_37 : decode cX3_tick 37 = .ok (.ireturn, 1) := by decide +kernel
theorem dX3_writeWord_0 : decode cX3_writeWord 0 = .ok (.aload_n 0, 1) := by decide +kernel
theorem dX3_writeWord_1 : decode cX3_writeWord 1 = .ok (.getfield 9, 3) := by decide +kernel
theorem dX3_writeWord_4 : decode cX3_writeWord 4 = .ok (.iload_n 1, 1) := by decide +kernel
theorem dX3_writeWord_5 : decode cX3_writeWord 5 = .ok (.bipush 15, 2) := by decide +kernel
theorem dX3_writeWord_7 : decode cX3_writeWord 7 = .ok (.iand, 1) := by decide +kernel
theorem dX3_writeWord_8 : decode cX3_writeWord 8 = .ok (.iload_n 2, 1) := by decide +kernel
theorem dX3_writeWord_9 : decode cX3_writeWord 9 = .ok (.iastore, 1) := by decide +kernel
theorem dX3_writeWord_10 : decode cX3_writeWord 10 = .ok (.return_, 1) := by decide +kernel
theorem qw126 : Cond.fieldLink RX3 15 "Gearbox$Machine" "told" "[I" ∈ gw := mq_3 (i := 233) rfl rfl
theorem qw264 : Cond.initialized RJ7 ∈ gw := mq_1 (i := 10) rfl rfl
theorem qw351 : Cond.code yX11_isFailing cX11_isFailing 2 (Option.some Jvm.ClassFile.FieldType.boolean) ∈ gw := mq_7 (i := 176) rfl rfl
theorem qw352 : Cond.static yX11_isFailing ∈ gw := mq_7 (i := 175) rfl rfl
theorem qw353 : Cond.code yX11_compute cX11_compute 3 (Option.some Jvm.ClassFile.FieldType.int) ∈ gw := mq_7 (i := 179) rfl rfl
theorem qw354 : Cond.static yX11_compute ∈ gw := mq_7 (i := 178) rfl rfl
theorem qw427 : Cond.fieldLink RX3 30 "Gearbox$Machine" "arguments" "[I" ∈ gw := mq_4 (i := 0) rfl rfl
theorem qw428 : Cond.fieldLink RX3 42 "Gearbox$Machine" "program" "LGearbox$Program;" ∈ gw := mq_3 (i := 230) rfl rfl
theorem qw429 : Cond.fieldLink RX3 54 "Gearbox$Machine" "outcome" "I" ∈ gw := mq_3 (i := 222) rfl rfl
theorem qw430 : Cond.fieldLink RX3 58 "Gearbox$Machine" "result" "I" ∈ gw := mq_3 (i := 224) rfl rfl
theorem qw431 : Cond.fieldLink RX3 61 "Gearbox$Machine" "steps" "I" ∈ gw := mq_3 (i := 226) rfl rfl
theorem qw432 : Cond.fieldLink RX3 9 "Gearbox$Machine" "memory" "[I" ∈ gw := mq_3 (i := 228) rfl rfl
theorem qw433 : Cond.code yJ7_fill_53178 cJ7_fill_53178 4 (Option.none : Option Jvm.ClassFile.FieldType) ∈ gw := mq_5 (i := 226) rfl rfl
theorem qw434 : Cond.methodLink RX3 64 yJ7_fill_53178 ∈ gw := mq_7 (i := 127) rfl rfl
theorem qw435 : Cond.static yJ7_fill_53178 ∈ gw := mq_5 (i := 225) rfl rfl
theorem qw436 : Cond.fieldLink RX3 84 "Gearbox$Machine" "calls" "I" ∈ gw := mq_3 (i := 235) rfl rfl
theorem qw437 : Cond.fieldLink RX3 80 "Gearbox$Machine" "isRunning" "Z" ∈ gw := mq_3 (i := 234) rfl rfl
theorem qw438 : Cond.code yX3_stop cX3_stop 2 (Option.none : Option Jvm.ClassFile.FieldType) ∈ gw := mq_9 (i := 191) rfl rfl
theorem qw439 : Cond.methodLink RX3 137 yX3_stop ∈ gw := mq_9 (i := 188) rfl rfl
theorem qw440 : Cond.instanceMethod yX3_stop ∈ gw := mq_9 (i := 190) rfl rfl
theorem qw441 : Cond.selects RX3 yX3_stop yX3_stop ∈ gw := mk_s (i := 16) rfl rfl
theorem qw442 : Cond.initialized RX3 ∈ gw := mq_1 (i := 27) rfl rfl
theorem qw463 : Cond.fieldLink RX3 39 "Gearbox$Machine" "waiting" "[I" ∈ gw := mq_4 (i := 4) rfl rfl
theorem qw478 : Cond.fieldLink RX3 87 "Gearbox$Machine" "count" "I" ∈ gw := mq_4 (i := 5) rfl rfl
set_option maxHeartbeats 4000000 in
set_option maxRecDepth 100000 in
theorem kX3_argumentOf {zs : Nat × Nat} (l : Launch) (dC : Nat → ClassId) (dI : Nat → Nat → Nat) (h0 : Nat) (w_outcome : Int32) (w_result : Int32) (w_steps : Int32) (w_memoryA : Nat) (w_flowsR : Nat) (w_toldA : Nat) (w_isRunning : Int32) (w_calls : Int32) (w_functionA : Nat) (w_atA : Nat) (w_blockA : Nat) (w_blockAheadA : Nat) (w_argumentsA : Nat) (w_argumentsC : ClassId) (w_argumentsF : Nat → Int32) (w_cellsA : Nat) (w_slotsA : Nat) (w_slotRoom : Int32) (w_waitingA : Nat) (w_count : Int32) (w_programO : Nat) (w_allocatorO : Nat) (p0 : Int32) (p1 : Int32) (sz : Nat) (hq1 : vp_in ((p0 * 4) + p1) 32) : Met l yX3_argumentOf (wz yX3_argumentOf cX3_argumentOf 3 (Option.some Jvm.ClassFile.FieldType.int)) ({ frames := 0, cells := 0, slots := 0, locals := 0 }) (va_Pc [.ref h0, .int p0, .int p1] (PRE zs dC dI [(h0, .inr (10, [.int w_outcome, .int w_result, .int w_steps, .ref w_memoryA, .ref w_programO, .ref w_flowsR, .ref w_allocatorO, .ref w_toldA, .int w_isRunning, .int w_calls, .ref w_functionA, .ref w_atA, .ref w_blockA, .ref w_blockAheadA, .ref w_argumentsA, .ref w_cellsA, .ref w_slotsA, .int w_slotRoom, .ref w_waitingA, .int w_count])), (w_argumentsA, .inl (w_argumentsC, 32, .inl w_argumentsF))] [(w_argumentsC, .int)] sz)) (va_Qi (fun (r : Int32) (_ : Unit) => r = (w_argumentsF (Int32.toNatClampNeg ((p0 * 4) + p1)))) (fun _ t => POST dC dI [(h0, .inr (10, [.int w_outcome, .int w_result, .int w_steps, .ref w_memoryA, .ref w_programO, .ref w_flowsR, .ref w_allocatorO, .ref w_toldA, .int w_isRunning, .int w_calls, .ref w_functionA, .ref w_atA, .ref w_blockA, .ref w_blockAheadA, .ref w_argumentsA, .ref w_cellsA, .ref w_slotsA, .int w_slotRoom, .ref w_waitingA, .int w_count])), (w_argumentsA, .inl (w_argumentsC, 32, .inl w_argumentsF))] [(w_argumentsC, .int)] (va_A [(h0, .inr (10, [.int w_outcome, .int w_result, .int w_steps, .ref w_memoryA, .ref w_programO, .ref w_flowsR, .ref w_allocatorO, .ref w_toldA, .int w_isRunning, .int w_calls, .ref w_functionA, .ref w_atA, .ref w_blockA, .ref w_blockAheadA, .ref w_argumentsA, .ref w_cellsA, .ref w_slotsA, .int w_slotRoom, .ref w_waitingA, .int w_count])), (w_argumentsA, .inl (w_argumentsC, 32, .inl w_argumentsF))] sz) t) (va_A [(h0, .inr (10, [.int w_outcome, .int w_result, .int w_steps, .ref w_memoryA, .ref w_programO, .ref w_flowsR, .ref w_allocatorO, .ref w_toldA, .int w_isRunning, .int w_calls, .ref w_functionA, .ref w_atA, .ref w_blockA, .ref w_blockAheadA, .ref w_argumentsA, .ref w_cellsA, .ref w_slotsA, .int w_slotRoom, .ref w_waitingA, .int w_count])), (w_argumentsA, .inl (w_argumentsC, 32, .inl w_argumentsF))] sz)) 0 0 (va_A [(h0, .inr (10, [.int w_outcome, .int w_result, .int w_steps, .ref w_memoryA, .ref w_programO, .ref w_flowsR, .ref w_allocatorO, .ref w_toldA, .int w_isRunning, .int w_calls, .ref w_functionA, .ref w_atA, .ref w_blockA, .ref w_blockAheadA, .ref w_argumentsA, .ref w_cellsA, .ref w_slotsA, .int w_slotRoom, .ref w_waitingA, .int w_count])), (w_argumentsA, .inl (w_argumentsC, 32, .inl w_argumentsF))] sz) := by
  refine Met.ofW (cc := cX3_argumentOf) (maxL := 3) (ret := (Option.some Jvm.ClassFile.FieldType.int)) (by decide) rfl ?_
  intro p e s m args below meth c s₁ B hml hv
  obtain ⟨rfl, hsz, hP, hK, hD0, hE⟩ := hv
  have hx := B.exec
  have hb := B.bytes
  have hr := B.returns
  have hts0 := atoms_spec (ws := wz yX3_argumentOf cX3_argumentOf 3 (Option.some Jvm.ClassFile.FieldType.int)) B.pre
  have hts : ∀ w ∈ gw, w.before _ s = true := fun w h => hts0 w (List.mem_cons_of_mem _ h)
  have hown : s.vm.findClass RX3 = some m.cls := findClass_of_methodNamed B.named
  have hlocks := B.notSynchronized
  subst hsz
  have hD := hD0.self (sz := s.heap.size)
  generalize hAe : va_A [(h0, .inr (10, [.int w_outcome, .int w_result, .int w_steps, .ref w_memoryA, .ref w_programO, .ref w_flowsR, .ref w_allocatorO, .ref w_toldA, .int w_isRunning, .int w_calls, .ref w_functionA, .ref w_atA, .ref w_blockA, .ref w_blockAheadA, .ref w_argumentsA, .ref w_cellsA, .ref w_slotsA, .int w_slotRoom, .ref w_waitingA, .int w_count])), (w_argumentsA, .inl (w_argumentsC, 32, .inl w_argumentsF))] s.heap.size = A at hD hE ⊢
  have hA : ∀ q : Nat, s.heap.size ≤ q → A q := fun q h => by rw [← hAe]; exact Or.inr h
  have hS : va_S A s.heap s.heap [] := va_S.rf
  have hP : va_P (dC, dI) cls [(h0, .inr (10, [.int w_outcome, .int w_result, .int w_steps, .ref w_memoryA, .ref w_programO, .ref w_flowsR, .ref w_allocatorO, .ref w_toldA, .int w_isRunning, .int w_calls, .ref w_functionA, .ref w_atA, .ref w_blockA, .ref w_blockAheadA, .ref w_argumentsA, .ref w_cellsA, .ref w_slotsA, .int w_slotRoom, .ref w_waitingA, .int w_count])), (w_argumentsA, .inl (w_argumentsC, 32, .inl w_argumentsF))] s.heap := hP
  have hl := lv_entry ([.ref h0, .int p0, .int p1]) (n := 3) (Nat.le_of_ble_eq_true rfl)
  rw [lg_entry_eq]
  generalize (lg_sl ([.ref h0, .int p0, .int p1]) ++ List.replicate (3 - (lg_sl ([.ref h0, .int p0, .int p1])).length) Slot.unset).toArray = ls at hl ⊢
  have hl : lv_has ls 3 [(0, .ref h0), (1, .int p0), (2, .int p1)] := hl
  refine lv_aload_n hx hb dX3_argumentOf_0 rfl (lv_at hl 0 rfl) ?_
  refine va_get (D := (dC, dI)) (ci := 10) (v := .ref w_argumentsA) (C := RX3) (T := TX3) (N := 20) hx hb hts i_X3 hown hK hP 0 rfl rfl 14 (by decide) (hts _ qw427) (fun _ h9 => h9) rfl dX3_argumentOf_1 ?_
  refine lv_iload_n hx hb dX3_argumentOf_4 rfl (lv_at hl 1 rfl) ?_
  refine lv_iconst (v := 4) hx hb dX3_argumentOf_5 (by decide) ?_
  refine lv_imul hx hb dX3_argumentOf_6 ?_
  refine lv_iload_n hx hb dX3_argumentOf_7 rfl (lv_at hl 2 rfl) ?_
  refine lv_iadd hx hb dX3_argumentOf_8 ?_
  refine va_iald hx hb hK hP 1 0 rfl rfl (hq1) dX3_argumentOf_9 ?_
  have hP9 : va_P (dC, dI) cls [(h0, .inr (10, [.int w_outcome, .int w_result, .int w_steps, .ref w_memoryA, .ref w_programO, .ref w_flowsR, .ref w_allocatorO, .ref w_toldA, .int w_isRunning, .int w_calls, .ref w_functionA, .ref w_atA, .ref w_blockA, .ref w_blockAheadA, .ref w_argumentsA, .ref w_cellsA, .ref w_slotsA, .int w_slotRoom, .ref w_waitingA, .int w_count])), (w_argumentsA, .inl (w_argumentsC, 32, .inl w_argumentsF))] s.heap := by exact hP.sub [0, 1] rfl
  have hD9 : va_D A [(h0, .inr (10, [.int w_outcome, .int w_result, .int w_steps, .ref w_memoryA, .ref w_programO, .ref w_flowsR, .ref w_allocatorO, .ref w_toldA, .int w_isRunning, .int w_calls, .ref w_functionA, .ref w_atA, .ref w_blockA, .ref w_blockAheadA, .ref w_argumentsA, .ref w_cellsA, .ref w_slotsA, .int w_slotRoom, .ref w_waitingA, .int w_count])), (w_argumentsA, .inl (w_argumentsC, 32, .inl w_argumentsF))] := by exact hD.sub [0, 1] (by decide) rfl
  have hK9 : va_K (dC, dI) cls [(w_argumentsC, .int)] s := hK.sub [0] rfl
  refine W.widen (k := 0) (n := 0) (Nat.le_of_ble_eq_true rfl) (Nat.le_of_ble_eq_true rfl) ?_
  exact W.iret (v := (w_argumentsF (Int32.toNatClampNeg ((p0 * 4) + p1)))) hx hb hr (fun t ht hW => ⟨⟨(w_argumentsF (Int32.toNatClampNeg ((p0 * 4) + p1))), (), rfl, rfl, ⟨by rw [ht]; exact hP9, va_K.moved hW.alike hK9, hD9⟩⟩, hS.F ht⟩) hS.2.2 dX3_argumentOf_10
set_option maxHeartbeats 4000000 in
set_option maxRecDepth 100000 in
theorem kJ7_fill_53178_n155 {zs : Nat × Nat} (l : Launch) (dC : Nat → ClassId) (dI : Nat → Nat → Nat) (a0 : Nat) (k18 : ClassId) (F19 : Nat → Int32) (sz : Nat)  : Met l yJ7_fill_53178 (wz yJ7_fill_53178 cJ7_fill_53178 4 (Option.none : Option Jvm.ClassFile.FieldType)) ({ frames := 0, cells := 0, slots := 0, locals := 0 }) (va_Pc [.ref a0, .int 0] (PRE zs dC dI [(a0, .inl (k18, 16, .inl F19))] [(k18, .int)] sz)) (va_Qv (fun (_ : Unit) => True) (fun _ t => POST dC dI [(a0, .inl (k18, 16, .inl (upd (upd (upd (upd (upd (upd (upd (upd (upd (upd (upd (upd (upd (upd (upd (upd F19 (Int32.toNatClampNeg 0) 0) (Int32.toNatClampNeg 1) 0) (Int32.toNatClampNeg 2) 0) (Int32.toNatClampNeg 3) 0) (Int32.toNatClampNeg 4) 0) (Int32.toNatClampNeg 5) 0) (Int32.toNatClampNeg 6) 0) (Int32.toNatClampNeg 7) 0) (Int32.toNatClampNeg 8) 0) (Int32.toNatClampNeg 9) 0) (Int32.toNatClampNeg 10) 0) (Int32.toNatClampNeg 11) 0) (Int32.toNatClampNeg 12) 0) (Int32.toNatClampNeg 13) 0) (Int32.toNatClampNeg 14) 0) (Int32.toNatClampNeg 15) 0)))] [(k18, .int)] (va_A [(a0, .inl (k18, 16, .inl F19))] sz) t) (va_A [(a0, .inl (k18, 16, .inl F19))] sz)) 0 0 (va_A [(a0, .inl (k18, 16, .inl F19))] sz) := by
  refine Met.ofW (cc := cJ7_fill_53178) (maxL := 4) (ret := (Option.none : Option Jvm.ClassFile.FieldType)) (by decide) rfl ?_
  intro p e s m args below meth c s₁ B hml hv
  obtain ⟨rfl, hsz, hP, hK, hD0, hE⟩ := hv
  have hx := B.exec
  have hb := B.bytes
  have hr := B.returns
  have hts0 := atoms_spec (ws := wz yJ7_fill_53178 cJ7_fill_53178 4 (Option.none : Option Jvm.ClassFile.FieldType)) B.pre
  have hts : ∀ w ∈ gw, w.before _ s = true := fun w h => hts0 w (List.mem_cons_of_mem _ h)
  have hown : s.vm.findClass RJ7 = some m.cls := findClass_of_methodNamed B.named
  have hlocks := B.notSynchronized
  subst hsz
  have hD := hD0.self (sz := s.heap.size)
  generalize hAe : va_A [(a0, .inl (k18, 16, .inl F19))] s.heap.size = A at hD hE ⊢
  have hA : ∀ q : Nat, s.heap.size ≤ q → A q := fun q h => by rw [← hAe]; exact Or.inr h
  have hS : va_S A s.heap s.heap [] := va_S.rf
  have hP : va_P (dC, dI) cls [(a0, .inl (k18, 16, .inl F19))] s.heap := hP
  have hl := lv_entry ([.ref a0, .int 0]) (n := 4) (Nat.le_of_ble_eq_true rfl)
  rw [lg_entry_eq]
  generalize (lg_sl ([.ref a0, .int 0]) ++ List.replicate (4 - (lg_sl ([.ref a0, .int 0])).length) Slot.unset).toArray = ls at hl ⊢
  have hl : lv_has ls 4 [(0, .ref a0), (1, .int 0)] := hl
  refine lv_iconst (v := 0) hx hb dJ7_fill_53178_0 (by decide) ?_
  refine lv_istore_n (lv' := [(2, .int 0), (0, .ref a0), (1, .int 0)]) hx hb dJ7_fill_53178_1 rfl hl (by decide) rfl (fun ls hl => ?_)
  refine lv_aload_n hx hb dJ7_fill_53178_2 rfl (lv_at hl 1 rfl) ?_
  refine va_alen (v := 16) hx hb hK hP 0 0 rfl rfl rfl dJ7_fill_53178_3 ?_
  refine lv_istore_n (lv' := [(3, .int 16), (2, .int 0), (0, .ref a0), (1, .int 0)]) hx hb dJ7_fill_53178_4 rfl hl (by decide) rfl (fun ls hl => ?_)
  refine lv_iload_n hx hb dJ7_fill_53178_5 rfl (lv_at hl 1 rfl) ?_
  refine lv_iload_n hx hb dJ7_fill_53178_6 rfl (lv_at hl 0 rfl) ?_
  refine lv_icmp_ge (tgt := 20) hx hb dJ7_fill_53178_7 (by decide) (fun c => absurd c (by decide)) (fun _ => ?_)
  refine lv_aload_n hx hb dJ7_fill_53178_10 rfl (lv_at hl 2 rfl) ?_
  refine lv_iload_n hx hb dJ7_fill_53178_11 rfl (lv_at hl 1 rfl) ?_
  refine lv_iload_n hx hb dJ7_fill_53178_12 rfl (lv_at hl 3 rfl) ?_
  refine va_iast hx hb hK hP hD hS 0 0 rfl rfl (by unfold vp_in; decide +kernel) dJ7_fill_53178_13 (fun H locs hP hD hS => ?_)
  have hP : va_P (dC, dI) cls [(a0, .inl (k18, 16, .inl (upd F19 (Int32.toNatClampNeg 0) 0)))] H := hP
  have hD : va_D A [(a0, .inl (k18, 16, .inl (upd F19 (Int32.toNatClampNeg 0) 0)))] := hD
  refine lv_iinc (v := 1) (lv' := [(2, .int 1), (3, .int 16), (0, .ref a0), (1, .int 0)]) hx hb dJ7_fill_53178_14 hl (k := 1) rfl (by decide) (by decide) rfl (fun ls hl => ?_)
  refine lv_goto (tgt := 5) hx hb dJ7_fill_53178_17 (by decide) ?_
  refine lv_iload_n hx hb dJ7_fill_53178_5 rfl (lv_at hl 0 rfl) ?_
  refine lv_iload_n hx hb dJ7_fill_53178_6 rfl (lv_at hl 1 rfl) ?_
  refine lv_icmp_ge (tgt := 20) hx hb dJ7_fill_53178_7 (by decide) (fun c => absurd c (by decide)) (fun _ => ?_)
  refine lv_aload_n hx hb dJ7_fill_53178_10 rfl (lv_at hl 2 rfl) ?_
  refine lv_iload_n hx hb dJ7_fill_53178_11 rfl (lv_at hl 0 rfl) ?_
  refine lv_iload_n hx hb dJ7_fill_53178_12 rfl (lv_at hl 3 rfl) ?_
  refine va_iast hx hb hK hP hD hS 0 0 rfl rfl (by unfold vp_in; decide +kernel) dJ7_fill_53178_13 (fun H locs hP hD hS => ?_)
  have hP : va_P (dC, dI) cls [(a0, .inl (k18, 16, .inl (upd (upd F19 (Int32.toNatClampNeg 0) 0) (Int32.toNatClampNeg 1) 0)))] H := hP
  have hD : va_D A [(a0, .inl (k18, 16, .inl (upd (upd F19 (Int32.toNatClampNeg 0) 0) (Int32.toNatClampNeg 1) 0)))] := hD
  refine lv_iinc (v := 2) (lv' := [(2, .int 2), (3, .int 16), (0, .ref a0), (1, .int 0)]) hx hb dJ7_fill_53178_14 hl (k := 0) rfl (by decide) (by decide) rfl (fun ls hl => ?_)
  refine lv_goto (tgt := 5) hx hb dJ7_fill_53178_17 (by decide) ?_
  refine lv_iload_n hx hb dJ7_fill_53178_5 rfl (lv_at hl 0 rfl) ?_
  refine lv_iload_n hx hb dJ7_fill_53178_6 rfl (lv_at hl 1 rfl) ?_
  refine lv_icmp_ge (tgt := 20) hx hb dJ7_fill_53178_7 (by decide) (fun c => absurd c (by decide)) (fun _ => ?_)
  refine lv_aload_n hx hb dJ7_fill_53178_10 rfl (lv_at hl 2 rfl) ?_
  refine lv_iload_n hx hb dJ7_fill_53178_11 rfl (lv_at hl 0 rfl) ?_
  refine lv_iload_n hx hb dJ7_fill_53178_12 rfl (lv_at hl 3 rfl) ?_
  refine va_iast hx hb hK hP hD hS 0 0 rfl rfl (by unfold vp_in; decide +kernel) dJ7_fill_53178_13 (fun H locs hP hD hS => ?_)
  have hP : va_P (dC, dI) cls [(a0, .inl (k18, 16, .inl (upd (upd (upd F19 (Int32.toNatClampNeg 0) 0) (Int32.toNatClampNeg 1) 0) (Int32.toNatClampNeg 2) 0)))] H := hP
  have hD : va_D A [(a0, .inl (k18, 16, .inl (upd (upd (upd F19 (Int32.toNatClampNeg 0) 0) (Int32.toNatClampNeg 1) 0) (Int32.toNatClampNeg 2) 0)))] := hD
  refine lv_iinc (v := 3) (lv' := [(2, .int 3), (3, .int 16), (0, .ref a0), (1, .int 0)]) hx hb dJ7_fill_53178_14 hl (k := 0) rfl (by decide) (by decide) rfl (fun ls hl => ?_)
  refine lv_goto (tgt := 5) hx hb dJ7_fill_53178_17 (by decide) ?_
  refine lv_iload_n hx hb dJ7_fill_53178_5 rfl (lv_at hl 0 rfl) ?_
  refine lv_iload_n hx hb dJ7_fill_53178_6 rfl (lv_at hl 1 rfl) ?_
  refine lv_icmp_ge (tgt := 20) hx hb dJ7_fill_53178_7 (by decide) (fun c => absurd c (by decide)) (fun _ => ?_)
  refine lv_aload_n hx hb dJ7_fill_53178_10 rfl (lv_at hl 2 rfl) ?_
  refine lv_iload_n hx hb dJ7_fill_53178_11 rfl (lv_at hl 0 rfl) ?_
  refine lv_iload_n hx hb dJ7_fill_53178_12 rfl (lv_at hl 3 rfl) ?_
  refine va_iast hx hb hK hP hD hS 0 0 rfl rfl (by unfold vp_in; decide +kernel) dJ7_fill_53178_13 (fun H locs hP hD hS => ?_)
  have hP : va_P (dC, dI) cls [(a0, .inl (k18, 16, .inl (upd (upd (upd (upd F19 (Int32.toNatClampNeg 0) 0) (Int32.toNatClampNeg 1) 0) (Int32.toNatClampNeg 2) 0) (Int32.toNatClampNeg 3) 0)))] H := hP
  have hD : va_D A [(a0, .inl (k18, 16, .inl (upd (upd (upd (upd F19 (Int32.toNatClampNeg 0) 0) (Int32.toNatClampNeg 1) 0) (Int32.toNatClampNeg 2) 0) (Int32.toNatClampNeg 3) 0)))] := hD
  refine lv_iinc (v := 4) (lv' := [(2, .int 4), (3, .int 16), (0, .ref a0), (1, .int 0)]) hx hb dJ7_fill_53178_14 hl (k := 0) rfl (by decide) (by decide) rfl (fun ls hl => ?_)
  refine lv_goto (tgt := 5) hx hb dJ7_fill_53178_17 (by decide) ?_
  refine lv_iload_n hx hb dJ7_fill_53178_5 rfl (lv_at hl 0 rfl) ?_
  refine lv_iload_n hx hb dJ7_fill_53178_6 rfl (lv_at hl 1 rfl) ?_
  refine lv_icmp_ge (tgt := 20) hx hb dJ7_fill_53178_7 (by decide) (fun c => absurd c (by decide)) (fun _ => ?_)
  refine lv_aload_n hx hb dJ7_fill_53178_10 rfl (lv_at hl 2 rfl) ?_
  refine lv_iload_n hx hb dJ7_fill_53178_11 rfl (lv_at hl 0 rfl) ?_
  refine lv_iload_n hx hb dJ7_fill_53178_12 rfl (lv_at hl 3 rfl) ?_
  refine va_iast hx hb hK hP hD hS 0 0 rfl rfl (by unfold vp_in; decide +kernel) dJ7_fill_53178_13 (fun H locs hP hD hS => ?_)
  have hP : va_P (dC, dI) cls [(a0, .inl (k18, 16, .inl (upd (upd (upd (upd (upd F19 (Int32.toNatClampNeg 0) 0) (Int32.toNatClampNeg 1) 0) (Int32.toNatClampNeg 2) 0) (Int32.toNatClampNeg 3) 0) (Int32.toNatClampNeg 4) 0)))] H := hP
  have hD : va_D A [(a0, .inl (k18, 16, .inl (upd (upd (upd (upd (upd F19 (Int32.toNatClampNeg 0) 0) (Int32.toNatClampNeg 1) 0) (Int32.toNatClampNeg 2) 0) (Int32.toNatClampNeg 3) 0) (Int32.toNatClampNeg 4) 0)))] := hD
  refine lv_iinc (v := 5) (lv' := [(2, .int 5), (3, .int 16), (0, .ref a0), (1, .int 0)]) hx hb dJ7_fill_53178_14 hl (k := 0) rfl (by decide) (by decide) rfl (fun ls hl => ?_)
  refine lv_goto (tgt := 5) hx hb dJ7_fill_53178_17 (by decide) ?_
  refine lv_iload_n hx hb dJ7_fill_53178_5 rfl (lv_at hl 0 rfl) ?_
  refine lv_iload_n hx hb dJ7_fill_53178_6 rfl (lv_at hl 1 rfl) ?_
  refine lv_icmp_ge (tgt := 20) hx hb dJ7_fill_53178_7 (by decide) (fun c => absurd c (by decide)) (fun _ => ?_)
  refine lv_aload_n hx hb dJ7_fill_53178_10 rfl (lv_at hl 2 rfl) ?_
  refine lv_iload_n hx hb dJ7_fill_53178_11 rfl (lv_at hl 0 rfl) ?_
  refine lv_iload_n hx hb dJ7_fill_53178_12 rfl (lv_at hl 3 rfl) ?_
  refine va_iast hx hb hK hP hD hS 0 0 rfl rfl (by unfold vp_in; decide +kernel) dJ7_fill_53178_13 (fun H locs hP hD hS => ?_)
  have hP : va_P (dC, dI) cls [(a0, .inl (k18, 16, .inl (upd (upd (upd (upd (upd (upd F19 (Int32.toNatClampNeg 0) 0) (Int32.toNatClampNeg 1) 0) (Int32.toNatClampNeg 2) 0) (Int32.toNatClampNeg 3) 0) (Int32.toNatClampNeg 4) 0) (Int32.toNatClampNeg 5) 0)))] H := hP
  have hD : va_D A [(a0, .inl (k18, 16, .inl (upd (upd (upd (upd (upd (upd F19 (Int32.toNatClampNeg 0) 0) (Int32.toNatClampNeg 1) 0) (Int32.toNatClampNeg 2) 0) (Int32.toNatClampNeg 3) 0) (Int32.toNatClampNeg 4) 0) (Int32.toNatClampNeg 5) 0)))] := hD
  refine lv_iinc (v := 6) (lv' := [(2, .int 6), (3, .int 16), (0, .ref a0), (1, .int 0)]) hx hb dJ7_fill_53178_14 hl (k := 0) rfl (by decide) (by decide) rfl (fun ls hl => ?_)
  refine lv_goto (tgt := 5) hx hb dJ7_fill_53178_17 (by decide) ?_
  refine lv_iload_n hx hb dJ7_fill_53178_5 rfl (lv_at hl 0 rfl) ?_
  refine lv_iload_n hx hb dJ7_fill_53178_6 rfl (lv_at hl 1 rfl) ?_
  refine lv_icmp_ge (tgt := 20) hx hb dJ7_fill_53178_7 (by decide) (fun c => absurd c (by decide)) (fun _ => ?_)
  refine lv_aload_n hx hb dJ7_fill_53178_10 rfl (lv_at hl 2 rfl) ?_
  refine lv_iload_n hx hb dJ7_fill_53178_11 rfl (lv_at hl 0 rfl) ?_
  refine lv_iload_n hx hb dJ7_fill_53178_12 rfl (lv_at hl 3 rfl) ?_
  refine va_iast hx hb hK hP hD hS 0 0 rfl rfl (by unfold vp_in; decide +kernel) dJ7_fill_53178_13 (fun H locs hP hD hS => ?_)
  have hP : va_P (dC, dI) cls [(a0, .inl (k18, 16, .inl (upd (upd (upd (upd (upd (upd (upd F19 (Int32.toNatClampNeg 0) 0) (Int32.toNatClampNeg 1) 0) (Int32.toNatClampNeg 2) 0) (Int32.toNatClampNeg 3) 0) (Int32.toNatClampNeg 4) 0) (Int32.toNatClampNeg 5) 0) (Int32.toNatClampNeg 6) 0)))] H := hP
  have hD : va_D A [(a0, .inl (k18, 16, .inl (upd (upd (upd (upd (upd (upd (upd F19 (Int32.toNatClampNeg 0) 0) (Int32.toNatClampNeg 1) 0) (Int32.toNatClampNeg 2) 0) (Int32.toNatClampNeg 3) 0) (Int32.toNatClampNeg 4) 0) (Int32.toNatClampNeg 5) 0) (Int32.toNatClampNeg 6) 0)))] := hD
  refine lv_iinc (v := 7) (lv' := [(2, .int 7), (3, .int 16), (0, .ref a0), (1, .int 0)]) hx hb dJ7_fill_53178_14 hl (k := 0) rfl (by decide) (by decide) rfl (fun ls hl => ?_)
  refine lv_goto (tgt := 5) hx hb dJ7_fill_53178_17 (by decide) ?_
  refine lv_iload_n hx hb dJ7_fill_53178_5 rfl (lv_at hl 0 rfl) ?_
  refine lv_iload_n hx hb dJ7_fill_53178_6 rfl (lv_at hl 1 rfl) ?_
  refine lv_icmp_ge (tgt := 20) hx hb dJ7_fill_53178_7 (by decide) (fun c => absurd c (by decide)) (fun _ => ?_)
  refine lv_aload_n hx hb dJ7_fill_53178_10 rfl (lv_at hl 2 rfl) ?_
  refine lv_iload_n hx hb dJ7_fill_53178_11 rfl (lv_at hl 0 rfl) ?_
  refine lv_iload_n hx hb dJ7_fill_53178_12 rfl (lv_at hl 3 rfl) ?_
  refine va_iast hx hb hK hP hD hS 0 0 rfl rfl (by unfold vp_in; decide +kernel) dJ7_fill_53178_13 (fun H locs hP hD hS => ?_)
  have hP : va_P (dC, dI) cls [(a0, .inl (k18, 16, .inl (upd (upd (upd (upd (upd (upd (upd (upd F19 (Int32.toNatClampNeg 0) 0) (Int32.toNatClampNeg 1) 0) (Int32.toNatClampNeg 2) 0) (Int32.toNatClampNeg 3) 0) (Int32.toNatClampNeg 4) 0) (Int32.toNatClampNeg 5) 0) (Int32.toNatClampNeg 6) 0) (Int32.toNatClampNeg 7) 0)))] H := hP
  have hD : va_D A [(a0, .inl (k18, 16, .inl (upd (upd (upd (upd (upd (upd (upd (upd F19 (Int32.toNatClampNeg 0) 0) (Int32.toNatClampNeg 1) 0) (Int32.toNatClampNeg 2) 0) (Int32.toNatClampNeg 3) 0) (Int32.toNatClampNeg 4) 0) (Int32.toNatClampNeg 5) 0) (Int32.toNatClampNeg 6) 0) (Int32.toNatClampNeg 7) 0)))] := hD
  refine lv_iinc (v := 8) (lv' := [(2, .int 8), (3, .int 16), (0, .ref a0), (1, .int 0)]) hx hb dJ7_fill_53178_14 hl (k := 0) rfl (by decide) (by decide) rfl (fun ls hl => ?_)
  refine lv_goto (tgt := 5) hx hb dJ7_fill_53178_17 (by decide) ?_
  refine lv_iload_n hx hb dJ7_fill_53178_5 rfl (lv_at hl 0 rfl) ?_
  refine lv_iload_n hx hb dJ7_fill_53178_6 rfl (lv_at hl 1 rfl) ?_
  refine lv_icmp_ge (tgt := 20) hx hb dJ7_fill_53178_7 (by decide) (fun c => absurd c (by decide)) (fun _ => ?_)
  refine lv_aload_n hx hb dJ7_fill_53178_10 rfl (lv_at hl 2 rfl) ?_
  refine lv_iload_n hx hb dJ7_fill_53178_11 rfl (lv_at hl 0 rfl) ?_
  refine lv_iload_n hx hb dJ7_fill_53178_12 rfl (lv_at hl 3 rfl) ?_
  refine va_iast hx hb hK hP hD hS 0 0 rfl rfl (by unfold vp_in; decide +kernel) dJ7_fill_53178_13 (fun H locs hP hD hS => ?_)
  have hP : va_P (dC, dI) cls [(a0, .inl (k18, 16, .inl (upd (upd (upd (upd (upd (upd (upd (upd (upd F19 (Int32.toNatClampNeg 0) 0) (Int32.toNatClampNeg 1) 0) (Int32.toNatClampNeg 2) 0) (Int32.toNatClampNeg 3) 0) (Int32.toNatClampNeg 4) 0) (Int32.toNatClampNeg 5) 0) (Int32.toNatClampNeg 6) 0) (Int32.toNatClampNeg 7) 0) (Int32.toNatClampNeg 8) 0)))] H := hP
  have hD : va_D A [(a0, .inl (k18, 16, .inl (upd (upd (upd (upd (upd (upd (upd (upd (upd F19 (Int32.toNatClampNeg 0) 0) (Int32.toNatClampNeg 1) 0) (Int32.toNatClampNeg 2) 0) (Int32.toNatClampNeg 3) 0) (Int32.toNatClampNeg 4) 0) (Int32.toNatClampNeg 5) 0) (Int32.toNatClampNeg 6) 0) (Int32.toNatClampNeg 7) 0) (Int32.toNatClampNeg 8) 0)))] := hD
  refine lv_iinc (v := 9) (lv' := [(2, .int 9), (3, .int 16), (0, .ref a0), (1, .int 0)]) hx hb dJ7_fill_53178_14 hl (k := 0) rfl (by decide) (by decide) rfl (fun ls hl => ?_)
  refine lv_goto (tgt := 5) hx hb dJ7_fill_53178_17 (by decide) ?_
  refine lv_iload_n hx hb dJ7_fill_53178_5 rfl (lv_at hl 0 rfl) ?_
  refine lv_iload_n hx hb dJ7_fill_53178_6 rfl (lv_at hl 1 rfl) ?_
  refine lv_icmp_ge (tgt := 20) hx hb dJ7_fill_53178_7 (by decide) (fun c => absurd c (by decide)) (fun _ => ?_)
  refine lv_aload_n hx hb dJ7_fill_53178_10 rfl (lv_at hl 2 rfl) ?_
  refine lv_iload_n hx hb dJ7_fill_53178_11 rfl (lv_at hl 0 rfl) ?_
  refine lv_iload_n hx hb dJ7_fill_53178_12 rfl (lv_at hl 3 rfl) ?_
  refine va_iast hx hb hK hP hD hS 0 0 rfl rfl (by unfold vp_in; decide +kernel) dJ7_fill_53178_13 (fun H locs hP hD hS => ?_)
  have hP : va_P (dC, dI) cls [(a0, .inl (k18, 16, .inl (upd (upd (upd (upd (upd (upd (upd (upd (upd (upd F19 (Int32.toNatClampNeg 0) 0) (Int32.toNatClampNeg 1) 0) (Int32.toNatClampNeg 2) 0) (Int32.toNatClampNeg 3) 0) (Int32.toNatClampNeg 4) 0) (Int32.toNatClampNeg 5) 0) (Int32.toNatClampNeg 6) 0) (Int32.toNatClampNeg 7) 0) (Int32.toNatClampNeg 8) 0) (Int32.toNatClampNeg 9) 0)))] H := hP
  have hD : va_D A [(a0, .inl (k18, 16, .inl (upd (upd (upd (upd (upd (upd (upd (upd (upd (upd F19 (Int32.toNatClampNeg 0) 0) (Int32.toNatClampNeg 1) 0) (Int32.toNatClampNeg 2) 0) (Int32.toNatClampNeg 3) 0) (Int32.toNatClampNeg 4) 0) (Int32.toNatClampNeg 5) 0) (Int32.toNatClampNeg 6) 0) (Int32.toNatClampNeg 7) 0) (Int32.toNatClampNeg 8) 0) (Int32.toNatClampNeg 9) 0)))] := hD
  refine lv_iinc (v := 10) (lv' := [(2, .int 10), (3, .int 16), (0, .ref a0), (1, .int 0)]) hx hb dJ7_fill_53178_14 hl (k := 0) rfl (by decide) (by decide) rfl (fun ls hl => ?_)
  refine lv_goto (tgt := 5) hx hb dJ7_fill_53178_17 (by decide) ?_
  refine lv_iload_n hx hb dJ7_fill_53178_5 rfl (lv_at hl 0 rfl) ?_
  refine lv_iload_n hx hb dJ7_fill_53178_6 rfl (lv_at hl 1 rfl) ?_
  refine lv_icmp_ge (tgt := 20) hx hb dJ7_fill_53178_7 (by decide) (fun c => absurd c (by decide)) (fun _ => ?_)
  refine lv_aload_n hx hb dJ7_fill_53178_10 rfl (lv_at hl 2 rfl) ?_
  refine lv_iload_n hx hb dJ7_fill_53178_11 rfl (lv_at hl 0 rfl) ?_
  refine lv_iload_n hx hb dJ7_fill_53178_12 rfl (lv_at hl 3 rfl) ?_
  refine va_iast hx hb hK hP hD hS 0 0 rfl rfl (by unfold vp_in; decide +kernel) dJ7_fill_53178_13 (fun H locs hP hD hS => ?_)
  have hP : va_P (dC, dI) cls [(a0, .inl (k18, 16, .inl (upd (upd (upd (upd (upd (upd (upd (upd (upd (upd (upd F19 (Int32.toNatClampNeg 0) 0) (Int32.toNatClampNeg 1) 0) (Int32.toNatClampNeg 2) 0) (Int32.toNatClampNeg 3) 0) (Int32.toNatClampNeg 4) 0) (Int32.toNatClampNeg 5) 0) (Int32.toNatClampNeg 6) 0) (Int32.toNatClampNeg 7) 0) (Int32.toNatClampNeg 8) 0) (Int32.toNatClampNeg 9) 0) (Int32.toNatClampNeg 10) 0)))] H := hP
  have hD : va_D A [(a0, .inl (k18, 16, .inl (upd (upd (upd (upd (upd (upd (upd (upd (upd (upd (upd F19 (Int32.toNatClampNeg 0) 0) (Int32.toNatClampNeg 1) 0) (Int32.toNatClampNeg 2) 0) (Int32.toNatClampNeg 3) 0) (Int32.toNatClampNeg 4) 0) (Int32.toNatClampNeg 5) 0) (Int32.toNatClampNeg 6) 0) (Int32.toNatClampNeg 7) 0) (Int32.toNatClampNeg 8) 0) (Int32.toNatClampNeg 9) 0) (Int32.toNatClampNeg 10) 0)))] := hD
  refine lv_iinc (v := 11) (lv' := [(2, .int 11), (3, .int 16), (0, .ref a0), (1, .int 0)]) hx hb dJ7_fill_53178_14 hl (k := 0) rfl (by decide) (by decide) rfl (fun ls hl => ?_)
  refine lv_goto (tgt := 5) hx hb dJ7_fill_53178_17 (by decide) ?_
  refine lv_iload_n hx hb dJ7_fill_53178_5 rfl (lv_at hl 0 rfl) ?_
  refine lv_iload_n hx hb dJ7_fill_53178_6 rfl (lv_at hl 1 rfl) ?_
  refine lv_icmp_ge (tgt := 20) hx hb dJ7_fill_53178_7 (by decide) (fun c => absurd c (by decide)) (fun _ => ?_)
  refine lv_aload_n hx hb dJ7_fill_53178_10 rfl (lv_at hl 2 rfl) ?_
  refine lv_iload_n hx hb dJ7_fill_53178_11 rfl (lv_at hl 0 rfl) ?_
  refine lv_iload_n hx hb dJ7_fill_53178_12 rfl (lv_at hl 3 rfl) ?_
  refine va_iast hx hb hK hP hD hS 0 0 rfl rfl (by unfold vp_in; decide +kernel) dJ7_fill_53178_13 (fun H locs hP hD hS => ?_)
  have hP : va_P (dC, dI) cls [(a0, .inl (k18, 16, .inl (upd (upd (upd (upd (upd (upd (upd (upd (upd (upd (upd (upd F19 (Int32.toNatClampNeg 0) 0) (Int32.toNatClampNeg 1) 0) (Int32.toNatClampNeg 2) 0) (Int32.toNatClampNeg 3) 0) (Int32.toNatClampNeg 4) 0) (Int32.toNatClampNeg 5) 0) (Int32.toNatClampNeg 6) 0) (Int32.toNatClampNeg 7) 0) (Int32.toNatClampNeg 8) 0) (Int32.toNatClampNeg 9) 0) (Int32.toNatClampNeg 10) 0) (Int32.toNatClampNeg 11) 0)))] H := hP
  have hD : va_D A [(a0, .inl (k18, 16, .inl (upd (upd (upd (upd (upd (upd (upd (upd (upd (upd (upd (upd F19 (Int32.toNatClampNeg 0) 0) (Int32.toNatClampNeg 1) 0) (Int32.toNatClampNeg 2) 0) (Int32.toNatClampNeg 3) 0) (Int32.toNatClampNeg 4) 0) (Int32.toNatClampNeg 5) 0) (Int32.toNatClampNeg 6) 0) (Int32.toNatClampNeg 7) 0) (Int32.toNatClampNeg 8) 0) (Int32.toNatClampNeg 9) 0) (Int32.toNatClampNeg 10) 0) (Int32.toNatClampNeg 11) 0)))] := hD
  refine lv_iinc (v := 12) (lv' := [(2, .int 12), (3, .int 16), (0, .ref a0), (1, .int 0)]) hx hb dJ7_fill_53178_14 hl (k := 0) rfl (by decide) (by decide) rfl (fun ls hl => ?_)
  refine lv_goto (tgt := 5) hx hb dJ7_fill_53178_17 (by decide) ?_
  refine lv_iload_n hx hb dJ7_fill_53178_5 rfl (lv_at hl 0 rfl) ?_
  refine lv_iload_n hx hb dJ7_fill_53178_6 rfl (lv_at hl 1 rfl) ?_
  refine lv_icmp_ge (tgt := 20) hx hb dJ7_fill_53178_7 (by decide) (fun c => absurd c (by decide)) (fun _ => ?_)
  refine lv_aload_n hx hb dJ7_fill_53178_10 rfl (lv_at hl 2 rfl) ?_
  refine lv_iload_n hx hb dJ7_fill_53178_11 rfl (lv_at hl 0 rfl) ?_
  refine lv_iload_n hx hb dJ7_fill_53178_12 rfl (lv_at hl 3 rfl) ?_
  refine va_iast hx hb hK hP hD hS 0 0 rfl rfl (by unfold vp_in; decide +kernel) dJ7_fill_53178_13 (fun H locs hP hD hS => ?_)
  have hP : va_P (dC, dI) cls [(a0, .inl (k18, 16, .inl (upd (upd (upd (upd (upd (upd (upd (upd (upd (upd (upd (upd (upd F19 (Int32.toNatClampNeg 0) 0) (Int32.toNatClampNeg 1) 0) (Int32.toNatClampNeg 2) 0) (Int32.toNatClampNeg 3) 0) (Int32.toNatClampNeg 4) 0) (Int32.toNatClampNeg 5) 0) (Int32.toNatClampNeg 6) 0) (Int32.toNatClampNeg 7) 0) (Int32.toNatClampNeg 8) 0) (Int32.toNatClampNeg 9) 0) (Int32.toNatClampNeg 10) 0) (Int32.toNatClampNeg 11) 0) (Int32.toNatClampNeg 12) 0)))] H := hP
  have hD : va_D A [(a0, .inl (k18, 16, .inl (upd (upd (upd (upd (upd (upd (upd (upd (upd (upd (upd (upd (upd F19 (Int32.toNatClampNeg 0) 0) (Int32.toNatClampNeg 1) 0) (Int32.toNatClampNeg 2) 0) (Int32.toNatClampNeg 3) 0) (Int32.toNatClampNeg 4) 0) (Int32.toNatClampNeg 5) 0) (Int32.toNatClampNeg 6) 0) (Int32.toNatClampNeg 7) 0) (Int32.toNatClampNeg 8) 0) (Int32.toNatClampNeg 9) 0) (Int32.toNatClampNeg 10) 0) (Int32.toNatClampNeg 11) 0) (Int32.toNatClampNeg 12) 0)))] := hD
  refine lv_iinc (v := 13) (lv' := [(2, .int 13), (3, .int 16), (0, .ref a0), (1, .int 0)]) hx hb dJ7_fill_53178_14 hl (k := 0) rfl (by decide) (by decide) rfl (fun ls hl => ?_)
  refine lv_goto (tgt := 5) hx hb dJ7_fill_53178_17 (by decide) ?_
  refine lv_iload_n hx hb dJ7_fill_53178_5 rfl (lv_at hl 0 rfl) ?_
  refine lv_iload_n hx hb dJ7_fill_53178_6 rfl (lv_at hl 1 rfl) ?_
  refine lv_icmp_ge (tgt := 20) hx hb dJ7_fill_53178_7 (by decide) (fun c => absurd c (by decide)) (fun _ => ?_)
  refine lv_aload_n hx hb dJ7_fill_53178_10 rfl (lv_at hl 2 rfl) ?_
  refine lv_iload_n hx hb dJ7_fill_53178_11 rfl (lv_at hl 0 rfl) ?_
  refine lv_iload_n hx hb dJ7_fill_53178_12 rfl (lv_at hl 3 rfl) ?_
  refine va_iast hx hb hK hP hD hS 0 0 rfl rfl (by unfold vp_in; decide +kernel) dJ7_fill_53178_13 (fun H locs hP hD hS => ?_)
  have hP : va_P (dC, dI) cls [(a0, .inl (k18, 16, .inl (upd (upd (upd (upd (upd (upd (upd (upd (upd (upd (upd (upd (upd (upd F19 (Int32.toNatClampNeg 0) 0) (Int32.toNatClampNeg 1) 0) (Int32.toNatClampNeg 2) 0) (Int32.toNatClampNeg 3) 0) (Int32.toNatClampNeg 4) 0) (Int32.toNatClampNeg 5) 0) (Int32.toNatClampNeg 6) 0) (Int32.toNatClampNeg 7) 0) (Int32.toNatClampNeg 8) 0) (Int32.toNatClampNeg 9) 0) (Int32.toNatClampNeg 10) 0) (Int32.toNatClampNeg 11) 0) (Int32.toNatClampNeg 12) 0) (Int32.toNatClampNeg 13) 0)))] H := hP
  have hD : va_D A [(a0, .inl (k18, 16, .inl (upd (upd (upd (upd (upd (upd (upd (upd (upd (upd (upd (upd (upd (upd F19 (Int32.toNatClampNeg 0) 0) (Int32.toNatClampNeg 1) 0) (Int32.toNatClampNeg 2) 0) (Int32.toNatClampNeg 3) 0) (Int32.toNatClampNeg 4) 0) (Int32.toNatClampNeg 5) 0) (Int32.toNatClampNeg 6) 0) (Int32.toNatClampNeg 7) 0) (Int32.toNatClampNeg 8) 0) (Int32.toNatClampNeg 9) 0) (Int32.toNatClampNeg 10) 0) (Int32.toNatClampNeg 11) 0) (Int32.toNatClampNeg 12) 0) (Int32.toNatClampNeg 13) 0)))] := hD
  refine lv_iinc (v := 14) (lv' := [(2, .int 14), (3, .int 16), (0, .ref a0), (1, .int 0)]) hx hb dJ7_fill_53178_14 hl (k := 0) rfl (by decide) (by decide) rfl (fun ls hl => ?_)
  refine lv_goto (tgt := 5) hx hb dJ7_fill_53178_17 (by decide) ?_
  refine lv_iload_n hx hb dJ7_fill_53178_5 rfl (lv_at hl 0 rfl) ?_
  refine lv_iload_n hx hb dJ7_fill_53178_6 rfl (lv_at hl 1 rfl) ?_
  refine lv_icmp_ge (tgt := 20) hx hb dJ7_fill_53178_7 (by decide) (fun c => absurd c (by decide)) (fun _ => ?_)
  refine lv_aload_n hx hb dJ7_fill_53178_10 rfl (lv_at hl 2 rfl) ?_
  refine lv_iload_n hx hb dJ7_fill_53178_11 rfl (lv_at hl 0 rfl) ?_
  refine lv_iload_n hx hb dJ7_fill_53178_12 rfl (lv_at hl 3 rfl) ?_
  refine va_iast hx hb hK hP hD hS 0 0 rfl rfl (by unfold vp_in; decide +kernel) dJ7_fill_53178_13 (fun H locs hP hD hS => ?_)
  have hP : va_P (dC, dI) cls [(a0, .inl (k18, 16, .inl (upd (upd (upd (upd (upd (upd (upd (upd (upd (upd (upd (upd (upd (upd (upd F19 (Int32.toNatClampNeg 0) 0) (Int32.toNatClampNeg 1) 0) (Int32.toNatClampNeg 2) 0) (Int32.toNatClampNeg 3) 0) (Int32.toNatClampNeg 4) 0) (Int32.toNatClampNeg 5) 0) (Int32.toNatClampNeg 6) 0) (Int32.toNatClampNeg 7) 0) (Int32.toNatClampNeg 8) 0) (Int32.toNatClampNeg 9) 0) (Int32.toNatClampNeg 10) 0) (Int32.toNatClampNeg 11) 0) (Int32.toNatClampNeg 12) 0) (Int32.toNatClampNeg 13) 0) (Int32.toNatClampNeg 14) 0)))] H := hP
  have hD : va_D A [(a0, .inl (k18, 16, .inl (upd (upd (upd (upd (upd (upd (upd (upd (upd (upd (upd (upd (upd (upd (upd F19 (Int32.toNatClampNeg 0) 0) (Int32.toNatClampNeg 1) 0) (Int32.toNatClampNeg 2) 0) (Int32.toNatClampNeg 3) 0) (Int32.toNatClampNeg 4) 0) (Int32.toNatClampNeg 5) 0) (Int32.toNatClampNeg 6) 0) (Int32.toNatClampNeg 7) 0) (Int32.toNatClampNeg 8) 0) (Int32.toNatClampNeg 9) 0) (Int32.toNatClampNeg 10) 0) (Int32.toNatClampNeg 11) 0) (Int32.toNatClampNeg 12) 0) (Int32.toNatClampNeg 13) 0) (Int32.toNatClampNeg 14) 0)))] := hD
  refine lv_iinc (v := 15) (lv' := [(2, .int 15), (3, .int 16), (0, .ref a0), (1, .int 0)]) hx hb dJ7_fill_53178_14 hl (k := 0) rfl (by decide) (by decide) rfl (fun ls hl => ?_)
  refine lv_goto (tgt := 5) hx hb dJ7_fill_53178_17 (by decide) ?_
  refine lv_iload_n hx hb dJ7_fill_53178_5 rfl (lv_at hl 0 rfl) ?_
  refine lv_iload_n hx hb dJ7_fill_53178_6 rfl (lv_at hl 1 rfl) ?_
  refine lv_icmp_ge (tgt := 20) hx hb dJ7_fill_53178_7 (by decide) (fun c => absurd c (by decide)) (fun _ => ?_)
  refine lv_aload_n hx hb dJ7_fill_53178_10 rfl (lv_at hl 2 rfl) ?_
  refine lv_iload_n hx hb dJ7_fill_53178_11 rfl (lv_at hl 0 rfl) ?_
  refine lv_iload_n hx hb dJ7_fill_53178_12 rfl (lv_at hl 3 rfl) ?_
  refine va_iast hx hb hK hP hD hS 0 0 rfl rfl (by unfold vp_in; decide +kernel) dJ7_fill_53178_13 (fun H locs hP hD hS => ?_)
  have hP : va_P (dC, dI) cls [(a0, .inl (k18, 16, .inl (upd (upd (upd (upd (upd (upd (upd (upd (upd (upd (upd (upd (upd (upd (upd (upd F19 (Int32.toNatClampNeg 0) 0) (Int32.toNatClampNeg 1) 0) (Int32.toNatClampNeg 2) 0) (Int32.toNatClampNeg 3) 0) (Int32.toNatClampNeg 4) 0) (Int32.toNatClampNeg 5) 0) (Int32.toNatClampNeg 6) 0) (Int32.toNatClampNeg 7) 0) (Int32.toNatClampNeg 8) 0) (Int32.toNatClampNeg 9) 0) (Int32.toNatClampNeg 10) 0) (Int32.toNatClampNeg 11) 0) (Int32.toNatClampNeg 12) 0) (Int32.toNatClampNeg 13) 0) (Int32.toNatClampNeg 14) 0) (Int32.toNatClampNeg 15) 0)))] H := hP
  have hD : va_D A [(a0, .inl (k18, 16, .inl (upd (upd (upd (upd (upd (upd (upd (upd (upd (upd (upd (upd (upd (upd (upd (upd F19 (Int32.toNatClampNeg 0) 0) (Int32.toNatClampNeg 1) 0) (Int32.toNatClampNeg 2) 0) (Int32.toNatClampNeg 3) 0) (Int32.toNatClampNeg 4) 0) (Int32.toNatClampNeg 5) 0) (Int32.toNatClampNeg 6) 0) (Int32.toNatClampNeg 7) 0) (Int32.toNatClampNeg 8) 0) (Int32.toNatClampNeg 9) 0) (Int32.toNatClampNeg 10) 0) (Int32.toNatClampNeg 11) 0) (Int32.toNatClampNeg 12) 0) (Int32.toNatClampNeg 13) 0) (Int32.toNatClampNeg 14) 0) (Int32.toNatClampNeg 15) 0)))] := hD
  refine lv_iinc (v := 16) (lv' := [(2, .int 16), (3, .int 16), (0, .ref a0), (1, .int 0)]) hx hb dJ7_fill_53178_14 hl (k := 0) rfl (by decide) (by decide) rfl (fun ls hl => ?_)
  refine lv_goto (tgt := 5) hx hb dJ7_fill_53178_17 (by decide) ?_
  refine lv_iload_n hx hb dJ7_fill_53178_5 rfl (lv_at hl 0 rfl) ?_
  refine lv_iload_n hx hb dJ7_fill_53178_6 rfl (lv_at hl 1 rfl) ?_
  refine lv_icmp_ge (tgt := 20) hx hb dJ7_fill_53178_7 (by decide) (fun _ => ?_) (fun c => absurd (by decide) c)
  have hP9 : va_P (dC, dI) cls [(a0, .inl (k18, 16, .inl (upd (upd (upd (upd (upd (upd (upd (upd (upd (upd (upd (upd (upd (upd (upd (upd F19 (Int32.toNatClampNeg 0) 0) (Int32.toNatClampNeg 1) 0) (Int32.toNatClampNeg 2) 0) (Int32.toNatClampNeg 3) 0) (Int32.toNatClampNeg 4) 0) (Int32.toNatClampNeg 5) 0) (Int32.toNatClampNeg 6) 0) (Int32.toNatClampNeg 7) 0) (Int32.toNatClampNeg 8) 0) (Int32.toNatClampNeg 9) 0) (Int32.toNatClampNeg 10) 0) (Int32.toNatClampNeg 11) 0) (Int32.toNatClampNeg 12) 0) (Int32.toNatClampNeg 13) 0) (Int32.toNatClampNeg 14) 0) (Int32.toNatClampNeg 15) 0)))] H := by exact hP.sub [0] rfl
  have hD9 : va_D A [(a0, .inl (k18, 16, .inl (upd (upd (upd (upd (upd (upd (upd (upd (upd (upd (upd (upd (upd (upd (upd (upd F19 (Int32.toNatClampNeg 0) 0) (Int32.toNatClampNeg 1) 0) (Int32.toNatClampNeg 2) 0) (Int32.toNatClampNeg 3) 0) (Int32.toNatClampNeg 4) 0) (Int32.toNatClampNeg 5) 0) (Int32.toNatClampNeg 6) 0) (Int32.toNatClampNeg 7) 0) (Int32.toNatClampNeg 8) 0) (Int32.toNatClampNeg 9) 0) (Int32.toNatClampNeg 10) 0) (Int32.toNatClampNeg 11) 0) (Int32.toNatClampNeg 12) 0) (Int32.toNatClampNeg 13) 0) (Int32.toNatClampNeg 14) 0) (Int32.toNatClampNeg 15) 0)))] := by exact hD.sub [0] (by decide) rfl
  have hK9 : va_K (dC, dI) cls [(k18, .int)] s := hK.sub [0] rfl
  refine W.widen (k := 0) (n := 0) (Nat.le_of_ble_eq_true rfl) (Nat.le_of_ble_eq_true rfl) ?_
  exact W.vret hx hb hr (fun t ht hW => ⟨⟨(), rfl, trivial, ⟨by rw [ht]; exact hP9, va_K.moved hW.alike hK9, hD9⟩⟩, hS.F ht⟩) hS.2.2 dJ7_fill_53178_20
set_option maxHeartbeats 4000000 in
set_option maxRecDepth 100000 in
theorem kX3_begin {zs : Nat × Nat} (l : Launch) (dC : Nat → ClassId) (dI : Nat → Nat → Nat) (h0 : Nat) (w_outcome : Int32) (w_result : Int32) (w_steps : Int32) (w_memoryA : Nat) (w_memoryC : ClassId) (w_memoryF : Nat → Int32) (w_flowsR : Nat) (w_toldA : Nat) (w_isRunning : Int32) (w_calls : Int32) (w_functionA : Nat) (w_atA : Nat) (w_blockA : Nat) (w_blockAheadA : Nat) (w_argumentsA : Nat) (w_cellsA : Nat) (w_slotsA : Nat) (w_slotRoom : Int32) (w_waitingA : Nat) (w_count : Int32) (w_programO : Nat) (w_allocatorO : Nat) (p0O : Nat) (sz : Nat)  : Met l yX3_begin (wz yX3_begin cX3_begin 2 (Option.none : Option Jvm.ClassFile.FieldType)) ({ frames := 1, cells := 0, slots := 0, locals := 23 }) (va_Pc [.ref h0, .ref p0O] (PRE zs dC dI [(h0, .inr (10, [.int w_outcome, .int w_result, .int w_steps, .ref w_memoryA, .ref w_programO, .ref w_flowsR, .ref w_allocatorO, .ref w_toldA, .int w_isRunning, .int w_calls, .ref w_functionA, .ref w_atA, .ref w_blockA, .ref w_blockAheadA, .ref w_argumentsA, .ref w_cellsA, .ref w_slotsA, .int w_slotRoom, .ref w_waitingA, .int w_count])), (w_memoryA, .inl (w_memoryC, 16, .inl w_memoryF))] [(w_memoryC, .int)] sz)) (va_Qv (fun (_ : Unit) => True) (fun _ t => POST dC dI [(h0, .inr (10, [.int 0, .int 0, .int 0, .ref w_memoryA, .ref p0O, .ref w_flowsR, .ref w_allocatorO, .ref w_toldA, .int w_isRunning, .int w_calls, .ref w_functionA, .ref w_atA, .ref w_blockA, .ref w_blockAheadA, .ref w_argumentsA, .ref w_cellsA, .ref w_slotsA, .int w_slotRoom, .ref w_waitingA, .int w_count])), (w_memoryA, .inl (w_memoryC, 16, .inl (upd (upd (upd (upd (upd (upd (upd (upd (upd (upd (upd (upd (upd (upd (upd (upd w_memoryF (Int32.toNatClampNeg 0) 0) (Int32.toNatClampNeg 1) 0) (Int32.toNatClampNeg 2) 0) (Int32.toNatClampNeg 3) 0) (Int32.toNatClampNeg 4) 0) (Int32.toNatClampNeg 5) 0) (Int32.toNatClampNeg 6) 0) (Int32.toNatClampNeg 7) 0) (Int32.toNatClampNeg 8) 0) (Int32.toNatClampNeg 9) 0) (Int32.toNatClampNeg 10) 0) (Int32.toNatClampNeg 11) 0) (Int32.toNatClampNeg 12) 0) (Int32.toNatClampNeg 13) 0) (Int32.toNatClampNeg 14) 0) (Int32.toNatClampNeg 15) 0)))] [(w_memoryC, .int)] (va_A [(h0, .inr (10, [.int w_outcome, .int w_result, .int w_steps, .ref w_memoryA, .ref w_programO, .ref w_flowsR, .ref w_allocatorO, .ref w_toldA, .int w_isRunning, .int w_calls, .ref w_functionA, .ref w_atA, .ref w_blockA, .ref w_blockAheadA, .ref w_argumentsA, .ref w_cellsA, .ref w_slotsA, .int w_slotRoom, .ref w_waitingA, .int w_count])), (w_memoryA, .inl (w_memoryC, 16, .inl w_memoryF))] sz) t) (va_A [(h0, .inr (10, [.int w_outcome, .int w_result, .int w_steps, .ref w_memoryA, .ref w_programO, .ref w_flowsR, .ref w_allocatorO, .ref w_toldA, .int w_isRunning, .int w_calls, .ref w_functionA, .ref w_atA, .ref w_blockA, .ref w_blockAheadA, .ref w_argumentsA, .ref w_cellsA, .ref w_slotsA, .int w_slotRoom, .ref w_waitingA, .int w_count])), (w_memoryA, .inl (w_memoryC, 16, .inl w_memoryF))] sz)) 0 0 (va_A [(h0, .inr (10, [.int w_outcome, .int w_result, .int w_steps, .ref w_memoryA, .ref w_programO, .ref w_flowsR, .ref w_allocatorO, .ref w_toldA, .int w_isRunning, .int w_calls, .ref w_functionA, .ref w_atA, .ref w_blockA, .ref w_blockAheadA, .ref w_argumentsA, .ref w_cellsA, .ref w_slotsA, .int w_slotRoom, .ref w_waitingA, .int w_count])), (w_memoryA, .inl (w_memoryC, 16, .inl w_memoryF))] sz) := by
  refine Met.ofW (cc := cX3_begin) (maxL := 2) (ret := (Option.none : Option Jvm.ClassFile.FieldType)) (by decide) rfl ?_
  intro p e s m args below meth c s₁ B hml hv
  obtain ⟨rfl, hsz, hP, hK, hD0, hE⟩ := hv
  have hx := B.exec
  have hb := B.bytes
  have hr := B.returns
  have hts0 := atoms_spec (ws := wz yX3_begin cX3_begin 2 (Option.none : Option Jvm.ClassFile.FieldType)) B.pre
  have hts : ∀ w ∈ gw, w.before _ s = true := fun w h => hts0 w (List.mem_cons_of_mem _ h)
  have hown : s.vm.findClass RX3 = some m.cls := findClass_of_methodNamed B.named
  have hlocks := B.notSynchronized
  subst hsz
  have hD := hD0.self (sz := s.heap.size)
  generalize hAe : va_A [(h0, .inr (10, [.int w_outcome, .int w_result, .int w_steps, .ref w_memoryA, .ref w_programO, .ref w_flowsR, .ref w_allocatorO, .ref w_toldA, .int w_isRunning, .int w_calls, .ref w_functionA, .ref w_atA, .ref w_blockA, .ref w_blockAheadA, .ref w_argumentsA, .ref w_cellsA, .ref w_slotsA, .int w_slotRoom, .ref w_waitingA, .int w_count])), (w_memoryA, .inl (w_memoryC, 16, .inl w_memoryF))] s.heap.size = A at hD hE ⊢
  have hA : ∀ q : Nat, s.heap.size ≤ q → A q := fun q h => by rw [← hAe]; exact Or.inr h
  have hS : va_S A s.heap s.heap [] := va_S.rf
  have hP : va_P (dC, dI) cls [(h0, .inr (10, [.int w_outcome, .int w_result, .int w_steps, .ref w_memoryA, .ref w_programO, .ref w_flowsR, .ref w_allocatorO, .ref w_toldA, .int w_isRunning, .int w_calls, .ref w_functionA, .ref w_atA, .ref w_blockA, .ref w_blockAheadA, .ref w_argumentsA, .ref w_cellsA, .ref w_slotsA, .int w_slotRoom, .ref w_waitingA, .int w_count])), (w_memoryA, .inl (w_memoryC, 16, .inl w_memoryF))] s.heap := hP
  have hl := lv_entry ([.ref h0, .ref p0O]) (n := 2) (Nat.le_of_ble_eq_true rfl)
  rw [lg_entry_eq]
  generalize (lg_sl ([.ref h0, .ref p0O]) ++ List.replicate (2 - (lg_sl ([.ref h0, .ref p0O])).length) Slot.unset).toArray = ls at hl ⊢
  have hl : lv_has ls 2 [(0, .ref h0), (1, .ref p0O)] := hl
  refine lv_aload_n hx hb dX3_begin_0 rfl (lv_at hl 0 rfl) ?_
  refine lv_aload_n hx hb dX3_begin_1 rfl (lv_at hl 1 rfl) ?_
  refine va_put (D := (dC, dI)) (ci := 10) (v := .ref p0O) (ty := .object "Gearbox$Program") (C := RX3) (T := TX3) (N := 20) hx hb hts i_X3 tyX3 tyX3_ok nmX3 hown hK hP hD hS 0 rfl rfl 4 (by decide) (hts _ qw428) (fun _ h9 => h9) rfl (by decide +kernel) rfl rfl (Nat.le_of_ble_eq_true rfl) dX3_begin_2 (fun H locs hP hD hS => ?_)
  have hP : va_P (dC, dI) cls [(h0, .inr (10, [.int w_outcome, .int w_result, .int w_steps, .ref w_memoryA, .ref p0O, .ref w_flowsR, .ref w_allocatorO, .ref w_toldA, .int w_isRunning, .int w_calls, .ref w_functionA, .ref w_atA, .ref w_blockA, .ref w_blockAheadA, .ref w_argumentsA, .ref w_cellsA, .ref w_slotsA, .int w_slotRoom, .ref w_waitingA, .int w_count])), (w_memoryA, .inl (w_memoryC, 16, .inl w_memoryF))] H := hP
  have hD : va_D A [(h0, .inr (10, [.int w_outcome, .int w_result, .int w_steps, .ref w_memoryA, .ref p0O, .ref w_flowsR, .ref w_allocatorO, .ref w_toldA, .int w_isRunning, .int w_calls, .ref w_functionA, .ref w_atA, .ref w_blockA, .ref w_blockAheadA, .ref w_argumentsA, .ref w_cellsA, .ref w_slotsA, .int w_slotRoom, .ref w_waitingA, .int w_count])), (w_memoryA, .inl (w_memoryC, 16, .inl w_memoryF))] := hD
  refine lv_aload_n hx hb dX3_begin_5 rfl (lv_at hl 0 rfl) ?_
  refine lv_iconst (v := 0) hx hb dX3_begin_6 (by decide) ?_
  refine va_put (D := (dC, dI)) (ci := 10) (v := .int 0) (ty := .int) (C := RX3) (T := TX3) (N := 20) hx hb hts i_X3 tyX3 tyX3_ok nmX3 hown hK hP hD hS 0 rfl rfl 0 (by decide) (hts _ qw429) (fun _ h9 => h9) rfl (by decide +kernel) rfl rfl (Nat.le_of_ble_eq_true rfl) dX3_begin_7 (fun H locs hP hD hS => ?_)
  have hP : va_P (dC, dI) cls [(h0, .inr (10, [.int 0, .int w_result, .int w_steps, .ref w_memoryA, .ref p0O, .ref w_flowsR, .ref w_allocatorO, .ref w_toldA, .int w_isRunning, .int w_calls, .ref w_functionA, .ref w_atA, .ref w_blockA, .ref w_blockAheadA, .ref w_argumentsA, .ref w_cellsA, .ref w_slotsA, .int w_slotRoom, .ref w_waitingA, .int w_count])), (w_memoryA, .inl (w_memoryC, 16, .inl w_memoryF))] H := hP
  have hD : va_D A [(h0, .inr (10, [.int 0, .int w_result, .int w_steps, .ref w_memoryA, .ref p0O, .ref w_flowsR, .ref w_allocatorO, .ref w_toldA, .int w_isRunning, .int w_calls, .ref w_functionA, .ref w_atA, .ref w_blockA, .ref w_blockAheadA, .ref w_argumentsA, .ref w_cellsA, .ref w_slotsA, .int w_slotRoom, .ref w_waitingA, .int w_count])), (w_memoryA, .inl (w_memoryC, 16, .inl w_memoryF))] := hD
  refine lv_aload_n hx hb dX3_begin_10 rfl (lv_at hl 0 rfl) ?_
  refine lv_iconst (v := 0) hx hb dX3_begin_11 (by decide) ?_
  refine va_put (D := (dC, dI)) (ci := 10) (v := .int 0) (ty := .int) (C := RX3) (T := TX3) (N := 20) hx hb hts i_X3 tyX3 tyX3_ok nmX3 hown hK hP hD hS 0 rfl rfl 1 (by decide) (hts _ qw430) (fun _ h9 => h9) rfl (by decide +kernel) rfl rfl (Nat.le_of_ble_eq_true rfl) dX3_begin_12 (fun H locs hP hD hS => ?_)
  have hP : va_P (dC, dI) cls [(h0, .inr (10, [.int 0, .int 0, .int w_steps, .ref w_memoryA, .ref p0O, .ref w_flowsR, .ref w_allocatorO, .ref w_toldA, .int w_isRunning, .int w_calls, .ref w_functionA, .ref w_atA, .ref w_blockA, .ref w_blockAheadA, .ref w_argumentsA, .ref w_cellsA, .ref w_slotsA, .int w_slotRoom, .ref w_waitingA, .int w_count])), (w_memoryA, .inl (w_memoryC, 16, .inl w_memoryF))] H := hP
  have hD : va_D A [(h0, .inr (10, [.int 0, .int 0, .int w_steps, .ref w_memoryA, .ref p0O, .ref w_flowsR, .ref w_allocatorO, .ref w_toldA, .int w_isRunning, .int w_calls, .ref w_functionA, .ref w_atA, .ref w_blockA, .ref w_blockAheadA, .ref w_argumentsA, .ref w_cellsA, .ref w_slotsA, .int w_slotRoom, .ref w_waitingA, .int w_count])), (w_memoryA, .inl (w_memoryC, 16, .inl w_memoryF))] := hD
  refine lv_aload_n hx hb dX3_begin_15 rfl (lv_at hl 0 rfl) ?_
  refine lv_iconst (v := 0) hx hb dX3_begin_16 (by decide) ?_
  refine va_put (D := (dC, dI)) (ci := 10) (v := .int 0) (ty := .int) (C := RX3) (T := TX3) (N := 20) hx hb hts i_X3 tyX3 tyX3_ok nmX3 hown hK hP hD hS 0 rfl rfl 2 (by decide) (hts _ qw431) (fun _ h9 => h9) rfl (by decide +kernel) rfl rfl (Nat.le_of_ble_eq_true rfl) dX3_begin_17 (fun H locs hP hD hS => ?_)
  have hP : va_P (dC, dI) cls [(h0, .inr (10, [.int 0, .int 0, .int 0, .ref w_memoryA, .ref p0O, .ref w_flowsR, .ref w_allocatorO, .ref w_toldA, .int w_isRunning, .int w_calls, .ref w_functionA, .ref w_atA, .ref w_blockA, .ref w_blockAheadA, .ref w_argumentsA, .ref w_cellsA, .ref w_slotsA, .int w_slotRoom, .ref w_waitingA, .int w_count])), (w_memoryA, .inl (w_memoryC, 16, .inl w_memoryF))] H := hP
  have hD : va_D A [(h0, .inr (10, [.int 0, .int 0, .int 0, .ref w_memoryA, .ref p0O, .ref w_flowsR, .ref w_allocatorO, .ref w_toldA, .int w_isRunning, .int w_calls, .ref w_functionA, .ref w_atA, .ref w_blockA, .ref w_blockAheadA, .ref w_argumentsA, .ref w_cellsA, .ref w_slotsA, .int w_slotRoom, .ref w_waitingA, .int w_count])), (w_memoryA, .inl (w_memoryC, 16, .inl w_memoryF))] := hD
  refine lv_aload_n hx hb dX3_begin_20 rfl (lv_at hl 0 rfl) ?_
  refine va_get (D := (dC, dI)) (ci := 10) (v := .ref w_memoryA) (C := RX3) (T := TX3) (N := 20) hx hb hts i_X3 hown hK hP 0 rfl rfl 3 (by decide) (hts _ qw432) (fun _ h9 => h9) rfl dX3_begin_21 ?_
  refine lv_iconst (v := 0) hx hb dX3_begin_24 (by decide) ?_
  have hPc := hP.sub (ws' := [(w_memoryA, .inl (w_memoryC, 16, .inl w_memoryF))]) [1] rfl
  have hDc := hD.sub (ws' := [(w_memoryA, .inl (w_memoryC, 16, .inl w_memoryF))]) [1] (by decide) rfl
  have hKc := hK.sub (tys' := [(w_memoryC, .int)]) [0] rfl
  have hFc := va_free (wc := [(w_memoryA, .inl (w_memoryC, 16, .inl w_memoryF))]) hD hS hA [1] rfl
  refine va_callv (va_runS (As := [.ref w_memoryA, .int 0]) (rest := []) ⟨hx, hb, hml, hown, hts⟩ (kJ7_fill_53178_n155 l dC dI (a0 := w_memoryA) (k18 := w_memoryC) (F19 := w_memoryF) (sz := _)) (va_cwS 2 hts (gi_S qw434 qw435 qw264 (gi_z qw433)) rfl rfl rfl (by decide +kernel) ⟨Nat.le_of_ble_eq_true rfl, Nat.le_of_ble_eq_true rfl⟩) ⟨PRE.blind, PRE.of hE hS hFc hPc hKc hDc⟩ rfl rfl hl.1 rfl (lv_room (Nat.le_of_ble_eq_true rfl)) dX3_begin_25 ⟨Nat.le_of_ble_eq_true rfl, Nat.le_of_ble_eq_true rfl⟩) hS (fun q _ h => hFc q h) hFc (fun u t H locs ht hvm hw hB hz1 hk1 hS => ?_)
  obtain ⟨hP, hD, hK⟩ := JOIN (wr := [(h0, .inr (10, [.int 0, .int 0, .int 0, .ref w_memoryA, .ref p0O, .ref w_flowsR, .ref w_allocatorO, .ref w_toldA, .int w_isRunning, .int w_calls, .ref w_functionA, .ref w_atA, .ref w_blockA, .ref w_blockAheadA, .ref w_argumentsA, .ref w_cellsA, .ref w_slotsA, .int w_slotRoom, .ref w_waitingA, .int w_count]))]) hP hD hK [1] [0] [] rfl rfl (by decide) (by decide) rfl hk1 hFc ht hvm hB
  have hP : va_P (dC, dI) cls [(h0, .inr (10, [.int 0, .int 0, .int 0, .ref w_memoryA, .ref p0O, .ref w_flowsR, .ref w_allocatorO, .ref w_toldA, .int w_isRunning, .int w_calls, .ref w_functionA, .ref w_atA, .ref w_blockA, .ref w_blockAheadA, .ref w_argumentsA, .ref w_cellsA, .ref w_slotsA, .int w_slotRoom, .ref w_waitingA, .int w_count])), (w_memoryA, .inl (w_memoryC, 16, .inl (upd (upd (upd (upd (upd (upd (upd (upd (upd (upd (upd (upd (upd (upd (upd (upd w_memoryF (Int32.toNatClampNeg 0) 0) (Int32.toNatClampNeg 1) 0) (Int32.toNatClampNeg 2) 0) (Int32.toNatClampNeg 3) 0) (Int32.toNatClampNeg 4) 0) (Int32.toNatClampNeg 5) 0) (Int32.toNatClampNeg 6) 0) (Int32.toNatClampNeg 7) 0) (Int32.toNatClampNeg 8) 0) (Int32.toNatClampNeg 9) 0) (Int32.toNatClampNeg 10) 0) (Int32.toNatClampNeg 11) 0) (Int32.toNatClampNeg 12) 0) (Int32.toNatClampNeg 13) 0) (Int32.toNatClampNeg 14) 0) (Int32.toNatClampNeg 15) 0)))] H := hP
  have hD : va_D A [(h0, .inr (10, [.int 0, .int 0, .int 0, .ref w_memoryA, .ref p0O, .ref w_flowsR, .ref w_allocatorO, .ref w_toldA, .int w_isRunning, .int w_calls, .ref w_functionA, .ref w_atA, .ref w_blockA, .ref w_blockAheadA, .ref w_argumentsA, .ref w_cellsA, .ref w_slotsA, .int w_slotRoom, .ref w_waitingA, .int w_count])), (w_memoryA, .inl (w_memoryC, 16, .inl (upd (upd (upd (upd (upd (upd (upd (upd (upd (upd (upd (upd (upd (upd (upd (upd w_memoryF (Int32.toNatClampNeg 0) 0) (Int32.toNatClampNeg 1) 0) (Int32.toNatClampNeg 2) 0) (Int32.toNatClampNeg 3) 0) (Int32.toNatClampNeg 4) 0) (Int32.toNatClampNeg 5) 0) (Int32.toNatClampNeg 6) 0) (Int32.toNatClampNeg 7) 0) (Int32.toNatClampNeg 8) 0) (Int32.toNatClampNeg 9) 0) (Int32.toNatClampNeg 10) 0) (Int32.toNatClampNeg 11) 0) (Int32.toNatClampNeg 12) 0) (Int32.toNatClampNeg 13) 0) (Int32.toNatClampNeg 14) 0) (Int32.toNatClampNeg 15) 0)))] := hD
  have hK : va_K (dC, dI) cls [(w_memoryC, .int)] s := hK
  refine W.widen (k := 0) (n := 0) (Nat.le_of_ble_eq_true rfl) (Nat.le_of_ble_eq_true rfl) ?_
  have hP9 : va_P (dC, dI) cls [(h0, .inr (10, [.int 0, .int 0, .int 0, .ref w_memoryA, .ref p0O, .ref w_flowsR, .ref w_allocatorO, .ref w_toldA, .int w_isRunning, .int w_calls, .ref w_functionA, .ref w_atA, .ref w_blockA, .ref w_blockAheadA, .ref w_argumentsA, .ref w_cellsA, .ref w_slotsA, .int w_slotRoom, .ref w_waitingA, .int w_count])), (w_memoryA, .inl (w_memoryC, 16, .inl (upd (upd (upd (upd (upd (upd (upd (upd (upd (upd (upd (upd (upd (upd (upd (upd w_memoryF (Int32.toNatClampNeg 0) 0) (Int32.toNatClampNeg 1) 0) (Int32.toNatClampNeg 2) 0) (Int32.toNatClampNeg 3) 0) (Int32.toNatClampNeg 4) 0) (Int32.toNatClampNeg 5) 0) (Int32.toNatClampNeg 6) 0) (Int32.toNatClampNeg 7) 0) (Int32.toNatClampNeg 8) 0) (Int32.toNatClampNeg 9) 0) (Int32.toNatClampNeg 10) 0) (Int32.toNatClampNeg 11) 0) (Int32.toNatClampNeg 12) 0) (Int32.toNatClampNeg 13) 0) (Int32.toNatClampNeg 14) 0) (Int32.toNatClampNeg 15) 0)))] H := by exact hP.sub [0, 1] rfl
  have hD9 : va_D A [(h0, .inr (10, [.int 0, .int 0, .int 0, .ref w_memoryA, .ref p0O, .ref w_flowsR, .ref w_allocatorO, .ref w_toldA, .int w_isRunning, .int w_calls, .ref w_functionA, .ref w_atA, .ref w_blockA, .ref w_blockAheadA, .ref w_argumentsA, .ref w_cellsA, .ref w_slotsA, .int w_slotRoom, .ref w_waitingA, .int w_count])), (w_memoryA, .inl (w_memoryC, 16, .inl (upd (upd (upd (upd (upd (upd (upd (upd (upd (upd (upd (upd (upd (upd (upd (upd w_memoryF (Int32.toNatClampNeg 0) 0) (Int32.toNatClampNeg 1) 0) (Int32.toNatClampNeg 2) 0) (Int32.toNatClampNeg 3) 0) (Int32.toNatClampNeg 4) 0) (Int32.toNatClampNeg 5) 0) (Int32.toNatClampNeg 6) 0) (Int32.toNatClampNeg 7) 0) (Int32.toNatClampNeg 8) 0) (Int32.toNatClampNeg 9) 0) (Int32.toNatClampNeg 10) 0) (Int32.toNatClampNeg 11) 0) (Int32.toNatClampNeg 12) 0) (Int32.toNatClampNeg 13) 0) (Int32.toNatClampNeg 14) 0) (Int32.toNatClampNeg 15) 0)))] := by exact hD.sub [0, 1] (by decide) rfl
  have hK9 : va_K (dC, dI) cls [(w_memoryC, .int)] s := hK.sub [0] rfl
  refine W.widen (k := 0) (n := 0) (Nat.le_of_ble_eq_true rfl) (Nat.le_of_ble_eq_true rfl) ?_
  exact W.vret hx hb hr (fun t ht hW => ⟨⟨(), rfl, trivial, ⟨by rw [ht]; exact hP9, va_K.moved hW.alike hK9, hD9⟩⟩, hS.F ht⟩) hS.2.2 dX3_begin_28
set_option maxHeartbeats 4000000 in
set_option maxRecDepth 100000 in
theorem kX3_stop_n156 {zs : Nat × Nat} (l : Launch) (dC : Nat → ClassId) (dI : Nat → Nat → Nat) (a0 : Nat) (i1 : Int32) (i2 : Int32) (i3 : Int32) (a4 : Nat) (a5 : Nat) (a6 : Nat) (a7 : Nat) (a8 : Nat) (i9 : Int32) (i10 : Int32) (a11 : Nat) (a12 : Nat) (a13 : Nat) (a14 : Nat) (a15 : Nat) (a16 : Nat) (a17 : Nat) (i18 : Int32) (a19 : Nat) (i20 : Int32) (sz : Nat) (hf0 : i10 = 0) : Met l yX3_stop (wz yX3_stop cX3_stop 2 (Option.none : Option Jvm.ClassFile.FieldType)) ({ frames := 0, cells := 0, slots := 0, locals := 0 }) (va_Pc [.ref a0, .int 0] (PRE zs dC dI [(a0, .inr (10, [.int i1, .int i2, .int i3, .ref a4, .ref a5, .ref a6, .ref a7, .ref a8, .int i9, .int i10, .ref a11, .ref a12, .ref a13, .ref a14, .ref a15, .ref a16, .ref a17, .int i18, .ref a19, .int i20]))] [] sz)) (va_Qv (fun (_ : Unit) => True) (fun _ t => POST dC dI [(a0, .inr (10, [.int 0, .int i2, .int i3, .ref a4, .ref a5, .ref a6, .ref a7, .ref a8, .int 0, .int i10, .ref a11, .ref a12, .ref a13, .ref a14, .ref a15, .ref a16, .ref a17, .int i18, .ref a19, .int i20]))] [] (va_A [(a0, .inr (10, [.int i1, .int i2, .int i3, .ref a4, .ref a5, .ref a6, .ref a7, .ref a8, .int i9, .int i10, .ref a11, .ref a12, .ref a13, .ref a14, .ref a15, .ref a16, .ref a17, .int i18, .ref a19, .int i20]))] sz) t) (va_A [(a0, .inr (10, [.int i1, .int i2, .int i3, .ref a4, .ref a5, .ref a6, .ref a7, .ref a8, .int i9, .int i10, .ref a11, .ref a12, .ref a13, .ref a14, .ref a15, .ref a16, .ref a17, .int i18, .ref a19, .int i20]))] sz)) 0 0 (va_A [(a0, .inr (10, [.int i1, .int i2, .int i3, .ref a4, .ref a5, .ref a6, .ref a7, .ref a8, .int i9, .int i10, .ref a11, .ref a12, .ref a13, .ref a14, .ref a15, .ref a16, .ref a17, .int i18, .ref a19, .int i20]))] sz) := by
  refine Met.ofW (cc := cX3_stop) (maxL := 2) (ret := (Option.none : Option Jvm.ClassFile.FieldType)) (by decide) rfl ?_
  intro p e s m args below meth c s₁ B hml hv
  obtain ⟨rfl, hsz, hP, hK, hD0, hE⟩ := hv
  have hx := B.exec
  have hb := B.bytes
  have hr := B.returns
  have hts0 := atoms_spec (ws := wz yX3_stop cX3_stop 2 (Option.none : Option Jvm.ClassFile.FieldType)) B.pre
  have hts : ∀ w ∈ gw, w.before _ s = true := fun w h => hts0 w (List.mem_cons_of_mem _ h)
  have hown : s.vm.findClass RX3 = some m.cls := findClass_of_methodNamed B.named
  have hlocks := B.notSynchronized
  subst hsz
  have hD := hD0.self (sz := s.heap.size)
  generalize hAe : va_A [(a0, .inr (10, [.int i1, .int i2, .int i3, .ref a4, .ref a5, .ref a6, .ref a7, .ref a8, .int i9, .int i10, .ref a11, .ref a12, .ref a13, .ref a14, .ref a15, .ref a16, .ref a17, .int i18, .ref a19, .int i20]))] s.heap.size = A at hD hE ⊢
  have hA : ∀ q : Nat, s.heap.size ≤ q → A q := fun q h => by rw [← hAe]; exact Or.inr h
  have hS : va_S A s.heap s.heap [] := va_S.rf
  have hP : va_P (dC, dI) cls [(a0, .inr (10, [.int i1, .int i2, .int i3, .ref a4, .ref a5, .ref a6, .ref a7, .ref a8, .int i9, .int i10, .ref a11, .ref a12, .ref a13, .ref a14, .ref a15, .ref a16, .ref a17, .int i18, .ref a19, .int i20]))] s.heap := hP
  have hl := lv_entry ([.ref a0, .int 0]) (n := 2) (Nat.le_of_ble_eq_true rfl)
  rw [lg_entry_eq]
  generalize (lg_sl ([.ref a0, .int 0]) ++ List.replicate (2 - (lg_sl ([.ref a0, .int 0])).length) Slot.unset).toArray = ls at hl ⊢
  have hl : lv_has ls 2 [(0, .ref a0), (1, .int 0)] := hl
  refine lv_aload_n hx hb dX3_stop_0 rfl (lv_at hl 0 rfl) ?_
  refine lv_iload_n hx hb dX3_stop_1 rfl (lv_at hl 1 rfl) ?_
  refine va_put (D := (dC, dI)) (ci := 10) (v := .int 0) (ty := .int) (C := RX3) (T := TX3) (N := 20) hx hb hts i_X3 tyX3 tyX3_ok nmX3 hown hK hP hD hS 0 rfl rfl 0 (by decide) (hts _ qw429) (fun _ h9 => h9) rfl (by decide +kernel) rfl rfl (Nat.le_of_ble_eq_true rfl) dX3_stop_2 (fun H locs hP hD hS => ?_)
  have hP : va_P (dC, dI) cls [(a0, .inr (10, [.int 0, .int i2, .int i3, .ref a4, .ref a5, .ref a6, .ref a7, .ref a8, .int i9, .int i10, .ref a11, .ref a12, .ref a13, .ref a14, .ref a15, .ref a16, .ref a17, .int i18, .ref a19, .int i20]))] H := hP
  have hD : va_D A [(a0, .inr (10, [.int 0, .int i2, .int i3, .ref a4, .ref a5, .ref a6, .ref a7, .ref a8, .int i9, .int i10, .ref a11, .ref a12, .ref a13, .ref a14, .ref a15, .ref a16, .ref a17, .int i18, .ref a19, .int i20]))] := hD
  refine lv_aload_n hx hb dX3_stop_5 rfl (lv_at hl 0 rfl) ?_
  refine lv_iconst (v := 0) hx hb dX3_stop_6 (by decide) ?_
  refine va_put (D := (dC, dI)) (ci := 10) (v := .int 0) (ty := .boolean) (C := RX3) (T := TX3) (N := 20) hx hb hts i_X3 tyX3 tyX3_ok nmX3 hown hK hP hD hS 0 rfl rfl 8 (by decide) (hts _ qw437) (fun _ h9 => h9) rfl (by decide +kernel) rfl rfl (Nat.le_of_ble_eq_true rfl) dX3_stop_7 (fun H locs hP hD hS => ?_)
  have hP : va_P (dC, dI) cls [(a0, .inr (10, [.int 0, .int i2, .int i3, .ref a4, .ref a5, .ref a6, .ref a7, .ref a8, .int 0, .int i10, .ref a11, .ref a12, .ref a13, .ref a14, .ref a15, .ref a16, .ref a17, .int i18, .ref a19, .int i20]))] H := hP
  have hD : va_D A [(a0, .inr (10, [.int 0, .int i2, .int i3, .ref a4, .ref a5, .ref a6, .ref a7, .ref a8, .int 0, .int i10, .ref a11, .ref a12, .ref a13, .ref a14, .ref a15, .ref a16, .ref a17, .int i18, .ref a19, .int i20]))] := hD
  have hP9 : va_P (dC, dI) cls [(a0, .inr (10, [.int 0, .int i2, .int i3, .ref a4, .ref a5, .ref a6, .ref a7, .ref a8, .int 0, .int i10, .ref a11, .ref a12, .ref a13, .ref a14, .ref a15, .ref a16, .ref a17, .int i18, .ref a19, .int i20]))] H := by exact hP.sub [0] rfl
  have hD9 : va_D A [(a0, .inr (10, [.int 0, .int i2, .int i3, .ref a4, .ref a5, .ref a6, .ref a7, .ref a8, .int 0, .int i10, .ref a11, .ref a12, .ref a13, .ref a14, .ref a15, .ref a16, .ref a17, .int i18, .ref a19, .int i20]))] := by exact hD.sub [0] (by decide) rfl
  have hK9 : va_K (dC, dI) cls [] s := hK.sub [] rfl
  refine W.widen (k := 0) (n := 0) (Nat.le_of_ble_eq_true rfl) (Nat.le_of_ble_eq_true rfl) ?_
  exact W.vret hx hb hr (fun t ht hW => ⟨⟨(), rfl, trivial, ⟨by rw [ht]; exact hP9, va_K.moved hW.alike hK9, hD9⟩⟩, hS.F ht⟩) hS.2.2 dX3_stop_10
def sX3_close_0_0 (w_outcome : Int32) (w_calls : Int32) : Int32 := (if (w_calls - 1) = 0 then (if (w_calls - 1) ≤ 0 then 0 else 0) else (if (w_calls - 1) ≤ 0 then w_outcome else w_outcome))
def sX3_close_0_1 (w_result : Int32) (w_calls : Int32) (p0 : Int32) : Int32 := (if (w_calls - 1) = 0 then (if (w_calls - 1) ≤ 0 then p0 else p0) else (if (w_calls - 1) ≤ 0 then w_result else w_result))
def sX3_close_0_8 (w_isRunning : Int32) (w_calls : Int32) : Int32 := (if (w_calls - 1) = 0 then (if (w_calls - 1) ≤ 0 then 0 else 0) else (if (w_calls - 1) ≤ 0 then w_isRunning else w_isRunning))
def sX3_close_r (w_calls : Int32) : Int32 := (if (w_calls - 1) = 0 then (if (w_calls - 1) ≤ 0 then 0 else 1) else (if (w_calls - 1) ≤ 0 then 0 else 1))
theorem nz_sX3_close_r (w_calls : Int32) : narrow .boolean (.int (sX3_close_r w_calls)) = .int (sX3_close_r w_calls) := by
  unfold sX3_close_r
  (repeat' split) <;> first | rfl
set_option maxHeartbeats 4000000 in
set_option maxRecDepth 100000 in
theorem kX3_close {zs : Nat × Nat} (l : Launch) (dC : Nat → ClassId) (dI : Nat → Nat → Nat) (h0 : Nat) (w_outcome : Int32) (w_result : Int32) (w_steps : Int32) (w_memoryA : Nat) (w_flowsR : Nat) (w_toldA : Nat) (w_isRunning : Int32) (w_calls : Int32) (w_functionA : Nat) (w_atA : Nat) (w_blockA : Nat) (w_blockAheadA : Nat) (w_argumentsA : Nat) (w_cellsA : Nat) (w_slotsA : Nat) (w_slotRoom : Int32) (w_waitingA : Nat) (w_count : Int32) (w_programO : Nat) (w_allocatorO : Nat) (p0 : Int32) (sz : Nat)  : Met l yX3_close (wz yX3_close cX3_close 2 (Option.some Jvm.ClassFile.FieldType.boolean)) ({ frames := 1, cells := 0, slots := 0, locals := 21 }) (va_Pc [.ref h0, .int p0] (PRE zs dC dI [(h0, .inr (10, [.int w_outcome, .int w_result, .int w_steps, .ref w_memoryA, .ref w_programO, .ref w_flowsR, .ref w_allocatorO, .ref w_toldA, .int w_isRunning, .int w_calls, .ref w_functionA, .ref w_atA, .ref w_blockA, .ref w_blockAheadA, .ref w_argumentsA, .ref w_cellsA, .ref w_slotsA, .int w_slotRoom, .ref w_waitingA, .int w_count]))] [] sz)) (va_Qi (fun (r : Int32) (_ : Unit) => r = (sX3_close_r w_calls)) (fun _ t => POST dC dI [(h0, .inr (10, [.int (sX3_close_0_0 w_outcome w_calls), .int (sX3_close_0_1 w_result w_calls p0), .int w_steps, .ref w_memoryA, .ref w_programO, .ref w_flowsR, .ref w_allocatorO, .ref w_toldA, .int (sX3_close_0_8 w_isRunning w_calls), .int (w_calls - 1), .ref w_functionA, .ref w_atA, .ref w_blockA, .ref w_blockAheadA, .ref w_argumentsA, .ref w_cellsA, .ref w_slotsA, .int w_slotRoom, .ref w_waitingA, .int w_count]))] [] (va_A [(h0, .inr (10, [.int w_outcome, .int w_result, .int w_steps, .ref w_memoryA, .ref w_programO, .ref w_flowsR, .ref w_allocatorO, .ref w_toldA, .int w_isRunning, .int w_calls, .ref w_functionA, .ref w_atA, .ref w_blockA, .ref w_blockAheadA, .ref w_argumentsA, .ref w_cellsA, .ref w_slotsA, .int w_slotRoom, .ref w_waitingA, .int w_count]))] sz) t) (va_A [(h0, .inr (10, [.int w_outcome, .int w_result, .int w_steps, .ref w_memoryA, .ref w_programO, .ref w_flowsR, .ref w_allocatorO, .ref w_toldA, .int w_isRunning, .int w_calls, .ref w_functionA, .ref w_atA, .ref w_blockA, .ref w_blockAheadA, .ref w_argumentsA, .ref w_cellsA, .ref w_slotsA, .int w_slotRoom, .ref w_waitingA, .int w_count]))] sz)) 0 0 (va_A [(h0, .inr (10, [.int w_outcome, .int w_result, .int w_steps, .ref w_memoryA, .ref w_programO, .ref w_flowsR, .ref w_allocatorO, .ref w_toldA, .int w_isRunning, .int w_calls, .ref w_functionA, .ref w_atA, .ref w_blockA, .ref w_blockAheadA, .ref w_argumentsA, .ref w_cellsA, .ref w_slotsA, .int w_slotRoom, .ref w_waitingA, .int w_count]))] sz) := by
  refine Met.ofW (cc := cX3_close) (maxL := 2) (ret := (Option.some Jvm.ClassFile.FieldType.boolean)) (by decide) rfl ?_
  intro p e s m args below meth c s₁ B hml hv
  obtain ⟨rfl, hsz, hP, hK, hD0, hE⟩ := hv
  have hx := B.exec
  have hb := B.bytes
  have hr := B.returns
  have hts0 := atoms_spec (ws := wz yX3_close cX3_close 2 (Option.some Jvm.ClassFile.FieldType.boolean)) B.pre
  have hts : ∀ w ∈ gw, w.before _ s = true := fun w h => hts0 w (List.mem_cons_of_mem _ h)
  have hown : s.vm.findClass RX3 = some m.cls := findClass_of_methodNamed B.named
  have hlocks := B.notSynchronized
  subst hsz
  have hD := hD0.self (sz := s.heap.size)
  generalize hAe : va_A [(h0, .inr (10, [.int w_outcome, .int w_result, .int w_steps, .ref w_memoryA, .ref w_programO, .ref w_flowsR, .ref w_allocatorO, .ref w_toldA, .int w_isRunning, .int w_calls, .ref w_functionA, .ref w_atA, .ref w_blockA, .ref w_blockAheadA, .ref w_argumentsA, .ref w_cellsA, .ref w_slotsA, .int w_slotRoom, .ref w_waitingA, .int w_count]))] s.heap.size = A at hD hE ⊢
  have hA : ∀ q : Nat, s.heap.size ≤ q → A q := fun q h => by rw [← hAe]; exact Or.inr h
  have hS : va_S A s.heap s.heap [] := va_S.rf
  have hP : va_P (dC, dI) cls [(h0, .inr (10, [.int w_outcome, .int w_result, .int w_steps, .ref w_memoryA, .ref w_programO, .ref w_flowsR, .ref w_allocatorO, .ref w_toldA, .int w_isRunning, .int w_calls, .ref w_functionA, .ref w_atA, .ref w_blockA, .ref w_blockAheadA, .ref w_argumentsA, .ref w_cellsA, .ref w_slotsA, .int w_slotRoom, .ref w_waitingA, .int w_count]))] s.heap := hP
  have hl := lv_entry ([.ref h0, .int p0]) (n := 2) (Nat.le_of_ble_eq_true rfl)
  rw [lg_entry_eq]
  generalize (lg_sl ([.ref h0, .int p0]) ++ List.replicate (2 - (lg_sl ([.ref h0, .int p0])).length) Slot.unset).toArray = ls at hl ⊢
  have hl : lv_has ls 2 [(0, .ref h0), (1, .int p0)] := hl
  refine lv_aload_n hx hb dX3_close_0 rfl (lv_at hl 0 rfl) ?_
  refine lv_dup hx hb dX3_close_1 rfl ?_
  refine va_get (D := (dC, dI)) (ci := 10) (v := .int w_calls) (C := RX3) (T := TX3) (N := 20) hx hb hts i_X3 hown hK hP 0 rfl rfl 9 (by decide) (hts _ qw436) (fun _ h9 => h9) rfl dX3_close_2 ?_
  refine lv_iconst (v := 1) hx hb dX3_close_5 (by decide) ?_
  refine lv_isub hx hb dX3_close_6 ?_
  refine va_put (D := (dC, dI)) (ci := 10) (v := .int (w_calls - 1)) (ty := .int) (C := RX3) (T := TX3) (N := 20) hx hb hts i_X3 tyX3 tyX3_ok nmX3 hown hK hP hD hS 0 rfl rfl 9 (by decide) (hts _ qw436) (fun _ h9 => h9) rfl (by decide +kernel) rfl rfl (Nat.le_of_ble_eq_true rfl) dX3_close_7 (fun H locs hP hD hS => ?_)
  have hP : va_P (dC, dI) cls [(h0, .inr (10, [.int w_outcome, .int w_result, .int w_steps, .ref w_memoryA, .ref w_programO, .ref w_flowsR, .ref w_allocatorO, .ref w_toldA, .int w_isRunning, .int (w_calls - 1), .ref w_functionA, .ref w_atA, .ref w_blockA, .ref w_blockAheadA, .ref w_argumentsA, .ref w_cellsA, .ref w_slotsA, .int w_slotRoom, .ref w_waitingA, .int w_count]))] H := hP
  have hD : va_D A [(h0, .inr (10, [.int w_outcome, .int w_result, .int w_steps, .ref w_memoryA, .ref w_programO, .ref w_flowsR, .ref w_allocatorO, .ref w_toldA, .int w_isRunning, .int (w_calls - 1), .ref w_functionA, .ref w_atA, .ref w_blockA, .ref w_blockAheadA, .ref w_argumentsA, .ref w_cellsA, .ref w_slotsA, .int w_slotRoom, .ref w_waitingA, .int w_count]))] := hD
  refine lv_aload_n hx hb dX3_close_10 rfl (lv_at hl 0 rfl) ?_
  refine va_get (D := (dC, dI)) (ci := 10) (v := .int (w_calls - 1)) (C := RX3) (T := TX3) (N := 20) hx hb hts i_X3 hown hK hP 0 rfl rfl 9 (by decide) (hts _ qw436) (fun _ h9 => h9) rfl dX3_close_11 ?_
  by_cases hc1 : (w_calls - 1) = 0
  · refine lv_if_ne (tgt := 27) hx hb dX3_close_14 (by decide) (fun c => absurd hc1 c) (fun _ => ?_)
    refine lv_aload_n hx hb dX3_close_17 rfl (lv_at hl 0 rfl) ?_
    refine lv_iconst (v := 0) hx hb dX3_close_18 (by decide) ?_
    have hPc := hP.sub (ws' := [(h0, .inr (10, [.int w_outcome, .int w_result, .int w_steps, .ref w_memoryA, .ref w_programO, .ref w_flowsR, .ref w_allocatorO, .ref w_toldA, .int w_isRunning, .int (w_calls - 1), .ref w_functionA, .ref w_atA, .ref w_blockA, .ref w_blockAheadA, .ref w_argumentsA, .ref w_cellsA, .ref w_slotsA, .int w_slotRoom, .ref w_waitingA, .int w_count]))]) [0] rfl
    have hDc := hD.sub (ws' := [(h0, .inr (10, [.int w_outcome, .int w_result, .int w_steps, .ref w_memoryA, .ref w_programO, .ref w_flowsR, .ref w_allocatorO, .ref w_toldA, .int w_isRunning, .int (w_calls - 1), .ref w_functionA, .ref w_atA, .ref w_blockA, .ref w_blockAheadA, .ref w_argumentsA, .ref w_cellsA, .ref w_slotsA, .int w_slotRoom, .ref w_waitingA, .int w_count]))]) [0] (by decide) rfl
    have hKc := hK.sub (tys' := []) [] rfl
    have hFc := va_free (wc := [(h0, .inr (10, [.int w_outcome, .int w_result, .int w_steps, .ref w_memoryA, .ref w_programO, .ref w_flowsR, .ref w_allocatorO, .ref w_toldA, .int w_isRunning, .int (w_calls - 1), .ref w_functionA, .ref w_atA, .ref w_blockA, .ref w_blockAheadA, .ref w_argumentsA, .ref w_cellsA, .ref w_slotsA, .int w_slotRoom, .ref w_waitingA, .int w_count]))]) hD hS hA [0] rfl
    refine va_callv (va_runV (As := [.int 0]) (rest := []) ⟨hx, hb, hml, hown, hts⟩ (kX3_stop_n156 l dC dI (a0 := h0) (i1 := w_outcome) (i2 := w_result) (i3 := w_steps) (a4 := w_memoryA) (a5 := w_programO) (a6 := w_flowsR) (a7 := w_allocatorO) (a8 := w_toldA) (i9 := w_isRunning) (i10 := (w_calls - 1)) (a11 := w_functionA) (a12 := w_atA) (a13 := w_blockA) (a14 := w_blockAheadA) (a15 := w_argumentsA) (a16 := w_cellsA) (a17 := w_slotsA) (i18 := w_slotRoom) (a19 := w_waitingA) (i20 := w_count) (sz := _) (hf0 := hc1)) (cwV 1 hts (gi_V qw439 qw440 qw441 qw442 (gi_z qw438)) rfl rfl rfl (by decide +kernel) ⟨Nat.le_of_ble_eq_true rfl, Nat.le_of_ble_eq_true rfl⟩) ⟨PRE.blind, va_recv hKc hPc (ci := 10) (q0 := 0) rfl rfl, PRE.of hE hS hFc hPc hKc hDc⟩ rfl rfl hl.1 rfl (lv_room (Nat.le_of_ble_eq_true rfl)) dX3_close_19 ⟨Nat.le_of_ble_eq_true rfl, Nat.le_of_ble_eq_true rfl⟩) hS (fun q _ h => hFc q h) hFc (fun u t H locs ht hvm hw hB hz1 hk1 hS => ?_)
    obtain ⟨hP, hD, hK⟩ := JOIN (wr := []) hP hD hK [0] [] [] rfl rfl (by decide) (by decide) rfl hk1 hFc ht hvm hB
    have hP : va_P (dC, dI) cls [(h0, .inr (10, [.int 0, .int w_result, .int w_steps, .ref w_memoryA, .ref w_programO, .ref w_flowsR, .ref w_allocatorO, .ref w_toldA, .int 0, .int (w_calls - 1), .ref w_functionA, .ref w_atA, .ref w_blockA, .ref w_blockAheadA, .ref w_argumentsA, .ref w_cellsA, .ref w_slotsA, .int w_slotRoom, .ref w_waitingA, .int w_count]))] H := hP
    have hD : va_D A [(h0, .inr (10, [.int 0, .int w_result, .int w_steps, .ref w_memoryA, .ref w_programO, .ref w_flowsR, .ref w_allocatorO, .ref w_toldA, .int 0, .int (w_calls - 1), .ref w_functionA, .ref w_atA, .ref w_blockA, .ref w_blockAheadA, .ref w_argumentsA, .ref w_cellsA, .ref w_slotsA, .int w_slotRoom, .ref w_waitingA, .int w_count]))] := hD
    have hK : va_K (dC, dI) cls [] s := hK
    refine W.widen (k := 0) (n := 0) (Nat.le_of_ble_eq_true rfl) (Nat.le_of_ble_eq_true rfl) ?_
    refine lv_aload_n hx hb dX3_close_22 rfl (lv_at hl 0 rfl) ?_
    refine lv_iload_n hx hb dX3_close_23 rfl (lv_at hl 1 rfl) ?_
    refine va_put (D := (dC, dI)) (ci := 10) (v := .int p0) (ty := .int) (C := RX3) (T := TX3) (N := 20) hx hb hts i_X3 tyX3 tyX3_ok nmX3 hown hK hP hD hS 0 rfl rfl 1 (by decide) (hts _ qw430) (fun _ h9 => h9) rfl (by decide +kernel) rfl rfl (Nat.le_of_ble_eq_true rfl) dX3_close_24 (fun H locs hP hD hS => ?_)
    have hP : va_P (dC, dI) cls [(h0, .inr (10, [.int 0, .int p0, .int w_steps, .ref w_memoryA, .ref w_programO, .ref w_flowsR, .ref w_allocatorO, .ref w_toldA, .int 0, .int (w_calls - 1), .ref w_functionA, .ref w_atA, .ref w_blockA, .ref w_blockAheadA, .ref w_argumentsA, .ref w_cellsA, .ref w_slotsA, .int w_slotRoom, .ref w_waitingA, .int w_count]))] H := hP
    have hD : va_D A [(h0, .inr (10, [.int 0, .int p0, .int w_steps, .ref w_memoryA, .ref w_programO, .ref w_flowsR, .ref w_allocatorO, .ref w_toldA, .int 0, .int (w_calls - 1), .ref w_functionA, .ref w_atA, .ref w_blockA, .ref w_blockAheadA, .ref w_argumentsA, .ref w_cellsA, .ref w_slotsA, .int w_slotRoom, .ref w_waitingA, .int w_count]))] := hD
    refine lv_aload_n hx hb dX3_close_27 rfl (lv_at hl 0 rfl) ?_
    refine va_get (D := (dC, dI)) (ci := 10) (v := .int (w_calls - 1)) (C := RX3) (T := TX3) (N := 20) hx hb hts i_X3 hown hK hP 0 rfl rfl 9 (by decide) (hts _ qw436) (fun _ h9 => h9) rfl dX3_close_28 ?_
    by_cases hc2 : (w_calls - 1) ≤ 0
    · refine lv_if_le (tgt := 38) hx hb dX3_close_31 (by decide) (fun _ => ?_) (fun c => absurd hc2 c)
      refine lv_iconst (v := 0) hx hb dX3_close_38 (by decide) ?_
      have e_sX3_close_0_0 : sX3_close_0_0 w_outcome w_calls = 0 := by unfold sX3_close_0_0; rw [if_pos hc1, if_pos hc2]
      have e_sX3_close_0_1 : sX3_close_0_1 w_result w_calls p0 = p0 := by unfold sX3_close_0_1; rw [if_pos hc1, if_pos hc2]
      have e_sX3_close_0_8 : sX3_close_0_8 w_isRunning w_calls = 0 := by unfold sX3_close_0_8; rw [if_pos hc1, if_pos hc2]
      have e_sX3_close_r : sX3_close_r w_calls = 0 := by unfold sX3_close_r; rw [if_pos hc1, if_pos hc2]
      have hP9 : va_P (dC, dI) cls [(h0, .inr (10, [.int (sX3_close_0_0 w_outcome w_calls), .int (sX3_close_0_1 w_result w_calls p0), .int w_steps, .ref w_memoryA, .ref w_programO, .ref w_flowsR, .ref w_allocatorO, .ref w_toldA, .int (sX3_close_0_8 w_isRunning w_calls), .int (w_calls - 1), .ref w_functionA, .ref w_atA, .ref w_blockA, .ref w_blockAheadA, .ref w_argumentsA, .ref w_cellsA, .ref w_slotsA, .int w_slotRoom, .ref w_waitingA, .int w_count]))] H := by rw [e_sX3_close_0_0, e_sX3_close_0_1, e_sX3_close_0_8]; exact hP.sub [0] rfl
      have hD9 : va_D A [(h0, .inr (10, [.int (sX3_close_0_0 w_outcome w_calls), .int (sX3_close_0_1 w_result w_calls p0), .int w_steps, .ref w_memoryA, .ref w_programO, .ref w_flowsR, .ref w_allocatorO, .ref w_toldA, .int (sX3_close_0_8 w_isRunning w_calls), .int (w_calls - 1), .ref w_functionA, .ref w_atA, .ref w_blockA, .ref w_blockAheadA, .ref w_argumentsA, .ref w_cellsA, .ref w_slotsA, .int w_slotRoom, .ref w_waitingA, .int w_count]))] := by rw [e_sX3_close_0_0, e_sX3_close_0_1, e_sX3_close_0_8]; exact hD.sub [0] (by decide) rfl
      have hK9 : va_K (dC, dI) cls [] s := hK.sub [] rfl
      refine W.widen (k := 0) (n := 0) (Nat.le_of_ble_eq_true rfl) (Nat.le_of_ble_eq_true rfl) ?_
      exact W.zret (v := 0) hx hb hr (by decide) (fun t ht hW => ⟨⟨0, (), rfl, e_sX3_close_r.symm, ⟨by rw [ht]; exact hP9, va_K.moved hW.alike hK9, hD9⟩⟩, hS.F ht⟩) hS.2.2 dX3_close_39
    · refine lv_if_le (tgt := 38) hx hb dX3_close_31 (by decide) (fun c => absurd c hc2) (fun _ => ?_)
      refine lv_iconst (v := 1) hx hb dX3_close_34 (by decide) ?_
      refine lv_goto (tgt := 39) hx hb dX3_close_35 (by decide) ?_
      have e_sX3_close_0_0 : sX3_close_0_0 w_outcome w_calls = 0 := by unfold sX3_close_0_0; rw [if_pos hc1, if_neg hc2]
      have e_sX3_close_0_1 : sX3_close_0_1 w_result w_calls p0 = p0 := by unfold sX3_close_0_1; rw [if_pos hc1, if_neg hc2]
      have e_sX3_close_0_8 : sX3_close_0_8 w_isRunning w_calls = 0 := by unfold sX3_close_0_8; rw [if_pos hc1, if_neg hc2]
      have e_sX3_close_r : sX3_close_r w_calls = 1 := by unfold sX3_close_r; rw [if_pos hc1, if_neg hc2]
      have hP9 : va_P (dC, dI) cls [(h0, .inr (10, [.int (sX3_close_0_0 w_outcome w_calls), .int (sX3_close_0_1 w_result w_calls p0), .int w_steps, .ref w_memoryA, .ref w_programO, .ref w_flowsR, .ref w_allocatorO, .ref w_toldA, .int (sX3_close_0_8 w_isRunning w_calls), .int (w_calls - 1), .ref w_functionA, .ref w_atA, .ref w_blockA, .ref w_blockAheadA, .ref w_argumentsA, .ref w_cellsA, .ref w_slotsA, .int w_slotRoom, .ref w_waitingA, .int w_count]))] H := by rw [e_sX3_close_0_0, e_sX3_close_0_1, e_sX3_close_0_8]; exact hP.sub [0] rfl
      have hD9 : va_D A [(h0, .inr (10, [.int (sX3_close_0_0 w_outcome w_calls), .int (sX3_close_0_1 w_result w_calls p0), .int w_steps, .ref w_memoryA, .ref w_programO, .ref w_flowsR, .ref w_allocatorO, .ref w_toldA, .int (sX3_close_0_8 w_isRunning w_calls), .int (w_calls - 1), .ref w_functionA, .ref w_atA, .ref w_blockA, .ref w_blockAheadA, .ref w_argumentsA, .ref w_cellsA, .ref w_slotsA, .int w_slotRoom, .ref w_waitingA, .int w_count]))] := by rw [e_sX3_close_0_0, e_sX3_close_0_1, e_sX3_close_0_8]; exact hD.sub [0] (by decide) rfl
      have hK9 : va_K (dC, dI) cls [] s := hK.sub [] rfl
      refine W.widen (k := 0) (n := 0) (Nat.le_of_ble_eq_true rfl) (Nat.le_of_ble_eq_true rfl) ?_
      exact W.zret (v := 1) hx hb hr (by decide) (fun t ht hW => ⟨⟨1, (), rfl, e_sX3_close_r.symm, ⟨by rw [ht]; exact hP9, va_K.moved hW.alike hK9, hD9⟩⟩, hS.F ht⟩) hS.2.2 dX3_close_39
  · refine lv_if_ne (tgt := 27) hx hb dX3_close_14 (by decide) (fun _ => ?_) (fun c => absurd c hc1)
    refine lv_aload_n hx hb dX3_close_27 rfl (lv_at hl 0 rfl) ?_
    refine va_get (D := (dC, dI)) (ci := 10) (v := .int (w_calls - 1)) (C := RX3) (T := TX3) (N := 20) hx hb hts i_X3 hown hK hP 0 rfl rfl 9 (by decide) (hts _ qw436) (fun _ h9 => h9) rfl dX3_close_28 ?_
    by_cases hc3 : (w_calls - 1) ≤ 0
    · refine lv_if_le (tgt := 38) hx hb dX3_close_31 (by decide) (fun _ => ?_) (fun c => absurd hc3 c)
      refine lv_iconst (v := 0) hx hb dX3_close_38 (by decide) ?_
      have e_sX3_close_0_0 : sX3_close_0_0 w_outcome w_calls = w_outcome := by unfold sX3_close_0_0; rw [if_neg hc1, if_pos hc3]
      have e_sX3_close_0_1 : sX3_close_0_1 w_result w_calls p0 = w_result := by unfold sX3_close_0_1; rw [if_neg hc1, if_pos hc3]
      have e_sX3_close_0_8 : sX3_close_0_8 w_isRunning w_calls = w_isRunning := by unfold sX3_close_0_8; rw [if_neg hc1, if_pos hc3]
      have e_sX3_close_r : sX3_close_r w_calls = 0 := by unfold sX3_close_r; rw [if_neg hc1, if_pos hc3]
      have hP9 : va_P (dC, dI) cls [(h0, .inr (10, [.int (sX3_close_0_0 w_outcome w_calls), .int (sX3_close_0_1 w_result w_calls p0), .int w_steps, .ref w_memoryA, .ref w_programO, .ref w_flowsR, .ref w_allocatorO, .ref w_toldA, .int (sX3_close_0_8 w_isRunning w_calls), .int (w_calls - 1), .ref w_functionA, .ref w_atA, .ref w_blockA, .ref w_blockAheadA, .ref w_argumentsA, .ref w_cellsA, .ref w_slotsA, .int w_slotRoom, .ref w_waitingA, .int w_count]))] H := by rw [e_sX3_close_0_0, e_sX3_close_0_1, e_sX3_close_0_8]; exact hP.sub [0] rfl
      have hD9 : va_D A [(h0, .inr (10, [.int (sX3_close_0_0 w_outcome w_calls), .int (sX3_close_0_1 w_result w_calls p0), .int w_steps, .ref w_memoryA, .ref w_programO, .ref w_flowsR, .ref w_allocatorO, .ref w_toldA, .int (sX3_close_0_8 w_isRunning w_calls), .int (w_calls - 1), .ref w_functionA, .ref w_atA, .ref w_blockA, .ref w_blockAheadA, .ref w_argumentsA, .ref w_cellsA, .ref w_slotsA, .int w_slotRoom, .ref w_waitingA, .int w_count]))] := by rw [e_sX3_close_0_0, e_sX3_close_0_1, e_sX3_close_0_8]; exact hD.sub [0] (by decide) rfl
      have hK9 : va_K (dC, dI) cls [] s := hK.sub [] rfl
      refine W.widen (k := 0) (n := 0) (Nat.le_of_ble_eq_true rfl) (Nat.le_of_ble_eq_true rfl) ?_
      exact W.zret (v := 0) hx hb hr (by decide) (fun t ht hW => ⟨⟨0, (), rfl, e_sX3_close_r.symm, ⟨by rw [ht]; exact hP9, va_K.moved hW.alike hK9, hD9⟩⟩, hS.F ht⟩) hS.2.2 dX3_close_39
    · refine lv_if_le (tgt := 38) hx hb dX3_close_31 (by decide) (fun c => absurd c hc3) (fun _ => ?_)
      refine lv_iconst (v := 1) hx hb dX3_close_34 (by decide) ?_
      refine lv_goto (tgt := 39) hx hb dX3_close_35 (by decide) ?_
      have e_sX3_close_0_0 : sX3_close_0_0 w_outcome w_calls = w_outcome := by unfold sX3_close_0_0; rw [if_neg hc1, if_neg hc3]
      have e_sX3_close_0_1 : sX3_close_0_1 w_result w_calls p0 = w_result := by unfold sX3_close_0_1; rw [if_neg hc1, if_neg hc3]
      have e_sX3_close_0_8 : sX3_close_0_8 w_isRunning w_calls = w_isRunning := by unfold sX3_close_0_8; rw [if_neg hc1, if_neg hc3]
      have e_sX3_close_r : sX3_close_r w_calls = 1 := by unfold sX3_close_r; rw [if_neg hc1, if_neg hc3]
      have hP9 : va_P (dC, dI) cls [(h0, .inr (10, [.int (sX3_close_0_0 w_outcome w_calls), .int (sX3_close_0_1 w_result w_calls p0), .int w_steps, .ref w_memoryA, .ref w_programO, .ref w_flowsR, .ref w_allocatorO, .ref w_toldA, .int (sX3_close_0_8 w_isRunning w_calls), .int (w_calls - 1), .ref w_functionA, .ref w_atA, .ref w_blockA, .ref w_blockAheadA, .ref w_argumentsA, .ref w_cellsA, .ref w_slotsA, .int w_slotRoom, .ref w_waitingA, .int w_count]))] H := by rw [e_sX3_close_0_0, e_sX3_close_0_1, e_sX3_close_0_8]; exact hP.sub [0] rfl
      have hD9 : va_D A [(h0, .inr (10, [.int (sX3_close_0_0 w_outcome w_calls), .int (sX3_close_0_1 w_result w_calls p0), .int w_steps, .ref w_memoryA, .ref w_programO, .ref w_flowsR, .ref w_allocatorO, .ref w_toldA, .int (sX3_close_0_8 w_isRunning w_calls), .int (w_calls - 1), .ref w_functionA, .ref w_atA, .ref w_blockA, .ref w_blockAheadA, .ref w_argumentsA, .ref w_cellsA, .ref w_slotsA, .int w_slotRoom, .ref w_waitingA, .int w_count]))] := by rw [e_sX3_close_0_0, e_sX3_close_0_1, e_sX3_close_0_8]; exact hD.sub [0] (by decide) rfl
      have hK9 : va_K (dC, dI) cls [] s := hK.sub [] rfl
      refine W.widen (k := 0) (n := 0) (Nat.le_of_ble_eq_true rfl) (Nat.le_of_ble_eq_true rfl) ?_
      exact W.zret (v := 1) hx hb hr (by decide) (fun t ht hW => ⟨⟨1, (), rfl, e_sX3_close_r.symm, ⟨by rw [ht]; exact hP9, va_K.moved hW.alike hK9, hD9⟩⟩, hS.F ht⟩) hS.2.2 dX3_close_39
set_option maxHeartbeats 4000000 in
set_option maxRecDepth 100000 in
theorem kX3_stop_n195 {zs : Nat × Nat} (l : Launch) (dC : Nat → ClassId) (dI : Nat → Nat → Nat) (a0 : Nat) (i1 : Int32) (i2 : Int32) (i3 : Int32) (a4 : Nat) (a5 : Nat) (a6 : Nat) (a7 : Nat) (a8 : Nat) (i9 : Int32) (i10 : Int32) (a11 : Nat) (a12 : Nat) (a13 : Nat) (a14 : Nat) (a15 : Nat) (a16 : Nat) (a17 : Nat) (i18 : Int32) (a19 : Nat) (i20 : Int32) (sz : Nat)  : Met l yX3_stop (wz yX3_stop cX3_stop 2 (Option.none : Option Jvm.ClassFile.FieldType)) ({ frames := 0, cells := 0, slots := 0, locals := 0 }) (va_Pc [.ref a0, .int 1] (PRE zs dC dI [(a0, .inr (10, [.int i1, .int i2, .int i3, .ref a4, .ref a5, .ref a6, .ref a7, .ref a8, .int i9, .int i10, .ref a11, .ref a12, .ref a13, .ref a14, .ref a15, .ref a16, .ref a17, .int i18, .ref a19, .int i20]))] [] sz)) (va_Qv (fun (_ : Unit) => True) (fun _ t => POST dC dI [(a0, .inr (10, [.int 1, .int i2, .int i3, .ref a4, .ref a5, .ref a6, .ref a7, .ref a8, .int 0, .int i10, .ref a11, .ref a12, .ref a13, .ref a14, .ref a15, .ref a16, .ref a17, .int i18, .ref a19, .int i20]))] [] (va_A [(a0, .inr (10, [.int i1, .int i2, .int i3, .ref a4, .ref a5, .ref a6, .ref a7, .ref a8, .int i9, .int i10, .ref a11, .ref a12, .ref a13, .ref a14, .ref a15, .ref a16, .ref a17, .int i18, .ref a19, .int i20]))] sz) t) (va_A [(a0, .inr (10, [.int i1, .int i2, .int i3, .ref a4, .ref a5, .ref a6, .ref a7, .ref a8, .int i9, .int i10, .ref a11, .ref a12, .ref a13, .ref a14, .ref a15, .ref a16, .ref a17, .int i18, .ref a19, .int i20]))] sz)) 0 0 (va_A [(a0, .inr (10, [.int i1, .int i2, .int i3, .ref a4, .ref a5, .ref a6, .ref a7, .ref a8, .int i9, .int i10, .ref a11, .ref a12, .ref a13, .ref a14, .ref a15, .ref a16, .ref a17, .int i18, .ref a19, .int i20]))] sz) := by
  refine Met.ofW (cc := cX3_stop) (maxL := 2) (ret := (Option.none : Option Jvm.ClassFile.FieldType)) (by decide) rfl ?_
  intro p e s m args below meth c s₁ B hml hv
  obtain ⟨rfl, hsz, hP, hK, hD0, hE⟩ := hv
  have hx := B.exec
  have hb := B.bytes
  have hr := B.returns
  have hts0 := atoms_spec (ws := wz yX3_stop cX3_stop 2 (Option.none : Option Jvm.ClassFile.FieldType)) B.pre
  have hts : ∀ w ∈ gw, w.before _ s = true := fun w h => hts0 w (List.mem_cons_of_mem _ h)
  have hown : s.vm.findClass RX3 = some m.cls := findClass_of_methodNamed B.named
  have hlocks := B.notSynchronized
  subst hsz
  have hD := hD0.self (sz := s.heap.size)
  generalize hAe : va_A [(a0, .inr (10, [.int i1, .int i2, .int i3, .ref a4, .ref a5, .ref a6, .ref a7, .ref a8, .int i9, .int i10, .ref a11, .ref a12, .ref a13, .ref a14, .ref a15, .ref a16, .ref a17, .int i18, .ref a19, .int i20]))] s.heap.size = A at hD hE ⊢
  have hA : ∀ q : Nat, s.heap.size ≤ q → A q := fun q h => by rw [← hAe]; exact Or.inr h
  have hS : va_S A s.heap s.heap [] := va_S.rf
  have hP : va_P (dC, dI) cls [(a0, .inr (10, [.int i1, .int i2, .int i3, .ref a4, .ref a5, .ref a6, .ref a7, .ref a8, .int i9, .int i10, .ref a11, .ref a12, .ref a13, .ref a14, .ref a15, .ref a16, .ref a17, .int i18, .ref a19, .int i20]))] s.heap := hP
  have hl := lv_entry ([.ref a0, .int 1]) (n := 2) (Nat.le_of_ble_eq_true rfl)
  rw [lg_entry_eq]
  generalize (lg_sl ([.ref a0, .int 1]) ++ List.replicate (2 - (lg_sl ([.ref a0, .int 1])).length) Slot.unset).toArray = ls at hl ⊢
  have hl : lv_has ls 2 [(0, .ref a0), (1, .int 1)] := hl
  refine lv_aload_n hx hb dX3_stop_0 rfl (lv_at hl 0 rfl) ?_
  refine lv_iload_n hx hb dX3_stop_1 rfl (lv_at hl 1 rfl) ?_
  refine va_put (D := (dC, dI)) (ci := 10) (v := .int 1) (ty := .int) (C := RX3) (T := TX3) (N := 20) hx hb hts i_X3 tyX3 tyX3_ok nmX3 hown hK hP hD hS 0 rfl rfl 0 (by decide) (hts _ qw429) (fun _ h9 => h9) rfl (by decide +kernel) rfl rfl (Nat.le_of_ble_eq_true rfl) dX3_stop_2 (fun H locs hP hD hS => ?_)
  have hP : va_P (dC, dI) cls [(a0, .inr (10, [.int 1, .int i2, .int i3, .ref a4, .ref a5, .ref a6, .ref a7, .ref a8, .int i9, .int i10, .ref a11, .ref a12, .ref a13, .ref a14, .ref a15, .ref a16, .ref a17, .int i18, .ref a19, .int i20]))] H := hP
  have hD : va_D A [(a0, .inr (10, [.int 1, .int i2, .int i3, .ref a4, .ref a5, .ref a6, .ref a7, .ref a8, .int i9, .int i10, .ref a11, .ref a12, .ref a13, .ref a14, .ref a15, .ref a16, .ref a17, .int i18, .ref a19, .int i20]))] := hD
  refine lv_aload_n hx hb dX3_stop_5 rfl (lv_at hl 0 rfl) ?_
  refine lv_iconst (v := 0) hx hb dX3_stop_6 (by decide) ?_
  refine va_put (D := (dC, dI)) (ci := 10) (v := .int 0) (ty := .boolean) (C := RX3) (T := TX3) (N := 20) hx hb hts i_X3 tyX3 tyX3_ok nmX3 hown hK hP hD hS 0 rfl rfl 8 (by decide) (hts _ qw437) (fun _ h9 => h9) rfl (by decide +kernel) rfl rfl (Nat.le_of_ble_eq_true rfl) dX3_stop_7 (fun H locs hP hD hS => ?_)
  have hP : va_P (dC, dI) cls [(a0, .inr (10, [.int 1, .int i2, .int i3, .ref a4, .ref a5, .ref a6, .ref a7, .ref a8, .int 0, .int i10, .ref a11, .ref a12, .ref a13, .ref a14, .ref a15, .ref a16, .ref a17, .int i18, .ref a19, .int i20]))] H := hP
  have hD : va_D A [(a0, .inr (10, [.int 1, .int i2, .int i3, .ref a4, .ref a5, .ref a6, .ref a7, .ref a8, .int 0, .int i10, .ref a11, .ref a12, .ref a13, .ref a14, .ref a15, .ref a16, .ref a17, .int i18, .ref a19, .int i20]))] := hD
  have hP9 : va_P (dC, dI) cls [(a0, .inr (10, [.int 1, .int i2, .int i3, .ref a4, .ref a5, .ref a6, .ref a7, .ref a8, .int 0, .int i10, .ref a11, .ref a12, .ref a13, .ref a14, .ref a15, .ref a16, .ref a17, .int i18, .ref a19, .int i20]))] H := by exact hP.sub [0] rfl
  have hD9 : va_D A [(a0, .inr (10, [.int 1, .int i2, .int i3, .ref a4, .ref a5, .ref a6, .ref a7, .ref a8, .int 0, .int i10, .ref a11, .ref a12, .ref a13, .ref a14, .ref a15, .ref a16, .ref a17, .int i18, .ref a19, .int i20]))] := by exact hD.sub [0] (by decide) rfl
  have hK9 : va_K (dC, dI) cls [] s := hK.sub [] rfl
  refine W.widen (k := 0) (n := 0) (Nat.le_of_ble_eq_true rfl) (Nat.le_of_ble_eq_true rfl) ?_
  exact W.vret hx hb hr (fun t ht hW => ⟨⟨(), rfl, trivial, ⟨by rw [ht]; exact hP9, va_K.moved hW.alike hK9, hD9⟩⟩, hS.F ht⟩) hS.2.2 dX3_stop_10
def sX3_operate_0_0 (w_outcome : Int32) (p0 : Int32) (p2 : Int32) : Int32 := (if (sX11_isFailing_r p0 p2) = 0 then w_outcome else 1)
def sX3_operate_0_8 (w_isRunning : Int32) (p0 : Int32) (p2 : Int32) : Int32 := (if (sX11_isFailing_r p0 p2) = 0 then w_isRunning else 0)
def sX3_operate_r (p0 : Int32) (p1 : Int32) (p2 : Int32) : Int32 := (if (sX11_isFailing_r p0 p2) = 0 then (sX11_compute_r p0 p1 p2) else 0)
set_option maxHeartbeats 4000000 in
set_option maxRecDepth 100000 in
theorem kX3_operate {zs : Nat × Nat} (l : Launch) (dC : Nat → ClassId) (dI : Nat → Nat → Nat) (h0 : Nat) (w_outcome : Int32) (w_result : Int32) (w_steps : Int32) (w_memoryA : Nat) (w_flowsR : Nat) (w_toldA : Nat) (w_isRunning : Int32) (w_calls : Int32) (w_functionA : Nat) (w_atA : Nat) (w_blockA : Nat) (w_blockAheadA : Nat) (w_argumentsA : Nat) (w_cellsA : Nat) (w_slotsA : Nat) (w_slotRoom : Int32) (w_waitingA : Nat) (w_count : Int32) (w_programO : Nat) (w_allocatorO : Nat) (p0 : Int32) (p1 : Int32) (p2 : Int32) (sz : Nat)  : Met l yX3_operate (wz yX3_operate cX3_operate 4 (Option.some Jvm.ClassFile.FieldType.int)) ({ frames := 1, cells := 0, slots := 0, locals := 22 }) (va_Pc [.ref h0, .int p0, .int p1, .int p2] (PRE zs dC dI [(h0, .inr (10, [.int w_outcome, .int w_result, .int w_steps, .ref w_memoryA, .ref w_programO, .ref w_flowsR, .ref w_allocatorO, .ref w_toldA, .int w_isRunning, .int w_calls, .ref w_functionA, .ref w_atA, .ref w_blockA, .ref w_blockAheadA, .ref w_argumentsA, .ref w_cellsA, .ref w_slotsA, .int w_slotRoom, .ref w_waitingA, .int w_count]))] [] sz)) (va_Qi (fun (r : Int32) (_ : Unit) => r = (sX3_operate_r p0 p1 p2)) (fun _ t => POST dC dI [(h0, .inr (10, [.int (sX3_operate_0_0 w_outcome p0 p2), .int w_result, .int w_steps, .ref w_memoryA, .ref w_programO, .ref w_flowsR, .ref w_allocatorO, .ref w_toldA, .int (sX3_operate_0_8 w_isRunning p0 p2), .int w_calls, .ref w_functionA, .ref w_atA, .ref w_blockA, .ref w_blockAheadA, .ref w_argumentsA, .ref w_cellsA, .ref w_slotsA, .int w_slotRoom, .ref w_waitingA, .int w_count]))] [] (va_A [(h0, .inr (10, [.int w_outcome, .int w_result, .int w_steps, .ref w_memoryA, .ref w_programO, .ref w_flowsR, .ref w_allocatorO, .ref w_toldA, .int w_isRunning, .int w_calls, .ref w_functionA, .ref w_atA, .ref w_blockA, .ref w_blockAheadA, .ref w_argumentsA, .ref w_cellsA, .ref w_slotsA, .int w_slotRoom, .ref w_waitingA, .int w_count]))] sz) t) (va_A [(h0, .inr (10, [.int w_outcome, .int w_result, .int w_steps, .ref w_memoryA, .ref w_programO, .ref w_flowsR, .ref w_allocatorO, .ref w_toldA, .int w_isRunning, .int w_calls, .ref w_functionA, .ref w_atA, .ref w_blockA, .ref w_blockAheadA, .ref w_argumentsA, .ref w_cellsA, .ref w_slotsA, .int w_slotRoom, .ref w_waitingA, .int w_count]))] sz)) 0 0 (va_A [(h0, .inr (10, [.int w_outcome, .int w_result, .int w_steps, .ref w_memoryA, .ref w_programO, .ref w_flowsR, .ref w_allocatorO, .ref w_toldA, .int w_isRunning, .int w_calls, .ref w_functionA, .ref w_atA, .ref w_blockA, .ref w_blockAheadA, .ref w_argumentsA, .ref w_cellsA, .ref w_slotsA, .int w_slotRoom, .ref w_waitingA, .int w_count]))] sz) := by
  refine Met.ofW (cc := cX3_operate) (maxL := 4) (ret := (Option.some Jvm.ClassFile.FieldType.int)) (by decide) rfl ?_
  intro p e s m args below meth c s₁ B hml hv
  obtain ⟨rfl, hsz, hP, hK, hD0, hE⟩ := hv
  have hx := B.exec
  have hb := B.bytes
  have hr := B.returns
  have hts0 := atoms_spec (ws := wz yX3_operate cX3_operate 4 (Option.some Jvm.ClassFile.FieldType.int)) B.pre
  have hts : ∀ w ∈ gw, w.before _ s = true := fun w h => hts0 w (List.mem_cons_of_mem _ h)
  have hown : s.vm.findClass RX3 = some m.cls := findClass_of_methodNamed B.named
  have hlocks := B.notSynchronized
  subst hsz
  have hD := hD0.self (sz := s.heap.size)
  generalize hAe : va_A [(h0, .inr (10, [.int w_outcome, .int w_result, .int w_steps, .ref w_memoryA, .ref w_programO, .ref w_flowsR, .ref w_allocatorO, .ref w_toldA, .int w_isRunning, .int w_calls, .ref w_functionA, .ref w_atA, .ref w_blockA, .ref w_blockAheadA, .ref w_argumentsA, .ref w_cellsA, .ref w_slotsA, .int w_slotRoom, .ref w_waitingA, .int w_count]))] s.heap.size = A at hD hE ⊢
  have hA : ∀ q : Nat, s.heap.size ≤ q → A q := fun q h => by rw [← hAe]; exact Or.inr h
  have hS : va_S A s.heap s.heap [] := va_S.rf
  have hP : va_P (dC, dI) cls [(h0, .inr (10, [.int w_outcome, .int w_result, .int w_steps, .ref w_memoryA, .ref w_programO, .ref w_flowsR, .ref w_allocatorO, .ref w_toldA, .int w_isRunning, .int w_calls, .ref w_functionA, .ref w_atA, .ref w_blockA, .ref w_blockAheadA, .ref w_argumentsA, .ref w_cellsA, .ref w_slotsA, .int w_slotRoom, .ref w_waitingA, .int w_count]))] s.heap := hP
  have hl := lv_entry ([.ref h0, .int p0, .int p1, .int p2]) (n := 4) (Nat.le_of_ble_eq_true rfl)
  rw [lg_entry_eq]
  generalize (lg_sl ([.ref h0, .int p0, .int p1, .int p2]) ++ List.replicate (4 - (lg_sl ([.ref h0, .int p0, .int p1, .int p2])).length) Slot.unset).toArray = ls at hl ⊢
  have hl : lv_has ls 4 [(0, .ref h0), (1, .int p0), (2, .int p1), (3, .int p2)] := hl
  refine lv_iload_n hx hb dX3_operate_0 rfl (lv_at hl 1 rfl) ?_
  refine lv_iload_n hx hb dX3_operate_1 rfl (lv_at hl 3 rfl) ?_
  have hPc := hP.sub (ws' := []) [] rfl
  have hDc := hD.sub (ws' := []) [] (by decide) rfl
  have hKc := hK.sub (tys' := []) [] rfl
  have hFc := va_free (wc := []) hD hS hA [] rfl
  refine va_calli (va_runSN (As := [.int p0, .int p2]) (rest := []) ⟨hx, hb, hml, hown, hts⟩ (kX11_isFailing l dC dI (p0 := p0) (p1 := p2) (sz := _)) ⟨(va_cnB 2 hts (gi_z qw351) rfl rfl rfl (hE.nw (List.mem_append_right _ (tbl_9 (i := 211) rfl)) rfl) (hts _ qw120) (by decide +kernel) ⟨Nat.le_of_ble_eq_true rfl, Nat.le_of_ble_eq_true rfl⟩), (hts _ qw352), trivial⟩ ⟨PRE.blind, PRE.of hE hS hFc hPc hKc hDc⟩ rfl rfl hl.1 rfl (lv_room (Nat.le_of_ble_eq_true rfl)) dX3_operate_2 ⟨Nat.le_of_ble_eq_true rfl, Nat.le_of_ble_eq_true rfl⟩) hS (fun q _ h => hFc q h) hFc (fun r1 u t H locs ht hvm hw hB hz1 hk1 hS => ?_)
  obtain ⟨hP, hD, hK⟩ := JOIN (wr := [(h0, .inr (10, [.int w_outcome, .int w_result, .int w_steps, .ref w_memoryA, .ref w_programO, .ref w_flowsR, .ref w_allocatorO, .ref w_toldA, .int w_isRunning, .int w_calls, .ref w_functionA, .ref w_atA, .ref w_blockA, .ref w_blockAheadA, .ref w_argumentsA, .ref w_cellsA, .ref w_slotsA, .int w_slotRoom, .ref w_waitingA, .int w_count]))]) hP hD hK [] [0] [] rfl rfl (by decide) (by decide) rfl hk1 hFc ht hvm hB
  have hP : va_P (dC, dI) cls [(h0, .inr (10, [.int w_outcome, .int w_result, .int w_steps, .ref w_memoryA, .ref w_programO, .ref w_flowsR, .ref w_allocatorO, .ref w_toldA, .int w_isRunning, .int w_calls, .ref w_functionA, .ref w_atA, .ref w_blockA, .ref w_blockAheadA, .ref w_argumentsA, .ref w_cellsA, .ref w_slotsA, .int w_slotRoom, .ref w_waitingA, .int w_count]))] H := hP
  have hD : va_D A [(h0, .inr (10, [.int w_outcome, .int w_result, .int w_steps, .ref w_memoryA, .ref w_programO, .ref w_flowsR, .ref w_allocatorO, .ref w_toldA, .int w_isRunning, .int w_calls, .ref w_functionA, .ref w_atA, .ref w_blockA, .ref w_blockAheadA, .ref w_argumentsA, .ref w_cellsA, .ref w_slotsA, .int w_slotRoom, .ref w_waitingA, .int w_count]))] := hD
  have hK : va_K (dC, dI) cls [] s := hK
  refine W.widen (k := 0) (n := 0) (Nat.le_of_ble_eq_true rfl) (Nat.le_of_ble_eq_true rfl) ?_
  obtain rfl : r1 = (sX11_isFailing_r p0 p2) := hw
  by_cases hc1 : (sX11_isFailing_r p0 p2) = 0
  · refine lv_if_eq (tgt := 15) hx hb dX3_operate_5 (by decide) (fun _ => ?_) (fun c => absurd hc1 c)
    refine lv_iload_n hx hb dX3_operate_15 rfl (lv_at hl 1 rfl) ?_
    refine lv_iload_n hx hb dX3_operate_16 rfl (lv_at hl 2 rfl) ?_
    refine lv_iload_n hx hb dX3_operate_17 rfl (lv_at hl 3 rfl) ?_
    have hPc := hP.sub (ws' := []) [] rfl
    have hDc := hD.sub (ws' := []) [] (by decide) rfl
    have hKc := hK.sub (tys' := []) [] rfl
    have hFc := va_free (wc := []) hD hS hA [] rfl
    refine va_calli (va_runSN (As := [.int p0, .int p1, .int p2]) (rest := []) ⟨hx, hb, hml, hown, hts⟩ (kX11_compute l dC dI (p0 := p0) (p1 := p1) (p2 := p2) (sz := _)) ⟨(va_cnB 3 hts (gi_z qw353) rfl rfl rfl (hE.nw (List.mem_append_right _ (tbl_9 (i := 212) rfl)) rfl) (hts _ qw120) (by decide +kernel) ⟨Nat.le_of_ble_eq_true rfl, Nat.le_of_ble_eq_true rfl⟩), (hts _ qw354), trivial⟩ ⟨PRE.blind, PRE.of hE hS hFc hPc hKc hDc⟩ rfl rfl hl.1 rfl (lv_room (Nat.le_of_ble_eq_true rfl)) dX3_operate_18 ⟨Nat.le_of_ble_eq_true rfl, Nat.le_of_ble_eq_true rfl⟩) hS (fun q _ h => hFc q h) hFc (fun r2 u t H locs ht hvm hw hB hz1 hk1 hS => ?_)
    obtain ⟨hP, hD, hK⟩ := JOIN (wr := [(h0, .inr (10, [.int w_outcome, .int w_result, .int w_steps, .ref w_memoryA, .ref w_programO, .ref w_flowsR, .ref w_allocatorO, .ref w_toldA, .int w_isRunning, .int w_calls, .ref w_functionA, .ref w_atA, .ref w_blockA, .ref w_blockAheadA, .ref w_argumentsA, .ref w_cellsA, .ref w_slotsA, .int w_slotRoom, .ref w_waitingA, .int w_count]))]) hP hD hK [] [0] [] rfl rfl (by decide) (by decide) rfl hk1 hFc ht hvm hB
    have hP : va_P (dC, dI) cls [(h0, .inr (10, [.int w_outcome, .int w_result, .int w_steps, .ref w_memoryA, .ref w_programO, .ref w_flowsR, .ref w_allocatorO, .ref w_toldA, .int w_isRunning, .int w_calls, .ref w_functionA, .ref w_atA, .ref w_blockA, .ref w_blockAheadA, .ref w_argumentsA, .ref w_cellsA, .ref w_slotsA, .int w_slotRoom, .ref w_waitingA, .int w_count]))] H := hP
    have hD : va_D A [(h0, .inr (10, [.int w_outcome, .int w_result, .int w_steps, .ref w_memoryA, .ref w_programO, .ref w_flowsR, .ref w_allocatorO, .ref w_toldA, .int w_isRunning, .int w_calls, .ref w_functionA, .ref w_atA, .ref w_blockA, .ref w_blockAheadA, .ref w_argumentsA, .ref w_cellsA, .ref w_slotsA, .int w_slotRoom, .ref w_waitingA, .int w_count]))] := hD
    have hK : va_K (dC, dI) cls [] s := hK
    refine W.widen (k := 0) (n := 0) (Nat.le_of_ble_eq_true rfl) (Nat.le_of_ble_eq_true rfl) ?_
    obtain rfl : r2 = (sX11_compute_r p0 p1 p2) := hw
    have e_sX3_operate_0_0 : sX3_operate_0_0 w_outcome p0 p2 = w_outcome := by unfold sX3_operate_0_0; rw [if_pos hc1]
    have e_sX3_operate_0_8 : sX3_operate_0_8 w_isRunning p0 p2 = w_isRunning := by unfold sX3_operate_0_8; rw [if_pos hc1]
    have e_sX3_operate_r : sX3_operate_r p0 p1 p2 = (sX11_compute_r p0 p1 p2) := by unfold sX3_operate_r; rw [if_pos hc1]
    have hP9 : va_P (dC, dI) cls [(h0, .inr (10, [.int (sX3_operate_0_0 w_outcome p0 p2), .int w_result, .int w_steps, .ref w_memoryA, .ref w_programO, .ref w_flowsR, .ref w_allocatorO, .ref w_toldA, .int (sX3_operate_0_8 w_isRunning p0 p2), .int w_calls, .ref w_functionA, .ref w_atA, .ref w_blockA, .ref w_blockAheadA, .ref w_argumentsA, .ref w_cellsA, .ref w_slotsA, .int w_slotRoom, .ref w_waitingA, .int w_count]))] H := by rw [e_sX3_operate_0_0, e_sX3_operate_0_8]; exact hP.sub [0] rfl
    have hD9 : va_D A [(h0, .inr (10, [.int (sX3_operate_0_0 w_outcome p0 p2), .int w_result, .int w_steps, .ref w_memoryA, .ref w_programO, .ref w_flowsR, .ref w_allocatorO, .ref w_toldA, .int (sX3_operate_0_8 w_isRunning p0 p2), .int w_calls, .ref w_functionA, .ref w_atA, .ref w_blockA, .ref w_blockAheadA, .ref w_argumentsA, .ref w_cellsA, .ref w_slotsA, .int w_slotRoom, .ref w_waitingA, .int w_count]))] := by rw [e_sX3_operate_0_0, e_sX3_operate_0_8]; exact hD.sub [0] (by decide) rfl
    have hK9 : va_K (dC, dI) cls [] s := hK.sub [] rfl
    refine W.widen (k := 0) (n := 0) (Nat.le_of_ble_eq_true rfl) (Nat.le_of_ble_eq_true rfl) ?_
    exact W.iret (v := (sX11_compute_r p0 p1 p2)) hx hb hr (fun t ht hW => ⟨⟨(sX11_compute_r p0 p1 p2), (), rfl, e_sX3_operate_r.symm, ⟨by rw [ht]; exact hP9, va_K.moved hW.alike hK9, hD9⟩⟩, hS.F ht⟩) hS.2.2 dX3_operate_21
  · refine lv_if_eq (tgt := 15) hx hb dX3_operate_5 (by decide) (fun c => absurd c hc1) (fun _ => ?_)
    refine lv_aload_n hx hb dX3_operate_8 rfl (lv_at hl 0 rfl) ?_
    refine lv_iconst (v := 1) hx hb dX3_operate_9 (by decide) ?_
    have hPc := hP.sub (ws' := [(h0, .inr (10, [.int w_outcome, .int w_result, .int w_steps, .ref w_memoryA, .ref w_programO, .ref w_flowsR, .ref w_allocatorO, .ref w_toldA, .int w_isRunning, .int w_calls, .ref w_functionA, .ref w_atA, .ref w_blockA, .ref w_blockAheadA, .ref w_argumentsA, .ref w_cellsA, .ref w_slotsA, .int w_slotRoom, .ref w_waitingA, .int w_count]))]) [0] rfl
    have hDc := hD.sub (ws' := [(h0, .inr (10, [.int w_outcome, .int w_result, .int w_steps, .ref w_memoryA, .ref w_programO, .ref w_flowsR, .ref w_allocatorO, .ref w_toldA, .int w_isRunning, .int w_calls, .ref w_functionA, .ref w_atA, .ref w_blockA, .ref w_blockAheadA, .ref w_argumentsA, .ref w_cellsA, .ref w_slotsA, .int w_slotRoom, .ref w_waitingA, .int w_count]))]) [0] (by decide) rfl
    have hKc := hK.sub (tys' := []) [] rfl
    have hFc := va_free (wc := [(h0, .inr (10, [.int w_outcome, .int w_result, .int w_steps, .ref w_memoryA, .ref w_programO, .ref w_flowsR, .ref w_allocatorO, .ref w_toldA, .int w_isRunning, .int w_calls, .ref w_functionA, .ref w_atA, .ref w_blockA, .ref w_blockAheadA, .ref w_argumentsA, .ref w_cellsA, .ref w_slotsA, .int w_slotRoom, .ref w_waitingA, .int w_count]))]) hD hS hA [0] rfl
    refine va_callv (va_runV (As := [.int 1]) (rest := []) ⟨hx, hb, hml, hown, hts⟩ (kX3_stop_n195 l dC dI (a0 := h0) (i1 := w_outcome) (i2 := w_result) (i3 := w_steps) (a4 := w_memoryA) (a5 := w_programO) (a6 := w_flowsR) (a7 := w_allocatorO) (a8 := w_toldA) (i9 := w_isRunning) (i10 := w_calls) (a11 := w_functionA) (a12 := w_atA) (a13 := w_blockA) (a14 := w_blockAheadA) (a15 := w_argumentsA) (a16 := w_cellsA) (a17 := w_slotsA) (i18 := w_slotRoom) (a19 := w_waitingA) (i20 := w_count) (sz := _)) (cwV 1 hts (gi_V qw439 qw440 qw441 qw442 (gi_z qw438)) rfl rfl rfl (by decide +kernel) ⟨Nat.le_of_ble_eq_true rfl, Nat.le_of_ble_eq_true rfl⟩) ⟨PRE.blind, va_recv hKc hPc (ci := 10) (q0 := 0) rfl rfl, PRE.of hE hS hFc hPc hKc hDc⟩ rfl rfl hl.1 rfl (lv_room (Nat.le_of_ble_eq_true rfl)) dX3_operate_10 ⟨Nat.le_of_ble_eq_true rfl, Nat.le_of_ble_eq_true rfl⟩) hS (fun q _ h => hFc q h) hFc (fun u t H locs ht hvm hw hB hz1 hk1 hS => ?_)
    obtain ⟨hP, hD, hK⟩ := JOIN (wr := []) hP hD hK [0] [] [] rfl rfl (by decide) (by decide) rfl hk1 hFc ht hvm hB
    have hP : va_P (dC, dI) cls [(h0, .inr (10, [.int 1, .int w_result, .int w_steps, .ref w_memoryA, .ref w_programO, .ref w_flowsR, .ref w_allocatorO, .ref w_toldA, .int 0, .int w_calls, .ref w_functionA, .ref w_atA, .ref w_blockA, .ref w_blockAheadA, .ref w_argumentsA, .ref w_cellsA, .ref w_slotsA, .int w_slotRoom, .ref w_waitingA, .int w_count]))] H := hP
    have hD : va_D A [(h0, .inr (10, [.int 1, .int w_result, .int w_steps, .ref w_memoryA, .ref w_programO, .ref w_flowsR, .ref w_allocatorO, .ref w_toldA, .int 0, .int w_calls, .ref w_functionA, .ref w_atA, .ref w_blockA, .ref w_blockAheadA, .ref w_argumentsA, .ref w_cellsA, .ref w_slotsA, .int w_slotRoom, .ref w_waitingA, .int w_count]))] := hD
    have hK : va_K (dC, dI) cls [] s := hK
    refine W.widen (k := 0) (n := 0) (Nat.le_of_ble_eq_true rfl) (Nat.le_of_ble_eq_true rfl) ?_
    refine lv_iconst (v := 0) hx hb dX3_operate_13 (by decide) ?_
    have e_sX3_operate_0_0 : sX3_operate_0_0 w_outcome p0 p2 = 1 := by unfold sX3_operate_0_0; rw [if_neg hc1]
    have e_sX3_operate_0_8 : sX3_operate_0_8 w_isRunning p0 p2 = 0 := by unfold sX3_operate_0_8; rw [if_neg hc1]
    have e_sX3_operate_r : sX3_operate_r p0 p1 p2 = 0 := by unfold sX3_operate_r; rw [if_neg hc1]
    have hP9 : va_P (dC, dI) cls [(h0, .inr (10, [.int (sX3_operate_0_0 w_outcome p0 p2), .int w_result, .int w_steps, .ref w_memoryA, .ref w_programO, .ref w_flowsR, .ref w_allocatorO, .ref w_toldA, .int (sX3_operate_0_8 w_isRunning p0 p2), .int w_calls, .ref w_functionA, .ref w_atA, .ref w_blockA, .ref w_blockAheadA, .ref w_argumentsA, .ref w_cellsA, .ref w_slotsA, .int w_slotRoom, .ref w_waitingA, .int w_count]))] H := by rw [e_sX3_operate_0_0, e_sX3_operate_0_8]; exact hP.sub [0] rfl
    have hD9 : va_D A [(h0, .inr (10, [.int (sX3_operate_0_0 w_outcome p0 p2), .int w_result, .int w_steps, .ref w_memoryA, .ref w_programO, .ref w_flowsR, .ref w_allocatorO, .ref w_toldA, .int (sX3_operate_0_8 w_isRunning p0 p2), .int w_calls, .ref w_functionA, .ref w_atA, .ref w_blockA, .ref w_blockAheadA, .ref w_argumentsA, .ref w_cellsA, .ref w_slotsA, .int w_slotRoom, .ref w_waitingA, .int w_count]))] := by rw [e_sX3_operate_0_0, e_sX3_operate_0_8]; exact hD.sub [0] (by decide) rfl
    have hK9 : va_K (dC, dI) cls [] s := hK.sub [] rfl
    refine W.widen (k := 0) (n := 0) (Nat.le_of_ble_eq_true rfl) (Nat.le_of_ble_eq_true rfl) ?_
    exact W.iret (v := 0) hx hb hr (fun t ht hW => ⟨⟨0, (), rfl, e_sX3_operate_r.symm, ⟨by rw [ht]; exact hP9, va_K.moved hW.alike hK9, hD9⟩⟩, hS.F ht⟩) hS.2.2 dX3_operate_14
def sX3_pop_0_19 (w_count : Int32) : Int32 := (if w_count = 0 then w_count else (w_count - 1))
def sX3_pop_r (w_waitingF : Nat → Int32) (w_count : Int32) : Int32 := (if w_count = 0 then 0 else (w_waitingF (Int32.toNatClampNeg (w_count - 1))))
set_option maxHeartbeats 4000000 in
set_option maxRecDepth 100000 in
theorem kX3_pop {zs : Nat × Nat} (l : Launch) (dC : Nat → ClassId) (dI : Nat → Nat → Nat) (h0 : Nat) (w_outcome : Int32) (w_result : Int32) (w_steps : Int32) (w_memoryA : Nat) (w_flowsR : Nat) (w_toldA : Nat) (w_isRunning : Int32) (w_calls : Int32) (w_functionA : Nat) (w_atA : Nat) (w_blockA : Nat) (w_blockAheadA : Nat) (w_argumentsA : Nat) (w_cellsA : Nat) (w_slotsA : Nat) (w_slotRoom : Int32) (w_waitingA : Nat) (w_waitingC : ClassId) (w_waitingF : Nat → Int32) (w_count : Int32) (w_programO : Nat) (w_allocatorO : Nat) (sz : Nat) (hq1 : ¬ (w_count = 0) → vp_in (w_count - 1) 512) : Met l yX3_pop (wz yX3_pop cX3_pop 1 (Option.some Jvm.ClassFile.FieldType.int)) ({ frames := 0, cells := 0, slots := 0, locals := 0 }) (va_Pc [.ref h0] (PRE zs dC dI [(h0, .inr (10, [.int w_outcome, .int w_result, .int w_steps, .ref w_memoryA, .ref w_programO, .ref w_flowsR, .ref w_allocatorO, .ref w_toldA, .int w_isRunning, .int w_calls, .ref w_functionA, .ref w_atA, .ref w_blockA, .ref w_blockAheadA, .ref w_argumentsA, .ref w_cellsA, .ref w_slotsA, .int w_slotRoom, .ref w_waitingA, .int w_count])), (w_waitingA, .inl (w_waitingC, 512, .inl w_waitingF))] [(w_waitingC, .int)] sz)) (va_Qi (fun (r : Int32) (_ : Unit) => r = (sX3_pop_r w_waitingF w_count)) (fun _ t => POST dC dI [(h0, .inr (10, [.int w_outcome, .int w_result, .int w_steps, .ref w_memoryA, .ref w_programO, .ref w_flowsR, .ref w_allocatorO, .ref w_toldA, .int w_isRunning, .int w_calls, .ref w_functionA, .ref w_atA, .ref w_blockA, .ref w_blockAheadA, .ref w_argumentsA, .ref w_cellsA, .ref w_slotsA, .int w_slotRoom, .ref w_waitingA, .int (sX3_pop_0_19 w_count)])), (w_waitingA, .inl (w_waitingC, 512, .inl w_waitingF))] [(w_waitingC, .int)] (va_A [(h0, .inr (10, [.int w_outcome, .int w_result, .int w_steps, .ref w_memoryA, .ref w_programO, .ref w_flowsR, .ref w_allocatorO, .ref w_toldA, .int w_isRunning, .int w_calls, .ref w_functionA, .ref w_atA, .ref w_blockA, .ref w_blockAheadA, .ref w_argumentsA, .ref w_cellsA, .ref w_slotsA, .int w_slotRoom, .ref w_waitingA, .int w_count])), (w_waitingA, .inl (w_waitingC, 512, .inl w_waitingF))] sz) t) (va_A [(h0, .inr (10, [.int w_outcome, .int w_result, .int w_steps, .ref w_memoryA, .ref w_programO, .ref w_flowsR, .ref w_allocatorO, .ref w_toldA, .int w_isRunning, .int w_calls, .ref w_functionA, .ref w_atA, .ref w_blockA, .ref w_blockAheadA, .ref w_argumentsA, .ref w_cellsA, .ref w_slotsA, .int w_slotRoom, .ref w_waitingA, .int w_count])), (w_waitingA, .inl (w_waitingC, 512, .inl w_waitingF))] sz)) 0 0 (va_A [(h0, .inr (10, [.int w_outcome, .int w_result, .int w_steps, .ref w_memoryA, .ref w_programO, .ref w_flowsR, .ref w_allocatorO, .ref w_toldA, .int w_isRunning, .int w_calls, .ref w_functionA, .ref w_atA, .ref w_blockA, .ref w_blockAheadA, .ref w_argumentsA, .ref w_cellsA, .ref w_slotsA, .int w_slotRoom, .ref w_waitingA, .int w_count])), (w_waitingA, .inl (w_waitingC, 512, .inl w_waitingF))] sz) := by
  refine Met.ofW (cc := cX3_pop) (maxL := 1) (ret := (Option.some Jvm.ClassFile.FieldType.int)) (by decide) rfl ?_
  intro p e s m args below meth c s₁ B hml hv
  obtain ⟨rfl, hsz, hP, hK, hD0, hE⟩ := hv
  have hx := B.exec
  have hb := B.bytes
  have hr := B.returns
  have hts0 := atoms_spec (ws := wz yX3_pop cX3_pop 1 (Option.some Jvm.ClassFile.FieldType.int)) B.pre
  have hts : ∀ w ∈ gw, w.before _ s = true := fun w h => hts0 w (List.mem_cons_of_mem _ h)
  have hown : s.vm.findClass RX3 = some m.cls := findClass_of_methodNamed B.named
  have hlocks := B.notSynchronized
  subst hsz
  have hD := hD0.self (sz := s.heap.size)
  generalize hAe : va_A [(h0, .inr (10, [.int w_outcome, .int w_result, .int w_steps, .ref w_memoryA, .ref w_programO, .ref w_flowsR, .ref w_allocatorO, .ref w_toldA, .int w_isRunning, .int w_calls, .ref w_functionA, .ref w_atA, .ref w_blockA, .ref w_blockAheadA, .ref w_argumentsA, .ref w_cellsA, .ref w_slotsA, .int w_slotRoom, .ref w_waitingA, .int w_count])), (w_waitingA, .inl (w_waitingC, 512, .inl w_waitingF))] s.heap.size = A at hD hE ⊢
  have hA : ∀ q : Nat, s.heap.size ≤ q → A q := fun q h => by rw [← hAe]; exact Or.inr h
  have hS : va_S A s.heap s.heap [] := va_S.rf
  have hP : va_P (dC, dI) cls [(h0, .inr (10, [.int w_outcome, .int w_result, .int w_steps, .ref w_memoryA, .ref w_programO, .ref w_flowsR, .ref w_allocatorO, .ref w_toldA, .int w_isRunning, .int w_calls, .ref w_functionA, .ref w_atA, .ref w_blockA, .ref w_blockAheadA, .ref w_argumentsA, .ref w_cellsA, .ref w_slotsA, .int w_slotRoom, .ref w_waitingA, .int w_count])), (w_waitingA, .inl (w_waitingC, 512, .inl w_waitingF))] s.heap := hP
  have hl := lv_entry ([.ref h0]) (n := 1) (Nat.le_of_ble_eq_true rfl)
  rw [lg_entry_eq]
  generalize (lg_sl ([.ref h0]) ++ List.replicate (1 - (lg_sl ([.ref h0])).length) Slot.unset).toArray = ls at hl ⊢
  have hl : lv_has ls 1 [(0, .ref h0)] := hl
  refine lv_aload_n hx hb dX3_pop_0 rfl (lv_at hl 0 rfl) ?_
  refine va_get (D := (dC, dI)) (ci := 10) (v := .int w_count) (C := RX3) (T := TX3) (N := 20) hx hb hts i_X3 hown hK hP 0 rfl rfl 19 (by decide) (hts _ qw478) (fun _ h9 => h9) rfl dX3_pop_1 ?_
  by_cases hc1 : w_count = 0
  · refine lv_if_ne (tgt := 9) hx hb dX3_pop_4 (by decide) (fun c => absurd hc1 c) (fun _ => ?_)
    refine lv_iconst (v := 0) hx hb dX3_pop_7 (by decide) ?_
    have e_sX3_pop_0_19 : sX3_pop_0_19 w_count = w_count := by unfold sX3_pop_0_19; rw [if_pos hc1]
    have e_sX3_pop_r : sX3_pop_r w_waitingF w_count = 0 := by unfold sX3_pop_r; rw [if_pos hc1]
    have hP9 : va_P (dC, dI) cls [(h0, .inr (10, [.int w_outcome, .int w_result, .int w_steps, .ref w_memoryA, .ref w_programO, .ref w_flowsR, .ref w_allocatorO, .ref w_toldA, .int w_isRunning, .int w_calls, .ref w_functionA, .ref w_atA, .ref w_blockA, .ref w_blockAheadA, .ref w_argumentsA, .ref w_cellsA, .ref w_slotsA, .int w_slotRoom, .ref w_waitingA, .int (sX3_pop_0_19 w_count)])), (w_waitingA, .inl (w_waitingC, 512, .inl w_waitingF))] s.heap := by rw [e_sX3_pop_0_19]; exact hP.sub [0, 1] rfl
    have hD9 : va_D A [(h0, .inr (10, [.int w_outcome, .int w_result, .int w_steps, .ref w_memoryA, .ref w_programO, .ref w_flowsR, .ref w_allocatorO, .ref w_toldA, .int w_isRunning, .int w_calls, .ref w_functionA, .ref w_atA, .ref w_blockA, .ref w_blockAheadA, .ref w_argumentsA, .ref w_cellsA, .ref w_slotsA, .int w_slotRoom, .ref w_waitingA, .int (sX3_pop_0_19 w_count)])), (w_waitingA, .inl (w_waitingC, 512, .inl w_waitingF))] := by rw [e_sX3_pop_0_19]; exact hD.sub [0, 1] (by decide) rfl
    have hK9 : va_K (dC, dI) cls [(w_waitingC, .int)] s := hK.sub [0] rfl
    refine W.widen (k := 0) (n := 0) (Nat.le_of_ble_eq_true rfl) (Nat.le_of_ble_eq_true rfl) ?_
    exact W.iret (v := 0) hx hb hr (fun t ht hW => ⟨⟨0, (), rfl, e_sX3_pop_r.symm, ⟨by rw [ht]; exact hP9, va_K.moved hW.alike hK9, hD9⟩⟩, hS.F ht⟩) hS.2.2 dX3_pop_8
  · refine lv_if_ne (tgt := 9) hx hb dX3_pop_4 (by decide) (fun _ => ?_) (fun c => absurd c hc1)
    refine lv_aload_n hx hb dX3_pop_9 rfl (lv_at hl 0 rfl) ?_
    refine lv_dup hx hb dX3_pop_10 rfl ?_
    refine va_get (D := (dC, dI)) (ci := 10) (v := .int w_count) (C := RX3) (T := TX3) (N := 20) hx hb hts i_X3 hown hK hP 0 rfl rfl 19 (by decide) (hts _ qw478) (fun _ h9 => h9) rfl dX3_pop_11 ?_
    refine lv_iconst (v := 1) hx hb dX3_pop_14 (by decide) ?_
    refine lv_isub hx hb dX3_pop_15 ?_
    refine va_put (D := (dC, dI)) (ci := 10) (v := .int (w_count - 1)) (ty := .int) (C := RX3) (T := TX3) (N := 20) hx hb hts i_X3 tyX3 tyX3_ok nmX3 hown hK hP hD hS 0 rfl rfl 19 (by decide) (hts _ qw478) (fun _ h9 => h9) rfl (by decide +kernel) rfl rfl (Nat.le_of_ble_eq_true rfl) dX3_pop_16 (fun H locs hP hD hS => ?_)
    have hP : va_P (dC, dI) cls [(h0, .inr (10, [.int w_outcome, .int w_result, .int w_steps, .ref w_memoryA, .ref w_programO, .ref w_flowsR, .ref w_allocatorO, .ref w_toldA, .int w_isRunning, .int w_calls, .ref w_functionA, .ref w_atA, .ref w_blockA, .ref w_blockAheadA, .ref w_argumentsA, .ref w_cellsA, .ref w_slotsA, .int w_slotRoom, .ref w_waitingA, .int (w_count - 1)])), (w_waitingA, .inl (w_waitingC, 512, .inl w_waitingF))] H := hP
    have hD : va_D A [(h0, .inr (10, [.int w_outcome, .int w_result, .int w_steps, .ref w_memoryA, .ref w_programO, .ref w_flowsR, .ref w_allocatorO, .ref w_toldA, .int w_isRunning, .int w_calls, .ref w_functionA, .ref w_atA, .ref w_blockA, .ref w_blockAheadA, .ref w_argumentsA, .ref w_cellsA, .ref w_slotsA, .int w_slotRoom, .ref w_waitingA, .int (w_count - 1)])), (w_waitingA, .inl (w_waitingC, 512, .inl w_waitingF))] := hD
    refine lv_aload_n hx hb dX3_pop_19 rfl (lv_at hl 0 rfl) ?_
    refine va_get (D := (dC, dI)) (ci := 10) (v := .ref w_waitingA) (C := RX3) (T := TX3) (N := 20) hx hb hts i_X3 hown hK hP 0 rfl rfl 18 (by decide) (hts _ qw463) (fun _ h9 => h9) rfl dX3_pop_20 ?_
    refine lv_aload_n hx hb dX3_pop_23 rfl (lv_at hl 0 rfl) ?_
    refine va_get (D := (dC, dI)) (ci := 10) (v := .int (w_count - 1)) (C := RX3) (T := TX3) (N := 20) hx hb hts i_X3 hown hK hP 0 rfl rfl 19 (by decide) (hts _ qw478) (fun _ h9 => h9) rfl dX3_pop_24 ?_
    refine va_iald hx hb hK hP 1 0 rfl rfl (hq1 hc1) dX3_pop_27 ?_
    have e_sX3_pop_0_19 : sX3_pop_0_19 w_count = (w_count - 1) := by unfold sX3_pop_0_19; rw [if_neg hc1]
    have e_sX3_pop_r : sX3_pop_r w_waitingF w_count = (w_waitingF (Int32.toNatClampNeg (w_count - 1))) := by unfold sX3_pop_r; rw [if_neg hc1]
    have hP9 : va_P (dC, dI) cls [(h0, .inr (10, [.int w_outcome, .int w_result, .int w_steps, .ref w_memoryA, .ref w_programO, .ref w_flowsR, .ref w_allocatorO, .ref w_toldA, .int w_isRunning, .int w_calls, .ref w_functionA, .ref w_atA, .ref w_blockA, .ref w_blockAheadA, .ref w_argumentsA, .ref w_cellsA, .ref w_slotsA, .int w_slotRoom, .ref w_waitingA, .int (sX3_pop_0_19 w_count)])), (w_waitingA, .inl (w_waitingC, 512, .inl w_waitingF))] H := by rw [e_sX3_pop_0_19]; exact hP.sub [0, 1] rfl
    have hD9 : va_D A [(h0, .inr (10, [.int w_outcome, .int w_result, .int w_steps, .ref w_memoryA, .ref w_programO, .ref w_flowsR, .ref w_allocatorO, .ref w_toldA, .int w_isRunning, .int w_calls, .ref w_functionA, .ref w_atA, .ref w_blockA, .ref w_blockAheadA, .ref w_argumentsA, .ref w_cellsA, .ref w_slotsA, .int w_slotRoom, .ref w_waitingA, .int (sX3_pop_0_19 w_count)])), (w_waitingA, .inl (w_waitingC, 512, .inl w_waitingF))] := by rw [e_sX3_pop_0_19]; exact hD.sub [0, 1] (by decide) rfl
    have hK9 : va_K (dC, dI) cls [(w_waitingC, .int)] s := hK.sub [0] rfl
    refine W.widen (k := 0) (n := 0) (Nat.le_of_ble_eq_true rfl) (Nat.le_of_ble_eq_true rfl) ?_
    exact W.iret (v := (w_waitingF (Int32.toNatClampNeg (w_count - 1)))) hx hb hr (fun t ht hW => ⟨⟨(w_waitingF (Int32.toNatClampNeg (w_count - 1))), (), rfl, e_sX3_pop_r.symm, ⟨by rw [ht]; exact hP9, va_K.moved hW.alike hK9, hD9⟩⟩, hS.F ht⟩) hS.2.2 dX3_pop_28
def sX3_push_0_19 (w_count : Int32) : Int32 := (if 512 ≤ w_count then w_count else (w_count + 1))
def sX3_push_1 (w_waitingF : Nat → Int32) (w_count : Int32) (p0 : Int32) : Nat → Int32 := (if 512 ≤ w_count then w_waitingF else (upd w_waitingF (Int32.toNatClampNeg w_count) p0))
set_option maxHeartbeats 4000000 in
set_option maxRecDepth 100000 in
theorem kX3_push {zs : Nat × Nat} (l : Launch) (dC : Nat → ClassId) (dI : Nat → Nat → Nat) (h0 : Nat) (w_outcome : Int32) (w_result : Int32) (w_steps : Int32) (w_memoryA : Nat) (w_flowsR : Nat) (w_toldA : Nat) (w_isRunning : Int32) (w_calls : Int32) (w_functionA : Nat) (w_atA : Nat) (w_blockA : Nat) (w_blockAheadA : Nat) (w_argumentsA : Nat) (w_cellsA : Nat) (w_slotsA : Nat) (w_slotRoom : Int32) (w_waitingA : Nat) (w_waitingC : ClassId) (w_waitingF : Nat → Int32) (w_count : Int32) (w_programO : Nat) (w_allocatorO : Nat) (p0 : Int32) (sz : Nat) (hq1 : ¬ (512 ≤ w_count) → vp_in w_count 512) : Met l yX3_push (wz yX3_push cX3_push 2 (Option.none : Option Jvm.ClassFile.FieldType)) ({ frames := 0, cells := 0, slots := 0, locals := 0 }) (va_Pc [.ref h0, .int p0] (PRE zs dC dI [(h0, .inr (10, [.int w_outcome, .int w_result, .int w_steps, .ref w_memoryA, .ref w_programO, .ref w_flowsR, .ref w_allocatorO, .ref w_toldA, .int w_isRunning, .int w_calls, .ref w_functionA, .ref w_atA, .ref w_blockA, .ref w_blockAheadA, .ref w_argumentsA, .ref w_cellsA, .ref w_slotsA, .int w_slotRoom, .ref w_waitingA, .int w_count])), (w_waitingA, .inl (w_waitingC, 512, .inl w_waitingF))] [(w_waitingC, .int)] sz)) (va_Qv (fun (_ : Unit) => True) (fun _ t => POST dC dI [(h0, .inr (10, [.int w_outcome, .int w_result, .int w_steps, .ref w_memoryA, .ref w_programO, .ref w_flowsR, .ref w_allocatorO, .ref w_toldA, .int w_isRunning, .int w_calls, .ref w_functionA, .ref w_atA, .ref w_blockA, .ref w_blockAheadA, .ref w_argumentsA, .ref w_cellsA, .ref w_slotsA, .int w_slotRoom, .ref w_waitingA, .int (sX3_push_0_19 w_count)])), (w_waitingA, .inl (w_waitingC, 512, .inl (sX3_push_1 w_waitingF w_count p0)))] [(w_waitingC, .int)] (va_A [(h0, .inr (10, [.int w_outcome, .int w_result, .int w_steps, .ref w_memoryA, .ref w_programO, .ref w_flowsR, .ref w_allocatorO, .ref w_toldA, .int w_isRunning, .int w_calls, .ref w_functionA, .ref w_atA, .ref w_blockA, .ref w_blockAheadA, .ref w_argumentsA, .ref w_cellsA, .ref w_slotsA, .int w_slotRoom, .ref w_waitingA, .int w_count])), (w_waitingA, .inl (w_waitingC, 512, .inl w_waitingF))] sz) t) (va_A [(h0, .inr (10, [.int w_outcome, .int w_result, .int w_steps, .ref w_memoryA, .ref w_programO, .ref w_flowsR, .ref w_allocatorO, .ref w_toldA, .int w_isRunning, .int w_calls, .ref w_functionA, .ref w_atA, .ref w_blockA, .ref w_blockAheadA, .ref w_argumentsA, .ref w_cellsA, .ref w_slotsA, .int w_slotRoom, .ref w_waitingA, .int w_count])), (w_waitingA, .inl (w_waitingC, 512, .inl w_waitingF))] sz)) 0 0 (va_A [(h0, .inr (10, [.int w_outcome, .int w_result, .int w_steps, .ref w_memoryA, .ref w_programO, .ref w_flowsR, .ref w_allocatorO, .ref w_toldA, .int w_isRunning, .int w_calls, .ref w_functionA, .ref w_atA, .ref w_blockA, .ref w_blockAheadA, .ref w_argumentsA, .ref w_cellsA, .ref w_slotsA, .int w_slotRoom, .ref w_waitingA, .int w_count])), (w_waitingA, .inl (w_waitingC, 512, .inl w_waitingF))] sz) := by
  refine Met.ofW (cc := cX3_push) (maxL := 2) (ret := (Option.none : Option Jvm.ClassFile.FieldType)) (by decide) rfl ?_
  intro p e s m args below meth c s₁ B hml hv
  obtain ⟨rfl, hsz, hP, hK, hD0, hE⟩ := hv
  have hx := B.exec
  have hb := B.bytes
  have hr := B.returns
  have hts0 := atoms_spec (ws := wz yX3_push cX3_push 2 (Option.none : Option Jvm.ClassFile.FieldType)) B.pre
  have hts : ∀ w ∈ gw, w.before _ s = true := fun w h => hts0 w (List.mem_cons_of_mem _ h)
  have hown : s.vm.findClass RX3 = some m.cls := findClass_of_methodNamed B.named
  have hlocks := B.notSynchronized
  subst hsz
  have hD := hD0.self (sz := s.heap.size)
  generalize hAe : va_A [(h0, .inr (10, [.int w_outcome, .int w_result, .int w_steps, .ref w_memoryA, .ref w_programO, .ref w_flowsR, .ref w_allocatorO, .ref w_toldA, .int w_isRunning, .int w_calls, .ref w_functionA, .ref w_atA, .ref w_blockA, .ref w_blockAheadA, .ref w_argumentsA, .ref w_cellsA, .ref w_slotsA, .int w_slotRoom, .ref w_waitingA, .int w_count])), (w_waitingA, .inl (w_waitingC, 512, .inl w_waitingF))] s.heap.size = A at hD hE ⊢
  have hA : ∀ q : Nat, s.heap.size ≤ q → A q := fun q h => by rw [← hAe]; exact Or.inr h
  have hS : va_S A s.heap s.heap [] := va_S.rf
  have hP : va_P (dC, dI) cls [(h0, .inr (10, [.int w_outcome, .int w_result, .int w_steps, .ref w_memoryA, .ref w_programO, .ref w_flowsR, .ref w_allocatorO, .ref w_toldA, .int w_isRunning, .int w_calls, .ref w_functionA, .ref w_atA, .ref w_blockA, .ref w_blockAheadA, .ref w_argumentsA, .ref w_cellsA, .ref w_slotsA, .int w_slotRoom, .ref w_waitingA, .int w_count])), (w_waitingA, .inl (w_waitingC, 512, .inl w_waitingF))] s.heap := hP
  have hl := lv_entry ([.ref h0, .int p0]) (n := 2) (Nat.le_of_ble_eq_true rfl)
  rw [lg_entry_eq]
  generalize (lg_sl ([.ref h0, .int p0]) ++ List.replicate (2 - (lg_sl ([.ref h0, .int p0])).length) Slot.unset).toArray = ls at hl ⊢
  have hl : lv_has ls 2 [(0, .ref h0), (1, .int p0)] := hl
  refine lv_aload_n hx hb dX3_push_0 rfl (lv_at hl 0 rfl) ?_
  refine va_get (D := (dC, dI)) (ci := 10) (v := .int w_count) (C := RX3) (T := TX3) (N := 20) hx hb hts i_X3 hown hK hP 0 rfl rfl 19 (by decide) (hts _ qw478) (fun _ h9 => h9) rfl dX3_push_1 ?_
  refine lv_sipush (v := 512) hx hb dX3_push_4 (by decide) ?_
  by_cases hc1 : 512 ≤ w_count
  · refine lv_icmp_ge (tgt := 30) hx hb dX3_push_7 (by decide) (fun _ => ?_) (fun c => absurd hc1 c)
    have e_sX3_push_0_19 : sX3_push_0_19 w_count = w_count := by unfold sX3_push_0_19; rw [if_pos hc1]
    have e_sX3_push_1 : sX3_push_1 w_waitingF w_count p0 = w_waitingF := by unfold sX3_push_1; rw [if_pos hc1]
    have hP9 : va_P (dC, dI) cls [(h0, .inr (10, [.int w_outcome, .int w_result, .int w_steps, .ref w_memoryA, .ref w_programO, .ref w_flowsR, .ref w_allocatorO, .ref w_toldA, .int w_isRunning, .int w_calls, .ref w_functionA, .ref w_atA, .ref w_blockA, .ref w_blockAheadA, .ref w_argumentsA, .ref w_cellsA, .ref w_slotsA, .int w_slotRoom, .ref w_waitingA, .int (sX3_push_0_19 w_count)])), (w_waitingA, .inl (w_waitingC, 512, .inl (sX3_push_1 w_waitingF w_count p0)))] s.heap := by rw [e_sX3_push_0_19, e_sX3_push_1]; exact hP.sub [0, 1] rfl
    have hD9 : va_D A [(h0, .inr (10, [.int w_outcome, .int w_result, .int w_steps, .ref w_memoryA, .ref w_programO, .ref w_flowsR, .ref w_allocatorO, .ref w_toldA, .int w_isRunning, .int w_calls, .ref w_functionA, .ref w_atA, .ref w_blockA, .ref w_blockAheadA, .ref w_argumentsA, .ref w_cellsA, .ref w_slotsA, .int w_slotRoom, .ref w_waitingA, .int (sX3_push_0_19 w_count)])), (w_waitingA, .inl (w_waitingC, 512, .inl (sX3_push_1 w_waitingF w_count p0)))] := by rw [e_sX3_push_0_19, e_sX3_push_1]; exact hD.sub [0, 1] (by decide) rfl
    have hK9 : va_K (dC, dI) cls [(w_waitingC, .int)] s := hK.sub [0] rfl
    refine W.widen (k := 0) (n := 0) (Nat.le_of_ble_eq_true rfl) (Nat.le_of_ble_eq_true rfl) ?_
    exact W.vret hx hb hr (fun t ht hW => ⟨⟨(), rfl, trivial, ⟨by rw [ht]; exact hP9, va_K.moved hW.alike hK9, hD9⟩⟩, hS.F ht⟩) hS.2.2 dX3_push_30
  · refine lv_icmp_ge (tgt := 30) hx hb dX3_push_7 (by decide) (fun c => absurd c hc1) (fun _ => ?_)
    refine lv_aload_n hx hb dX3_push_10 rfl (lv_at hl 0 rfl) ?_
    refine va_get (D := (dC, dI)) (ci := 10) (v := .ref w_waitingA) (C := RX3) (T := TX3) (N := 20) hx hb hts i_X3 hown hK hP 0 rfl rfl 18 (by decide) (hts _ qw463) (fun _ h9 => h9) rfl dX3_push_11 ?_
    refine lv_aload_n hx hb dX3_push_14 rfl (lv_at hl 0 rfl) ?_
    refine va_get (D := (dC, dI)) (ci := 10) (v := .int w_count) (C := RX3) (T := TX3) (N := 20) hx hb hts i_X3 hown hK hP 0 rfl rfl 19 (by decide) (hts _ qw478) (fun _ h9 => h9) rfl dX3_push_15 ?_
    refine lv_iload_n hx hb dX3_push_18 rfl (lv_at hl 1 rfl) ?_
    refine va_iast hx hb hK hP hD hS 1 0 rfl rfl (hq1 hc1) dX3_push_19 (fun H locs hP hD hS => ?_)
    have hP : va_P (dC, dI) cls [(h0, .inr (10, [.int w_outcome, .int w_result, .int w_steps, .ref w_memoryA, .ref w_programO, .ref w_flowsR, .ref w_allocatorO, .ref w_toldA, .int w_isRunning, .int w_calls, .ref w_functionA, .ref w_atA, .ref w_blockA, .ref w_blockAheadA, .ref w_argumentsA, .ref w_cellsA, .ref w_slotsA, .int w_slotRoom, .ref w_waitingA, .int w_count])), (w_waitingA, .inl (w_waitingC, 512, .inl (upd w_waitingF (Int32.toNatClampNeg w_count) p0)))] H := hP
    have hD : va_D A [(h0, .inr (10, [.int w_outcome, .int w_result, .int w_steps, .ref w_memoryA, .ref w_programO, .ref w_flowsR, .ref w_allocatorO, .ref w_toldA, .int w_isRunning, .int w_calls, .ref w_functionA, .ref w_atA, .ref w_blockA, .ref w_blockAheadA, .ref w_argumentsA, .ref w_cellsA, .ref w_slotsA, .int w_slotRoom, .ref w_waitingA, .int w_count])), (w_waitingA, .inl (w_waitingC, 512, .inl (upd w_waitingF (Int32.toNatClampNeg w_count) p0)))] := hD
    refine lv_aload_n hx hb dX3_push_20 rfl (lv_at hl 0 rfl) ?_
    refine lv_dup hx hb dX3_push_21 rfl ?_
    refine va_get (D := (dC, dI)) (ci := 10) (v := .int w_count) (C := RX3) (T := TX3) (N := 20) hx hb hts i_X3 hown hK hP 0 rfl rfl 19 (by decide) (hts _ qw478) (fun _ h9 => h9) rfl dX3_push_22 ?_
    refine lv_iconst (v := 1) hx hb dX3_push_25 (by decide) ?_
    refine lv_iadd hx hb dX3_push_26 ?_
    refine va_put (D := (dC, dI)) (ci := 10) (v := .int (w_count + 1)) (ty := .int) (C := RX3) (T := TX3) (N := 20) hx hb hts i_X3 tyX3 tyX3_ok nmX3 hown hK hP hD hS 0 rfl rfl 19 (by decide) (hts _ qw478) (fun _ h9 => h9) rfl (by decide +kernel) rfl rfl (Nat.le_of_ble_eq_true rfl) dX3_push_27 (fun H locs hP hD hS => ?_)
    have hP : va_P (dC, dI) cls [(h0, .inr (10, [.int w_outcome, .int w_result, .int w_steps, .ref w_memoryA, .ref w_programO, .ref w_flowsR, .ref w_allocatorO, .ref w_toldA, .int w_isRunning, .int w_calls, .ref w_functionA, .ref w_atA, .ref w_blockA, .ref w_blockAheadA, .ref w_argumentsA, .ref w_cellsA, .ref w_slotsA, .int w_slotRoom, .ref w_waitingA, .int (w_count + 1)])), (w_waitingA, .inl (w_waitingC, 512, .inl (upd w_waitingF (Int32.toNatClampNeg w_count) p0)))] H := hP
    have hD : va_D A [(h0, .inr (10, [.int w_outcome, .int w_result, .int w_steps, .ref w_memoryA, .ref w_programO, .ref w_flowsR, .ref w_allocatorO, .ref w_toldA, .int w_isRunning, .int w_calls, .ref w_functionA, .ref w_atA, .ref w_blockA, .ref w_blockAheadA, .ref w_argumentsA, .ref w_cellsA, .ref w_slotsA, .int w_slotRoom, .ref w_waitingA, .int (w_count + 1)])), (w_waitingA, .inl (w_waitingC, 512, .inl (upd w_waitingF (Int32.toNatClampNeg w_count) p0)))] := hD
    have e_sX3_push_0_19 : sX3_push_0_19 w_count = (w_count + 1) := by unfold sX3_push_0_19; rw [if_neg hc1]
    have e_sX3_push_1 : sX3_push_1 w_waitingF w_count p0 = (upd w_waitingF (Int32.toNatClampNeg w_count) p0) := by unfold sX3_push_1; rw [if_neg hc1]
    have hP9 : va_P (dC, dI) cls [(h0, .inr (10, [.int w_outcome, .int w_result, .int w_steps, .ref w_memoryA, .ref w_programO, .ref w_flowsR, .ref w_allocatorO, .ref w_toldA, .int w_isRunning, .int w_calls, .ref w_functionA, .ref w_atA, .ref w_blockA, .ref w_blockAheadA, .ref w_argumentsA, .ref w_cellsA, .ref w_slotsA, .int w_slotRoom, .ref w_waitingA, .int (sX3_push_0_19 w_count)])), (w_waitingA, .inl (w_waitingC, 512, .inl (sX3_push_1 w_waitingF w_count p0)))] H := by rw [e_sX3_push_0_19, e_sX3_push_1]; exact hP.sub [0, 1] rfl
    have hD9 : va_D A [(h0, .inr (10, [.int w_outcome, .int w_result, .int w_steps, .ref w_memoryA, .ref w_programO, .ref w_flowsR, .ref w_allocatorO, .ref w_toldA, .int w_isRunning, .int w_calls, .ref w_functionA, .ref w_atA, .ref w_blockA, .ref w_blockAheadA, .ref w_argumentsA, .ref w_cellsA, .ref w_slotsA, .int w_slotRoom, .ref w_waitingA, .int (sX3_push_0_19 w_count)])), (w_waitingA, .inl (w_waitingC, 512, .inl (sX3_push_1 w_waitingF w_count p0)))] := by rw [e_sX3_push_0_19, e_sX3_push_1]; exact hD.sub [0, 1] (by decide) rfl
    have hK9 : va_K (dC, dI) cls [(w_waitingC, .int)] s := hK.sub [0] rfl
    refine W.widen (k := 0) (n := 0) (Nat.le_of_ble_eq_true rfl) (Nat.le_of_ble_eq_true rfl) ?_
    exact W.vret hx hb hr (fun t ht hW => ⟨⟨(), rfl, trivial, ⟨by rw [ht]; exact hP9, va_K.moved hW.alike hK9, hD9⟩⟩, hS.F ht⟩) hS.2.2 dX3_push_30
set_option maxHeartbeats 4000000 in
set_option maxRecDepth 100000 in
theorem kX3_readWord {zs : Nat × Nat} (l : Launch) (dC : Nat → ClassId) (dI : Nat → Nat → Nat) (h0 : Nat) (w_outcome : Int32) (w_result : Int32) (w_steps : Int32) (w_memoryA : Nat) (w_memoryC : ClassId) (w_memoryF : Nat → Int32) (w_flowsR : Nat) (w_toldA : Nat) (w_isRunning : Int32) (w_calls : Int32) (w_functionA : Nat) (w_atA : Nat) (w_blockA : Nat) (w_blockAheadA : Nat) (w_argumentsA : Nat) (w_cellsA : Nat) (w_slotsA : Nat) (w_slotRoom : Int32) (w_waitingA : Nat) (w_count : Int32) (w_programO : Nat) (w_allocatorO : Nat) (p0 : Int32) (sz : Nat) (hq1 : vp_in (p0 &&& 15) 16) : Met l yX3_readWord (wz yX3_readWord cX3_readWord 2 (Option.some Jvm.ClassFile.FieldType.int)) ({ frames := 0, cells := 0, slots := 0, locals := 0 }) (va_Pc [.ref h0, .int p0] (PRE zs dC dI [(h0, .inr (10, [.int w_outcome, .int w_result, .int w_steps, .ref w_memoryA, .ref w_programO, .ref w_flowsR, .ref w_allocatorO, .ref w_toldA, .int w_isRunning, .int w_calls, .ref w_functionA, .ref w_atA, .ref w_blockA, .ref w_blockAheadA, .ref w_argumentsA, .ref w_cellsA, .ref w_slotsA, .int w_slotRoom, .ref w_waitingA, .int w_count])), (w_memoryA, .inl (w_memoryC, 16, .inl w_memoryF))] [(w_memoryC, .int)] sz)) (va_Qi (fun (r : Int32) (_ : Unit) => r = (w_memoryF (Int32.toNatClampNeg (p0 &&& 15)))) (fun _ t => POST dC dI [(h0, .inr (10, [.int w_outcome, .int w_result, .int w_steps, .ref w_memoryA, .ref w_programO, .ref w_flowsR, .ref w_allocatorO, .ref w_toldA, .int w_isRunning, .int w_calls, .ref w_functionA, .ref w_atA, .ref w_blockA, .ref w_blockAheadA, .ref w_argumentsA, .ref w_cellsA, .ref w_slotsA, .int w_slotRoom, .ref w_waitingA, .int w_count])), (w_memoryA, .inl (w_memoryC, 16, .inl w_memoryF))] [(w_memoryC, .int)] (va_A [(h0, .inr (10, [.int w_outcome, .int w_result, .int w_steps, .ref w_memoryA, .ref w_programO, .ref w_flowsR, .ref w_allocatorO, .ref w_toldA, .int w_isRunning, .int w_calls, .ref w_functionA, .ref w_atA, .ref w_blockA, .ref w_blockAheadA, .ref w_argumentsA, .ref w_cellsA, .ref w_slotsA, .int w_slotRoom, .ref w_waitingA, .int w_count])), (w_memoryA, .inl (w_memoryC, 16, .inl w_memoryF))] sz) t) (va_A [(h0, .inr (10, [.int w_outcome, .int w_result, .int w_steps, .ref w_memoryA, .ref w_programO, .ref w_flowsR, .ref w_allocatorO, .ref w_toldA, .int w_isRunning, .int w_calls, .ref w_functionA, .ref w_atA, .ref w_blockA, .ref w_blockAheadA, .ref w_argumentsA, .ref w_cellsA, .ref w_slotsA, .int w_slotRoom, .ref w_waitingA, .int w_count])), (w_memoryA, .inl (w_memoryC, 16, .inl w_memoryF))] sz)) 0 0 (va_A [(h0, .inr (10, [.int w_outcome, .int w_result, .int w_steps, .ref w_memoryA, .ref w_programO, .ref w_flowsR, .ref w_allocatorO, .ref w_toldA, .int w_isRunning, .int w_calls, .ref w_functionA, .ref w_atA, .ref w_blockA, .ref w_blockAheadA, .ref w_argumentsA, .ref w_cellsA, .ref w_slotsA, .int w_slotRoom, .ref w_waitingA, .int w_count])), (w_memoryA, .inl (w_memoryC, 16, .inl w_memoryF))] sz) := by
  refine Met.ofW (cc := cX3_readWord) (maxL := 2) (ret := (Option.some Jvm.ClassFile.FieldType.int)) (by decide) rfl ?_
  intro p e s m args below meth c s₁ B hml hv
  obtain ⟨rfl, hsz, hP, hK, hD0, hE⟩ := hv
  have hx := B.exec
  have hb := B.bytes
  have hr := B.returns
  have hts0 := atoms_spec (ws := wz yX3_readWord cX3_readWord 2 (Option.some Jvm.ClassFile.FieldType.int)) B.pre
  have hts : ∀ w ∈ gw, w.before _ s = true := fun w h => hts0 w (List.mem_cons_of_mem _ h)
  have hown : s.vm.findClass RX3 = some m.cls := findClass_of_methodNamed B.named
  have hlocks := B.notSynchronized
  subst hsz
  have hD := hD0.self (sz := s.heap.size)
  generalize hAe : va_A [(h0, .inr (10, [.int w_outcome, .int w_result, .int w_steps, .ref w_memoryA, .ref w_programO, .ref w_flowsR, .ref w_allocatorO, .ref w_toldA, .int w_isRunning, .int w_calls, .ref w_functionA, .ref w_atA, .ref w_blockA, .ref w_blockAheadA, .ref w_argumentsA, .ref w_cellsA, .ref w_slotsA, .int w_slotRoom, .ref w_waitingA, .int w_count])), (w_memoryA, .inl (w_memoryC, 16, .inl w_memoryF))] s.heap.size = A at hD hE ⊢
  have hA : ∀ q : Nat, s.heap.size ≤ q → A q := fun q h => by rw [← hAe]; exact Or.inr h
  have hS : va_S A s.heap s.heap [] := va_S.rf
  have hP : va_P (dC, dI) cls [(h0, .inr (10, [.int w_outcome, .int w_result, .int w_steps, .ref w_memoryA, .ref w_programO, .ref w_flowsR, .ref w_allocatorO, .ref w_toldA, .int w_isRunning, .int w_calls, .ref w_functionA, .ref w_atA, .ref w_blockA, .ref w_blockAheadA, .ref w_argumentsA, .ref w_cellsA, .ref w_slotsA, .int w_slotRoom, .ref w_waitingA, .int w_count])), (w_memoryA, .inl (w_memoryC, 16, .inl w_memoryF))] s.heap := hP
  have hl := lv_entry ([.ref h0, .int p0]) (n := 2) (Nat.le_of_ble_eq_true rfl)
  rw [lg_entry_eq]
  generalize (lg_sl ([.ref h0, .int p0]) ++ List.replicate (2 - (lg_sl ([.ref h0, .int p0])).length) Slot.unset).toArray = ls at hl ⊢
  have hl : lv_has ls 2 [(0, .ref h0), (1, .int p0)] := hl
  refine lv_aload_n hx hb dX3_readWord_0 rfl (lv_at hl 0 rfl) ?_
  refine va_get (D := (dC, dI)) (ci := 10) (v := .ref w_memoryA) (C := RX3) (T := TX3) (N := 20) hx hb hts i_X3 hown hK hP 0 rfl rfl 3 (by decide) (hts _ qw432) (fun _ h9 => h9) rfl dX3_readWord_1 ?_
  refine lv_iload_n hx hb dX3_readWord_4 rfl (lv_at hl 1 rfl) ?_
  refine lv_bipush (v := 15) hx hb dX3_readWord_5 (by decide) ?_
  refine lv_iand hx hb dX3_readWord_7 ?_
  refine va_iald hx hb hK hP 1 0 rfl rfl (hq1) dX3_readWord_8 ?_
  have hP9 : va_P (dC, dI) cls [(h0, .inr (10, [.int w_outcome, .int w_result, .int w_steps, .ref w_memoryA, .ref w_programO, .ref w_flowsR, .ref w_allocatorO, .ref w_toldA, .int w_isRunning, .int w_calls, .ref w_functionA, .ref w_atA, .ref w_blockA, .ref w_blockAheadA, .ref w_argumentsA, .ref w_cellsA, .ref w_slotsA, .int w_slotRoom, .ref w_waitingA, .int w_count])), (w_memoryA, .inl (w_memoryC, 16, .inl w_memoryF))] s.heap := by exact hP.sub [0, 1] rfl
  have hD9 : va_D A [(h0, .inr (10, [.int w_outcome, .int w_result, .int w_steps, .ref w_memoryA, .ref w_programO, .ref w_flowsR, .ref w_allocatorO, .ref w_toldA, .int w_isRunning, .int w_calls, .ref w_functionA, .ref w_atA, .ref w_blockA, .ref w_blockAheadA, .ref w_argumentsA, .ref w_cellsA, .ref w_slotsA, .int w_slotRoom, .ref w_waitingA, .int w_count])), (w_memoryA, .inl (w_memoryC, 16, .inl w_memoryF))] := by exact hD.sub [0, 1] (by decide) rfl
  have hK9 : va_K (dC, dI) cls [(w_memoryC, .int)] s := hK.sub [0] rfl
  refine W.widen (k := 0) (n := 0) (Nat.le_of_ble_eq_true rfl) (Nat.le_of_ble_eq_true rfl) ?_
  exact W.iret (v := (w_memoryF (Int32.toNatClampNeg (p0 &&& 15)))) hx hb hr (fun t ht hW => ⟨⟨(w_memoryF (Int32.toNatClampNeg (p0 &&& 15))), (), rfl, rfl, ⟨by rw [ht]; exact hP9, va_K.moved hW.alike hK9, hD9⟩⟩, hS.F ht⟩) hS.2.2 dX3_readWord_9
set_option maxHeartbeats 4000000 in
set_option maxRecDepth 100000 in
theorem kX3_tell {zs : Nat × Nat} (l : Launch) (dC : Nat → ClassId) (dI : Nat → Nat → Nat) (h0 : Nat) (w_outcome : Int32) (w_result : Int32) (w_steps : Int32) (w_memoryA : Nat) (w_flowsR : Nat) (w_toldA : Nat) (w_toldC : ClassId) (w_toldF : Nat → Int32) (w_isRunning : Int32) (w_calls : Int32) (w_functionA : Nat) (w_atA : Nat) (w_blockA : Nat) (w_blockAheadA : Nat) (w_argumentsA : Nat) (w_cellsA : Nat) (w_slotsA : Nat) (w_slotRoom : Int32) (w_waitingA : Nat) (w_count : Int32) (w_programO : Nat) (w_allocatorO : Nat) (p0 : Int32) (p1 : Int32) (p2 : Int32) (p3 : Int32) (sz : Nat)  : Met l yX3_tell (wz yX3_tell cX3_tell 5 (Option.none : Option Jvm.ClassFile.FieldType)) ({ frames := 0, cells := 0, slots := 0, locals := 0 }) (va_Pc [.ref h0, .int p0, .int p1, .int p2, .int p3] (PRE zs dC dI [(h0, .inr (10, [.int w_outcome, .int w_result, .int w_steps, .ref w_memoryA, .ref w_programO, .ref w_flowsR, .ref w_allocatorO, .ref w_toldA, .int w_isRunning, .int w_calls, .ref w_functionA, .ref w_atA, .ref w_blockA, .ref w_blockAheadA, .ref w_argumentsA, .ref w_cellsA, .ref w_slotsA, .int w_slotRoom, .ref w_waitingA, .int w_count])), (w_toldA, .inl (w_toldC, 4, .inl w_toldF))] [(w_toldC, .int)] sz)) (va_Qv (fun (_ : Unit) => True) (fun _ t => POST dC dI [(h0, .inr (10, [.int w_outcome, .int w_result, .int w_steps, .ref w_memoryA, .ref w_programO, .ref w_flowsR, .ref w_allocatorO, .ref w_toldA, .int w_isRunning, .int w_calls, .ref w_functionA, .ref w_atA, .ref w_blockA, .ref w_blockAheadA, .ref w_argumentsA, .ref w_cellsA, .ref w_slotsA, .int w_slotRoom, .ref w_waitingA, .int w_count])), (w_toldA, .inl (w_toldC, 4, .inl (upd (upd (upd (upd w_toldF (Int32.toNatClampNeg 0) p0) (Int32.toNatClampNeg 1) p1) (Int32.toNatClampNeg 2) p2) (Int32.toNatClampNeg 3) p3)))] [(w_toldC, .int)] (va_A [(h0, .inr (10, [.int w_outcome, .int w_result, .int w_steps, .ref w_memoryA, .ref w_programO, .ref w_flowsR, .ref w_allocatorO, .ref w_toldA, .int w_isRunning, .int w_calls, .ref w_functionA, .ref w_atA, .ref w_blockA, .ref w_blockAheadA, .ref w_argumentsA, .ref w_cellsA, .ref w_slotsA, .int w_slotRoom, .ref w_waitingA, .int w_count])), (w_toldA, .inl (w_toldC, 4, .inl w_toldF))] sz) t) (va_A [(h0, .inr (10, [.int w_outcome, .int w_result, .int w_steps, .ref w_memoryA, .ref w_programO, .ref w_flowsR, .ref w_allocatorO, .ref w_toldA, .int w_isRunning, .int w_calls, .ref w_functionA, .ref w_atA, .ref w_blockA, .ref w_blockAheadA, .ref w_argumentsA, .ref w_cellsA, .ref w_slotsA, .int w_slotRoom, .ref w_waitingA, .int w_count])), (w_toldA, .inl (w_toldC, 4, .inl w_toldF))] sz)) 0 0 (va_A [(h0, .inr (10, [.int w_outcome, .int w_result, .int w_steps, .ref w_memoryA, .ref w_programO, .ref w_flowsR, .ref w_allocatorO, .ref w_toldA, .int w_isRunning, .int w_calls, .ref w_functionA, .ref w_atA, .ref w_blockA, .ref w_blockAheadA, .ref w_argumentsA, .ref w_cellsA, .ref w_slotsA, .int w_slotRoom, .ref w_waitingA, .int w_count])), (w_toldA, .inl (w_toldC, 4, .inl w_toldF))] sz) := by
  refine Met.ofW (cc := cX3_tell) (maxL := 5) (ret := (Option.none : Option Jvm.ClassFile.FieldType)) (by decide) rfl ?_
  intro p e s m args below meth c s₁ B hml hv
  obtain ⟨rfl, hsz, hP, hK, hD0, hE⟩ := hv
  have hx := B.exec
  have hb := B.bytes
  have hr := B.returns
  have hts0 := atoms_spec (ws := wz yX3_tell cX3_tell 5 (Option.none : Option Jvm.ClassFile.FieldType)) B.pre
  have hts : ∀ w ∈ gw, w.before _ s = true := fun w h => hts0 w (List.mem_cons_of_mem _ h)
  have hown : s.vm.findClass RX3 = some m.cls := findClass_of_methodNamed B.named
  have hlocks := B.notSynchronized
  subst hsz
  have hD := hD0.self (sz := s.heap.size)
  generalize hAe : va_A [(h0, .inr (10, [.int w_outcome, .int w_result, .int w_steps, .ref w_memoryA, .ref w_programO, .ref w_flowsR, .ref w_allocatorO, .ref w_toldA, .int w_isRunning, .int w_calls, .ref w_functionA, .ref w_atA, .ref w_blockA, .ref w_blockAheadA, .ref w_argumentsA, .ref w_cellsA, .ref w_slotsA, .int w_slotRoom, .ref w_waitingA, .int w_count])), (w_toldA, .inl (w_toldC, 4, .inl w_toldF))] s.heap.size = A at hD hE ⊢
  have hA : ∀ q : Nat, s.heap.size ≤ q → A q := fun q h => by rw [← hAe]; exact Or.inr h
  have hS : va_S A s.heap s.heap [] := va_S.rf
  have hP : va_P (dC, dI) cls [(h0, .inr (10, [.int w_outcome, .int w_result, .int w_steps, .ref w_memoryA, .ref w_programO, .ref w_flowsR, .ref w_allocatorO, .ref w_toldA, .int w_isRunning, .int w_calls, .ref w_functionA, .ref w_atA, .ref w_blockA, .ref w_blockAheadA, .ref w_argumentsA, .ref w_cellsA, .ref w_slotsA, .int w_slotRoom, .ref w_waitingA, .int w_count])), (w_toldA, .inl (w_toldC, 4, .inl w_toldF))] s.heap := hP
  have hl := lv_entry ([.ref h0, .int p0, .int p1, .int p2, .int p3]) (n := 5) (Nat.le_of_ble_eq_true rfl)
  rw [lg_entry_eq]
  generalize (lg_sl ([.ref h0, .int p0, .int p1, .int p2, .int p3]) ++ List.replicate (5 - (lg_sl ([.ref h0, .int p0, .int p1, .int p2, .int p3])).length) Slot.unset).toArray = ls at hl ⊢
  have hl : lv_has ls 5 [(0, .ref h0), (1, .int p0), (2, .int p1), (3, .int p2), (4, .int p3)] := hl
  refine lv_aload_n hx hb dX3_tell_0 rfl (lv_at hl 0 rfl) ?_
  refine va_get (D := (dC, dI)) (ci := 10) (v := .ref w_toldA) (C := RX3) (T := TX3) (N := 20) hx hb hts i_X3 hown hK hP 0 rfl rfl 7 (by decide) (hts _ qw126) (fun _ h9 => h9) rfl dX3_tell_1 ?_
  refine lv_iconst (v := 0) hx hb dX3_tell_4 (by decide) ?_
  refine lv_iload_n hx hb dX3_tell_5 rfl (lv_at hl 1 rfl) ?_
  refine va_iast hx hb hK hP hD hS 1 0 rfl rfl (by unfold vp_in; decide +kernel) dX3_tell_6 (fun H locs hP hD hS => ?_)
  have hP : va_P (dC, dI) cls [(h0, .inr (10, [.int w_outcome, .int w_result, .int w_steps, .ref w_memoryA, .ref w_programO, .ref w_flowsR, .ref w_allocatorO, .ref w_toldA, .int w_isRunning, .int w_calls, .ref w_functionA, .ref w_atA, .ref w_blockA, .ref w_blockAheadA, .ref w_argumentsA, .ref w_cellsA, .ref w_slotsA, .int w_slotRoom, .ref w_waitingA, .int w_count])), (w_toldA, .inl (w_toldC, 4, .inl (upd w_toldF (Int32.toNatClampNeg 0) p0)))] H := hP
  have hD : va_D A [(h0, .inr (10, [.int w_outcome, .int w_result, .int w_steps, .ref w_memoryA, .ref w_programO, .ref w_flowsR, .ref w_allocatorO, .ref w_toldA, .int w_isRunning, .int w_calls, .ref w_functionA, .ref w_atA, .ref w_blockA, .ref w_blockAheadA, .ref w_argumentsA, .ref w_cellsA, .ref w_slotsA, .int w_slotRoom, .ref w_waitingA, .int w_count])), (w_toldA, .inl (w_toldC, 4, .inl (upd w_toldF (Int32.toNatClampNeg 0) p0)))] := hD
  refine lv_aload_n hx hb dX3_tell_7 rfl (lv_at hl 0 rfl) ?_
  refine va_get (D := (dC, dI)) (ci := 10) (v := .ref w_toldA) (C := RX3) (T := TX3) (N := 20) hx hb hts i_X3 hown hK hP 0 rfl rfl 7 (by decide) (hts _ qw126) (fun _ h9 => h9) rfl dX3_tell_8 ?_
  refine lv_iconst (v := 1) hx hb dX3_tell_11 (by decide) ?_
  refine lv_iload_n hx hb dX3_tell_12 rfl (lv_at hl 2 rfl) ?_
  refine va_iast hx hb hK hP hD hS 1 0 rfl rfl (by unfold vp_in; decide +kernel) dX3_tell_13 (fun H locs hP hD hS => ?_)
  have hP : va_P (dC, dI) cls [(h0, .inr (10, [.int w_outcome, .int w_result, .int w_steps, .ref w_memoryA, .ref w_programO, .ref w_flowsR, .ref w_allocatorO, .ref w_toldA, .int w_isRunning, .int w_calls, .ref w_functionA, .ref w_atA, .ref w_blockA, .ref w_blockAheadA, .ref w_argumentsA, .ref w_cellsA, .ref w_slotsA, .int w_slotRoom, .ref w_waitingA, .int w_count])), (w_toldA, .inl (w_toldC, 4, .inl (upd (upd w_toldF (Int32.toNatClampNeg 0) p0) (Int32.toNatClampNeg 1) p1)))] H := hP
  have hD : va_D A [(h0, .inr (10, [.int w_outcome, .int w_result, .int w_steps, .ref w_memoryA, .ref w_programO, .ref w_flowsR, .ref w_allocatorO, .ref w_toldA, .int w_isRunning, .int w_calls, .ref w_functionA, .ref w_atA, .ref w_blockA, .ref w_blockAheadA, .ref w_argumentsA, .ref w_cellsA, .ref w_slotsA, .int w_slotRoom, .ref w_waitingA, .int w_count])), (w_toldA, .inl (w_toldC, 4, .inl (upd (upd w_toldF (Int32.toNatClampNeg 0) p0) (Int32.toNatClampNeg 1) p1)))] := hD
  refine lv_aload_n hx hb dX3_tell_14 rfl (lv_at hl 0 rfl) ?_
  refine va_get (D := (dC, dI)) (ci := 10) (v := .ref w_toldA) (C := RX3) (T := TX3) (N := 20) hx hb hts i_X3 hown hK hP 0 rfl rfl 7 (by decide) (hts _ qw126) (fun _ h9 => h9) rfl dX3_tell_15 ?_
  refine lv_iconst (v := 2) hx hb dX3_tell_18 (by decide) ?_
  refine lv_iload_n hx hb dX3_tell_19 rfl (lv_at hl 3 rfl) ?_
  refine va_iast hx hb hK hP hD hS 1 0 rfl rfl (by unfold vp_in; decide +kernel) dX3_tell_20 (fun H locs hP hD hS => ?_)
  have hP : va_P (dC, dI) cls [(h0, .inr (10, [.int w_outcome, .int w_result, .int w_steps, .ref w_memoryA, .ref w_programO, .ref w_flowsR, .ref w_allocatorO, .ref w_toldA, .int w_isRunning, .int w_calls, .ref w_functionA, .ref w_atA, .ref w_blockA, .ref w_blockAheadA, .ref w_argumentsA, .ref w_cellsA, .ref w_slotsA, .int w_slotRoom, .ref w_waitingA, .int w_count])), (w_toldA, .inl (w_toldC, 4, .inl (upd (upd (upd w_toldF (Int32.toNatClampNeg 0) p0) (Int32.toNatClampNeg 1) p1) (Int32.toNatClampNeg 2) p2)))] H := hP
  have hD : va_D A [(h0, .inr (10, [.int w_outcome, .int w_result, .int w_steps, .ref w_memoryA, .ref w_programO, .ref w_flowsR, .ref w_allocatorO, .ref w_toldA, .int w_isRunning, .int w_calls, .ref w_functionA, .ref w_atA, .ref w_blockA, .ref w_blockAheadA, .ref w_argumentsA, .ref w_cellsA, .ref w_slotsA, .int w_slotRoom, .ref w_waitingA, .int w_count])), (w_toldA, .inl (w_toldC, 4, .inl (upd (upd (upd w_toldF (Int32.toNatClampNeg 0) p0) (Int32.toNatClampNeg 1) p1) (Int32.toNatClampNeg 2) p2)))] := hD
  refine lv_aload_n hx hb dX3_tell_21 rfl (lv_at hl 0 rfl) ?_
  refine va_get (D := (dC, dI)) (ci := 10) (v := .ref w_toldA) (C := RX3) (T := TX3) (N := 20) hx hb hts i_X3 hown hK hP 0 rfl rfl 7 (by decide) (hts _ qw126) (fun _ h9 => h9) rfl dX3_tell_22 ?_
  refine lv_iconst (v := 3) hx hb dX3_tell_25 (by decide) ?_
  refine lv_iload hx hb dX3_tell_26 (lv_at hl 4 rfl) ?_
  refine va_iast hx hb hK hP hD hS 1 0 rfl rfl (by unfold vp_in; decide +kernel) dX3_tell_28 (fun H locs hP hD hS => ?_)
  have hP : va_P (dC, dI) cls [(h0, .inr (10, [.int w_outcome, .int w_result, .int w_steps, .ref w_memoryA, .ref w_programO, .ref w_flowsR, .ref w_allocatorO, .ref w_toldA, .int w_isRunning, .int w_calls, .ref w_functionA, .ref w_atA, .ref w_blockA, .ref w_blockAheadA, .ref w_argumentsA, .ref w_cellsA, .ref w_slotsA, .int w_slotRoom, .ref w_waitingA, .int w_count])), (w_toldA, .inl (w_toldC, 4, .inl (upd (upd (upd (upd w_toldF (Int32.toNatClampNeg 0) p0) (Int32.toNatClampNeg 1) p1) (Int32.toNatClampNeg 2) p2) (Int32.toNatClampNeg 3) p3)))] H := hP
  have hD : va_D A [(h0, .inr (10, [.int w_outcome, .int w_result, .int w_steps, .ref w_memoryA, .ref w_programO, .ref w_flowsR, .ref w_allocatorO, .ref w_toldA, .int w_isRunning, .int w_calls, .ref w_functionA, .ref w_atA, .ref w_blockA, .ref w_blockAheadA, .ref w_argumentsA, .ref w_cellsA, .ref w_slotsA, .int w_slotRoom, .ref w_waitingA, .int w_count])), (w_toldA, .inl (w_toldC, 4, .inl (upd (upd (upd (upd w_toldF (Int32.toNatClampNeg 0) p0) (Int32.toNatClampNeg 1) p1) (Int32.toNatClampNeg 2) p2) (Int32.toNatClampNeg 3) p3)))] := hD
  have hP9 : va_P (dC, dI) cls [(h0, .inr (10, [.int w_outcome, .int w_result, .int w_steps, .ref w_memoryA, .ref w_programO, .ref w_flowsR, .ref w_allocatorO, .ref w_toldA, .int w_isRunning, .int w_calls, .ref w_functionA, .ref w_atA, .ref w_blockA, .ref w_blockAheadA, .ref w_argumentsA, .ref w_cellsA, .ref w_slotsA, .int w_slotRoom, .ref w_waitingA, .int w_count])), (w_toldA, .inl (w_toldC, 4, .inl (upd (upd (upd (upd w_toldF (Int32.toNatClampNeg 0) p0) (Int32.toNatClampNeg 1) p1) (Int32.toNatClampNeg 2) p2) (Int32.toNatClampNeg 3) p3)))] H := by exact hP.sub [0, 1] rfl
  have hD9 : va_D A [(h0, .inr (10, [.int w_outcome, .int w_result, .int w_steps, .ref w_memoryA, .ref w_programO, .ref w_flowsR, .ref w_allocatorO, .ref w_toldA, .int w_isRunning, .int w_calls, .ref w_functionA, .ref w_atA, .ref w_blockA, .ref w_blockAheadA, .ref w_argumentsA, .ref w_cellsA, .ref w_slotsA, .int w_slotRoom, .ref w_waitingA, .int w_count])), (w_toldA, .inl (w_toldC, 4, .inl (upd (upd (upd (upd w_toldF (Int32.toNatClampNeg 0) p0) (Int32.toNatClampNeg 1) p1) (Int32.toNatClampNeg 2) p2) (Int32.toNatClampNeg 3) p3)))] := by exact hD.sub [0, 1] (by decide) rfl
  have hK9 : va_K (dC, dI) cls [(w_toldC, .int)] s := hK.sub [0] rfl
  refine W.widen (k := 0) (n := 0) (Nat.le_of_ble_eq_true rfl) (Nat.le_of_ble_eq_true rfl) ?_
  exact W.vret hx hb hr (fun t ht hW => ⟨⟨(), rfl, trivial, ⟨by rw [ht]; exact hP9, va_K.moved hW.alike hK9, hD9⟩⟩, hS.F ht⟩) hS.2.2 dX3_tell_29
set_option maxHeartbeats 4000000 in
set_option maxRecDepth 100000 in
theorem kX3_stop_n199 {zs : Nat × Nat} (l : Launch) (dC : Nat → ClassId) (dI : Nat → Nat → Nat) (a0 : Nat) (i1 : Int32) (i2 : Int32) (a3 : Nat) (a4 : Nat) (a5 : Nat) (a6 : Nat) (a7 : Nat) (i8 : Int32) (i9 : Int32) (a10 : Nat) (a11 : Nat) (a12 : Nat) (a13 : Nat) (a14 : Nat) (a15 : Nat) (a16 : Nat) (i17 : Int32) (a18 : Nat) (i19 : Int32) (sz : Nat)  : Met l yX3_stop (wz yX3_stop cX3_stop 2 (Option.none : Option Jvm.ClassFile.FieldType)) ({ frames := 0, cells := 0, slots := 0, locals := 0 }) (va_Pc [.ref a0, .int 2] (PRE zs dC dI [(a0, .inr (10, [.int i1, .int i2, .int 5000, .ref a3, .ref a4, .ref a5, .ref a6, .ref a7, .int i8, .int i9, .ref a10, .ref a11, .ref a12, .ref a13, .ref a14, .ref a15, .ref a16, .int i17, .ref a18, .int i19]))] [] sz)) (va_Qv (fun (_ : Unit) => True) (fun _ t => POST dC dI [(a0, .inr (10, [.int 2, .int i2, .int 5000, .ref a3, .ref a4, .ref a5, .ref a6, .ref a7, .int 0, .int i9, .ref a10, .ref a11, .ref a12, .ref a13, .ref a14, .ref a15, .ref a16, .int i17, .ref a18, .int i19]))] [] (va_A [(a0, .inr (10, [.int i1, .int i2, .int 5000, .ref a3, .ref a4, .ref a5, .ref a6, .ref a7, .int i8, .int i9, .ref a10, .ref a11, .ref a12, .ref a13, .ref a14, .ref a15, .ref a16, .int i17, .ref a18, .int i19]))] sz) t) (va_A [(a0, .inr (10, [.int i1, .int i2, .int 5000, .ref a3, .ref a4, .ref a5, .ref a6, .ref a7, .int i8, .int i9, .ref a10, .ref a11, .ref a12, .ref a13, .ref a14, .ref a15, .ref a16, .int i17, .ref a18, .int i19]))] sz)) 0 0 (va_A [(a0, .inr (10, [.int i1, .int i2, .int 5000, .ref a3, .ref a4, .ref a5, .ref a6, .ref a7, .int i8, .int i9, .ref a10, .ref a11, .ref a12, .ref a13, .ref a14, .ref a15, .ref a16, .int i17, .ref a18, .int i19]))] sz) := by
  refine Met.ofW (cc := cX3_stop) (maxL := 2) (ret := (Option.none : Option Jvm.ClassFile.FieldType)) (by decide) rfl ?_
  intro p e s m args below meth c s₁ B hml hv
  obtain ⟨rfl, hsz, hP, hK, hD0, hE⟩ := hv
  have hx := B.exec
  have hb := B.bytes
  have hr := B.returns
  have hts0 := atoms_spec (ws := wz yX3_stop cX3_stop 2 (Option.none : Option Jvm.ClassFile.FieldType)) B.pre
  have hts : ∀ w ∈ gw, w.before _ s = true := fun w h => hts0 w (List.mem_cons_of_mem _ h)
  have hown : s.vm.findClass RX3 = some m.cls := findClass_of_methodNamed B.named
  have hlocks := B.notSynchronized
  subst hsz
  have hD := hD0.self (sz := s.heap.size)
  generalize hAe : va_A [(a0, .inr (10, [.int i1, .int i2, .int 5000, .ref a3, .ref a4, .ref a5, .ref a6, .ref a7, .int i8, .int i9, .ref a10, .ref a11, .ref a12, .ref a13, .ref a14, .ref a15, .ref a16, .int i17, .ref a18, .int i19]))] s.heap.size = A at hD hE ⊢
  have hA : ∀ q : Nat, s.heap.size ≤ q → A q := fun q h => by rw [← hAe]; exact Or.inr h
  have hS : va_S A s.heap s.heap [] := va_S.rf
  have hP : va_P (dC, dI) cls [(a0, .inr (10, [.int i1, .int i2, .int 5000, .ref a3, .ref a4, .ref a5, .ref a6, .ref a7, .int i8, .int i9, .ref a10, .ref a11, .ref a12, .ref a13, .ref a14, .ref a15, .ref a16, .int i17, .ref a18, .int i19]))] s.heap := hP
  have hl := lv_entry ([.ref a0, .int 2]) (n := 2) (Nat.le_of_ble_eq_true rfl)
  rw [lg_entry_eq]
  generalize (lg_sl ([.ref a0, .int 2]) ++ List.replicate (2 - (lg_sl ([.ref a0, .int 2])).length) Slot.unset).toArray = ls at hl ⊢
  have hl : lv_has ls 2 [(0, .ref a0), (1, .int 2)] := hl
  refine lv_aload_n hx hb dX3_stop_0 rfl (lv_at hl 0 rfl) ?_
  refine lv_iload_n hx hb dX3_stop_1 rfl (lv_at hl 1 rfl) ?_
  refine va_put (D := (dC, dI)) (ci := 10) (v := .int 2) (ty := .int) (C := RX3) (T := TX3) (N := 20) hx hb hts i_X3 tyX3 tyX3_ok nmX3 hown hK hP hD hS 0 rfl rfl 0 (by decide) (hts _ qw429) (fun _ h9 => h9) rfl (by decide +kernel) rfl rfl (Nat.le_of_ble_eq_true rfl) dX3_stop_2 (fun H locs hP hD hS => ?_)
  have hP : va_P (dC, dI) cls [(a0, .inr (10, [.int 2, .int i2, .int 5000, .ref a3, .ref a4, .ref a5, .ref a6, .ref a7, .int i8, .int i9, .ref a10, .ref a11, .ref a12, .ref a13, .ref a14, .ref a15, .ref a16, .int i17, .ref a18, .int i19]))] H := hP
  have hD : va_D A [(a0, .inr (10, [.int 2, .int i2, .int 5000, .ref a3, .ref a4, .ref a5, .ref a6, .ref a7, .int i8, .int i9, .ref a10, .ref a11, .ref a12, .ref a13, .ref a14, .ref a15, .ref a16, .int i17, .ref a18, .int i19]))] := hD
  refine lv_aload_n hx hb dX3_stop_5 rfl (lv_at hl 0 rfl) ?_
  refine lv_iconst (v := 0) hx hb dX3_stop_6 (by decide) ?_
  refine va_put (D := (dC, dI)) (ci := 10) (v := .int 0) (ty := .boolean) (C := RX3) (T := TX3) (N := 20) hx hb hts i_X3 tyX3 tyX3_ok nmX3 hown hK hP hD hS 0 rfl rfl 8 (by decide) (hts _ qw437) (fun _ h9 => h9) rfl (by decide +kernel) rfl rfl (Nat.le_of_ble_eq_true rfl) dX3_stop_7 (fun H locs hP hD hS => ?_)
  have hP : va_P (dC, dI) cls [(a0, .inr (10, [.int 2, .int i2, .int 5000, .ref a3, .ref a4, .ref a5, .ref a6, .ref a7, .int 0, .int i9, .ref a10, .ref a11, .ref a12, .ref a13, .ref a14, .ref a15, .ref a16, .int i17, .ref a18, .int i19]))] H := hP
  have hD : va_D A [(a0, .inr (10, [.int 2, .int i2, .int 5000, .ref a3, .ref a4, .ref a5, .ref a6, .ref a7, .int 0, .int i9, .ref a10, .ref a11, .ref a12, .ref a13, .ref a14, .ref a15, .ref a16, .int i17, .ref a18, .int i19]))] := hD
  have hP9 : va_P (dC, dI) cls [(a0, .inr (10, [.int 2, .int i2, .int 5000, .ref a3, .ref a4, .ref a5, .ref a6, .ref a7, .int 0, .int i9, .ref a10, .ref a11, .ref a12, .ref a13, .ref a14, .ref a15, .ref a16, .int i17, .ref a18, .int i19]))] H := by exact hP.sub [0] rfl
  have hD9 : va_D A [(a0, .inr (10, [.int 2, .int i2, .int 5000, .ref a3, .ref a4, .ref a5, .ref a6, .ref a7, .int 0, .int i9, .ref a10, .ref a11, .ref a12, .ref a13, .ref a14, .ref a15, .ref a16, .int i17, .ref a18, .int i19]))] := by exact hD.sub [0] (by decide) rfl
  have hK9 : va_K (dC, dI) cls [] s := hK.sub [] rfl
  refine W.widen (k := 0) (n := 0) (Nat.le_of_ble_eq_true rfl) (Nat.le_of_ble_eq_true rfl) ?_
  exact W.vret hx hb hr (fun t ht hW => ⟨⟨(), rfl, trivial, ⟨by rw [ht]; exact hP9, va_K.moved hW.alike hK9, hD9⟩⟩, hS.F ht⟩) hS.2.2 dX3_stop_10
def sX3_tick_0_0 (w_outcome : Int32) (w_steps : Int32) (p0 : Int32) : Int32 := (if (w_steps + p0) ≤ 5000 then w_outcome else 2)
def sX3_tick_0_2 (w_steps : Int32) (p0 : Int32) : Int32 := (if (w_steps + p0) ≤ 5000 then (w_steps + p0) else 5000)
def sX3_tick_0_8 (w_steps : Int32) (w_isRunning : Int32) (p0 : Int32) : Int32 := (if (w_steps + p0) ≤ 5000 then w_isRunning else 0)
def sX3_tick_r (w_steps : Int32) (p0 : Int32) : Int32 := (if (w_steps + p0) ≤ 5000 then 1 else 0)
theorem nz_sX3_tick_r (w_steps : Int32) (p0 : Int32) : narrow .boolean (.int (sX3_tick_r w_steps p0)) = .int (sX3_tick_r w_steps p0) := by
  unfold sX3_tick_r
  (repeat' split) <;> first | rfl
set_option maxHeartbeats 4000000 in
set_option maxRecDepth 100000 in
theorem kX3_tick {zs : Nat × Nat} (l : Launch) (dC : Nat → ClassId) (dI : Nat → Nat → Nat) (h0 : Nat) (w_outcome : Int32) (w_result : Int32) (w_steps : Int32) (w_memoryA : Nat) (w_flowsR : Nat) (w_toldA : Nat) (w_isRunning : Int32) (w_calls : Int32) (w_functionA : Nat) (w_atA : Nat) (w_blockA : Nat) (w_blockAheadA : Nat) (w_argumentsA : Nat) (w_cellsA : Nat) (w_slotsA : Nat) (w_slotRoom : Int32) (w_waitingA : Nat) (w_count : Int32) (w_programO : Nat) (w_allocatorO : Nat) (p0 : Int32) (sz : Nat)  : Met l yX3_tick (wz yX3_tick cX3_tick 2 (Option.some Jvm.ClassFile.FieldType.boolean)) ({ frames := 1, cells := 0, slots := 0, locals := 21 }) (va_Pc [.ref h0, .int p0] (PRE zs dC dI [(h0, .inr (10, [.int w_outcome, .int w_result, .int w_steps, .ref w_memoryA, .ref w_programO, .ref w_flowsR, .ref w_allocatorO, .ref w_toldA, .int w_isRunning, .int w_calls, .ref w_functionA, .ref w_atA, .ref w_blockA, .ref w_blockAheadA, .ref w_argumentsA, .ref w_cellsA, .ref w_slotsA, .int w_slotRoom, .ref w_waitingA, .int w_count]))] [] sz)) (va_Qi (fun (r : Int32) (_ : Unit) => r = (sX3_tick_r w_steps p0)) (fun _ t => POST dC dI [(h0, .inr (10, [.int (sX3_tick_0_0 w_outcome w_steps p0), .int w_result, .int (sX3_tick_0_2 w_steps p0), .ref w_memoryA, .ref w_programO, .ref w_flowsR, .ref w_allocatorO, .ref w_toldA, .int (sX3_tick_0_8 w_steps w_isRunning p0), .int w_calls, .ref w_functionA, .ref w_atA, .ref w_blockA, .ref w_blockAheadA, .ref w_argumentsA, .ref w_cellsA, .ref w_slotsA, .int w_slotRoom, .ref w_waitingA, .int w_count]))] [] (va_A [(h0, .inr (10, [.int w_outcome, .int w_result, .int w_steps, .ref w_memoryA, .ref w_programO, .ref w_flowsR, .ref w_allocatorO, .ref w_toldA, .int w_isRunning, .int w_calls, .ref w_functionA, .ref w_atA, .ref w_blockA, .ref w_blockAheadA, .ref w_argumentsA, .ref w_cellsA, .ref w_slotsA, .int w_slotRoom, .ref w_waitingA, .int w_count]))] sz) t) (va_A [(h0, .inr (10, [.int w_outcome, .int w_result, .int w_steps, .ref w_memoryA, .ref w_programO, .ref w_flowsR, .ref w_allocatorO, .ref w_toldA, .int w_isRunning, .int w_calls, .ref w_functionA, .ref w_atA, .ref w_blockA, .ref w_blockAheadA, .ref w_argumentsA, .ref w_cellsA, .ref w_slotsA, .int w_slotRoom, .ref w_waitingA, .int w_count]))] sz)) 0 0 (va_A [(h0, .inr (10, [.int w_outcome, .int w_result, .int w_steps, .ref w_memoryA, .ref w_programO, .ref w_flowsR, .ref w_allocatorO, .ref w_toldA, .int w_isRunning, .int w_calls, .ref w_functionA, .ref w_atA, .ref w_blockA, .ref w_blockAheadA, .ref w_argumentsA, .ref w_cellsA, .ref w_slotsA, .int w_slotRoom, .ref w_waitingA, .int w_count]))] sz) := by
  refine Met.ofW (cc := cX3_tick) (maxL := 2) (ret := (Option.some Jvm.ClassFile.FieldType.boolean)) (by decide) rfl ?_
  intro p e s m args below meth c s₁ B hml hv
  obtain ⟨rfl, hsz, hP, hK, hD0, hE⟩ := hv
  have hx := B.exec
  have hb := B.bytes
  have hr := B.returns
  have hts0 := atoms_spec (ws := wz yX3_tick cX3_tick 2 (Option.some Jvm.ClassFile.FieldType.boolean)) B.pre
  have hts : ∀ w ∈ gw, w.before _ s = true := fun w h => hts0 w (List.mem_cons_of_mem _ h)
  have hown : s.vm.findClass RX3 = some m.cls := findClass_of_methodNamed B.named
  have hlocks := B.notSynchronized
  subst hsz
  have hD := hD0.self (sz := s.heap.size)
  generalize hAe : va_A [(h0, .inr (10, [.int w_outcome, .int w_result, .int w_steps, .ref w_memoryA, .ref w_programO, .ref w_flowsR, .ref w_allocatorO, .ref w_toldA, .int w_isRunning, .int w_calls, .ref w_functionA, .ref w_atA, .ref w_blockA, .ref w_blockAheadA, .ref w_argumentsA, .ref w_cellsA, .ref w_slotsA, .int w_slotRoom, .ref w_waitingA, .int w_count]))] s.heap.size = A at hD hE ⊢
  have hA : ∀ q : Nat, s.heap.size ≤ q → A q := fun q h => by rw [← hAe]; exact Or.inr h
  have hS : va_S A s.heap s.heap [] := va_S.rf
  have hP : va_P (dC, dI) cls [(h0, .inr (10, [.int w_outcome, .int w_result, .int w_steps, .ref w_memoryA, .ref w_programO, .ref w_flowsR, .ref w_allocatorO, .ref w_toldA, .int w_isRunning, .int w_calls, .ref w_functionA, .ref w_atA, .ref w_blockA, .ref w_blockAheadA, .ref w_argumentsA, .ref w_cellsA, .ref w_slotsA, .int w_slotRoom, .ref w_waitingA, .int w_count]))] s.heap := hP
  have hl := lv_entry ([.ref h0, .int p0]) (n := 2) (Nat.le_of_ble_eq_true rfl)
  rw [lg_entry_eq]
  generalize (lg_sl ([.ref h0, .int p0]) ++ List.replicate (2 - (lg_sl ([.ref h0, .int p0])).length) Slot.unset).toArray = ls at hl ⊢
  have hl : lv_has ls 2 [(0, .ref h0), (1, .int p0)] := hl
  refine lv_aload_n hx hb dX3_tick_0 rfl (lv_at hl 0 rfl) ?_
  refine va_get (D := (dC, dI)) (ci := 10) (v := .int w_steps) (C := RX3) (T := TX3) (N := 20) hx hb hts i_X3 hown hK hP 0 rfl rfl 2 (by decide) (hts _ qw431) (fun _ h9 => h9) rfl dX3_tick_1 ?_
  refine lv_iload_n hx hb dX3_tick_4 rfl (lv_at hl 1 rfl) ?_
  refine lv_iadd hx hb dX3_tick_5 ?_
  refine lv_sipush (v := 5000) hx hb dX3_tick_6 (by decide) ?_
  by_cases hc1 : (w_steps + p0) ≤ 5000
  · refine lv_icmp_le (tgt := 26) hx hb dX3_tick_9 (by decide) (fun _ => ?_) (fun c => absurd hc1 c)
    refine lv_aload_n hx hb dX3_tick_26 rfl (lv_at hl 0 rfl) ?_
    refine lv_dup hx hb dX3_tick_27 rfl ?_
    refine va_get (D := (dC, dI)) (ci := 10) (v := .int w_steps) (C := RX3) (T := TX3) (N := 20) hx hb hts i_X3 hown hK hP 0 rfl rfl 2 (by decide) (hts _ qw431) (fun _ h9 => h9) rfl dX3_tick_28 ?_
    refine lv_iload_n hx hb dX3_tick_31 rfl (lv_at hl 1 rfl) ?_
    refine lv_iadd hx hb dX3_tick_32 ?_
    refine va_put (D := (dC, dI)) (ci := 10) (v := .int (w_steps + p0)) (ty := .int) (C := RX3) (T := TX3) (N := 20) hx hb hts i_X3 tyX3 tyX3_ok nmX3 hown hK hP hD hS 0 rfl rfl 2 (by decide) (hts _ qw431) (fun _ h9 => h9) rfl (by decide +kernel) rfl rfl (Nat.le_of_ble_eq_true rfl) dX3_tick_33 (fun H locs hP hD hS => ?_)
    have hP : va_P (dC, dI) cls [(h0, .inr (10, [.int w_outcome, .int w_result, .int (w_steps + p0), .ref w_memoryA, .ref w_programO, .ref w_flowsR, .ref w_allocatorO, .ref w_toldA, .int w_isRunning, .int w_calls, .ref w_functionA, .ref w_atA, .ref w_blockA, .ref w_blockAheadA, .ref w_argumentsA, .ref w_cellsA, .ref w_slotsA, .int w_slotRoom, .ref w_waitingA, .int w_count]))] H := hP
    have hD : va_D A [(h0, .inr (10, [.int w_outcome, .int w_result, .int (w_steps + p0), .ref w_memoryA, .ref w_programO, .ref w_flowsR, .ref w_allocatorO, .ref w_toldA, .int w_isRunning, .int w_calls, .ref w_functionA, .ref w_atA, .ref w_blockA, .ref w_blockAheadA, .ref w_argumentsA, .ref w_cellsA, .ref w_slotsA, .int w_slotRoom, .ref w_waitingA, .int w_count]))] := hD
    refine lv_iconst (v := 1) hx hb dX3_tick_36 (by decide) ?_
    have e_sX3_tick_0_0 : sX3_tick_0_0 w_outcome w_steps p0 = w_outcome := by unfold sX3_tick_0_0; rw [if_pos hc1]
    have e_sX3_tick_0_2 : sX3_tick_0_2 w_steps p0 = (w_steps + p0) := by unfold sX3_tick_0_2; rw [if_pos hc1]
    have e_sX3_tick_0_8 : sX3_tick_0_8 w_steps w_isRunning p0 = w_isRunning := by unfold sX3_tick_0_8; rw [if_pos hc1]
    have e_sX3_tick_r : sX3_tick_r w_steps p0 = 1 := by unfold sX3_tick_r; rw [if_pos hc1]
    have hP9 : va_P (dC, dI) cls [(h0, .inr (10, [.int (sX3_tick_0_0 w_outcome w_steps p0), .int w_result, .int (sX3_tick_0_2 w_steps p0), .ref w_memoryA, .ref w_programO, .ref w_flowsR, .ref w_allocatorO, .ref w_toldA, .int (sX3_tick_0_8 w_steps w_isRunning p0), .int w_calls, .ref w_functionA, .ref w_atA, .ref w_blockA, .ref w_blockAheadA, .ref w_argumentsA, .ref w_cellsA, .ref w_slotsA, .int w_slotRoom, .ref w_waitingA, .int w_count]))] H := by rw [e_sX3_tick_0_0, e_sX3_tick_0_2, e_sX3_tick_0_8]; exact hP.sub [0] rfl
    have hD9 : va_D A [(h0, .inr (10, [.int (sX3_tick_0_0 w_outcome w_steps p0), .int w_result, .int (sX3_tick_0_2 w_steps p0), .ref w_memoryA, .ref w_programO, .ref w_flowsR, .ref w_allocatorO, .ref w_toldA, .int (sX3_tick_0_8 w_steps w_isRunning p0), .int w_calls, .ref w_functionA, .ref w_atA, .ref w_blockA, .ref w_blockAheadA, .ref w_argumentsA, .ref w_cellsA, .ref w_slotsA, .int w_slotRoom, .ref w_waitingA, .int w_count]))] := by rw [e_sX3_tick_0_0, e_sX3_tick_0_2, e_sX3_tick_0_8]; exact hD.sub [0] (by decide) rfl
    have hK9 : va_K (dC, dI) cls [] s := hK.sub [] rfl
    refine W.widen (k := 0) (n := 0) (Nat.le_of_ble_eq_true rfl) (Nat.le_of_ble_eq_true rfl) ?_
    exact W.zret (v := 1) hx hb hr (by decide) (fun t ht hW => ⟨⟨1, (), rfl, e_sX3_tick_r.symm, ⟨by rw [ht]; exact hP9, va_K.moved hW.alike hK9, hD9⟩⟩, hS.F ht⟩) hS.2.2 dX3_tick_37
  · refine lv_icmp_le (tgt := 26) hx hb dX3_tick_9 (by decide) (fun c => absurd c hc1) (fun _ => ?_)
    refine lv_aload_n hx hb dX3_tick_12 rfl (lv_at hl 0 rfl) ?_
    refine lv_sipush (v := 5000) hx hb dX3_tick_13 (by decide) ?_
    refine va_put (D := (dC, dI)) (ci := 10) (v := .int 5000) (ty := .int) (C := RX3) (T := TX3) (N := 20) hx hb hts i_X3 tyX3 tyX3_ok nmX3 hown hK hP hD hS 0 rfl rfl 2 (by decide) (hts _ qw431) (fun _ h9 => h9) rfl (by decide +kernel) rfl rfl (Nat.le_of_ble_eq_true rfl) dX3_tick_16 (fun H locs hP hD hS => ?_)
    have hP : va_P (dC, dI) cls [(h0, .inr (10, [.int w_outcome, .int w_result, .int 5000, .ref w_memoryA, .ref w_programO, .ref w_flowsR, .ref w_allocatorO, .ref w_toldA, .int w_isRunning, .int w_calls, .ref w_functionA, .ref w_atA, .ref w_blockA, .ref w_blockAheadA, .ref w_argumentsA, .ref w_cellsA, .ref w_slotsA, .int w_slotRoom, .ref w_waitingA, .int w_count]))] H := hP
    have hD : va_D A [(h0, .inr (10, [.int w_outcome, .int w_result, .int 5000, .ref w_memoryA, .ref w_programO, .ref w_flowsR, .ref w_allocatorO, .ref w_toldA, .int w_isRunning, .int w_calls, .ref w_functionA, .ref w_atA, .ref w_blockA, .ref w_blockAheadA, .ref w_argumentsA, .ref w_cellsA, .ref w_slotsA, .int w_slotRoom, .ref w_waitingA, .int w_count]))] := hD
    refine lv_aload_n hx hb dX3_tick_19 rfl (lv_at hl 0 rfl) ?_
    refine lv_iconst (v := 2) hx hb dX3_tick_20 (by decide) ?_
    have hPc := hP.sub (ws' := [(h0, .inr (10, [.int w_outcome, .int w_result, .int 5000, .ref w_memoryA, .ref w_programO, .ref w_flowsR, .ref w_allocatorO, .ref w_toldA, .int w_isRunning, .int w_calls, .ref w_functionA, .ref w_atA, .ref w_blockA, .ref w_blockAheadA, .ref w_argumentsA, .ref w_cellsA, .ref w_slotsA, .int w_slotRoom, .ref w_waitingA, .int w_count]))]) [0] rfl
    have hDc := hD.sub (ws' := [(h0, .inr (10, [.int w_outcome, .int w_result, .int 5000, .ref w_memoryA, .ref w_programO, .ref w_flowsR, .ref w_allocatorO, .ref w_toldA, .int w_isRunning, .int w_calls, .ref w_functionA, .ref w_atA, .ref w_blockA, .ref w_blockAheadA, .ref w_argumentsA, .ref w_cellsA, .ref w_slotsA, .int w_slotRoom, .ref w_waitingA, .int w_count]))]) [0] (by decide) rfl
    have hKc := hK.sub (tys' := []) [] rfl
    have hFc := va_free (wc := [(h0, .inr (10, [.int w_outcome, .int w_result, .int 5000, .ref w_memoryA, .ref w_programO, .ref w_flowsR, .ref w_allocatorO, .ref w_toldA, .int w_isRunning, .int w_calls, .ref w_functionA, .ref w_atA, .ref w_blockA, .ref w_blockAheadA, .ref w_argumentsA, .ref w_cellsA, .ref w_slotsA, .int w_slotRoom, .ref w_waitingA, .int w_count]))]) hD hS hA [0] rfl
    refine va_callv (va_runV (As := [.int 2]) (rest := []) ⟨hx, hb, hml, hown, hts⟩ (kX3_stop_n199 l dC dI (a0 := h0) (i1 := w_outcome) (i2 := w_result) (a3 := w_memoryA) (a4 := w_programO) (a5 := w_flowsR) (a6 := w_allocatorO) (a7 := w_toldA) (i8 := w_isRunning) (i9 := w_calls) (a10 := w_functionA) (a11 := w_atA) (a12 := w_blockA) (a13 := w_blockAheadA) (a14 := w_argumentsA) (a15 := w_cellsA) (a16 := w_slotsA) (i17 := w_slotRoom) (a18 := w_waitingA) (i19 := w_count) (sz := _)) (cwV 1 hts (gi_V qw439 qw440 qw441 qw442 (gi_z qw438)) rfl rfl rfl (by decide +kernel) ⟨Nat.le_of_ble_eq_true rfl, Nat.le_of_ble_eq_true rfl⟩) ⟨PRE.blind, va_recv hKc hPc (ci := 10) (q0 := 0) rfl rfl, PRE.of hE hS hFc hPc hKc hDc⟩ rfl rfl hl.1 rfl (lv_room (Nat.le_of_ble_eq_true rfl)) dX3_tick_21 ⟨Nat.le_of_ble_eq_true rfl, Nat.le_of_ble_eq_true rfl⟩) hS (fun q _ h => hFc q h) hFc (fun u t H locs ht hvm hw hB hz1 hk1 hS => ?_)
    obtain ⟨hP, hD, hK⟩ := JOIN (wr := []) hP hD hK [0] [] [] rfl rfl (by decide) (by decide) rfl hk1 hFc ht hvm hB
    have hP : va_P (dC, dI) cls [(h0, .inr (10, [.int 2, .int w_result, .int 5000, .ref w_memoryA, .ref w_programO, .ref w_flowsR, .ref w_allocatorO, .ref w_toldA, .int 0, .int w_calls, .ref w_functionA, .ref w_atA, .ref w_blockA, .ref w_blockAheadA, .ref w_argumentsA, .ref w_cellsA, .ref w_slotsA, .int w_slotRoom, .ref w_waitingA, .int w_count]))] H := hP
    have hD : va_D A [(h0, .inr (10, [.int 2, .int w_result, .int 5000, .ref w_memoryA, .ref w_programO, .ref w_flowsR, .ref w_allocatorO, .ref w_toldA, .int 0, .int w_calls, .ref w_functionA, .ref w_atA, .ref w_blockA, .ref w_blockAheadA, .ref w_argumentsA, .ref w_cellsA, .ref w_slotsA, .int w_slotRoom, .ref w_waitingA, .int w_count]))] := hD
    have hK : va_K (dC, dI) cls [] s := hK
    refine W.widen (k := 0) (n := 0) (Nat.le_of_ble_eq_true rfl) (Nat.le_of_ble_eq_true rfl) ?_
    refine lv_iconst (v := 0) hx hb dX3_tick_24 (by decide) ?_
    have e_sX3_tick_0_0 : sX3_tick_0_0 w_outcome w_steps p0 = 2 := by unfold sX3_tick_0_0; rw [if_neg hc1]
    have e_sX3_tick_0_2 : sX3_tick_0_2 w_steps p0 = 5000 := by unfold sX3_tick_0_2; rw [if_neg hc1]
    have e_sX3_tick_0_8 : sX3_tick_0_8 w_steps w_isRunning p0 = 0 := by unfold sX3_tick_0_8; rw [if_neg hc1]
    have e_sX3_tick_r : sX3_tick_r w_steps p0 = 0 := by unfold sX3_tick_r; rw [if_neg hc1]
    have hP9 : va_P (dC, dI) cls [(h0, .inr (10, [.int (sX3_tick_0_0 w_outcome w_steps p0), .int w_result, .int (sX3_tick_0_2 w_steps p0), .ref w_memoryA, .ref w_programO, .ref w_flowsR, .ref w_allocatorO, .ref w_toldA, .int (sX3_tick_0_8 w_steps w_isRunning p0), .int w_calls, .ref w_functionA, .ref w_atA, .ref w_blockA, .ref w_blockAheadA, .ref w_argumentsA, .ref w_cellsA, .ref w_slotsA, .int w_slotRoom, .ref w_waitingA, .int w_count]))] H := by rw [e_sX3_tick_0_0, e_sX3_tick_0_2, e_sX3_tick_0_8]; exact hP.sub [0] rfl
    have hD9 : va_D A [(h0, .inr (10, [.int (sX3_tick_0_0 w_outcome w_steps p0), .int w_result, .int (sX3_tick_0_2 w_steps p0), .ref w_memoryA, .ref w_programO, .ref w_flowsR, .ref w_allocatorO, .ref w_toldA, .int (sX3_tick_0_8 w_steps w_isRunning p0), .int w_calls, .ref w_functionA, .ref w_atA, .ref w_blockA, .ref w_blockAheadA, .ref w_argumentsA, .ref w_cellsA, .ref w_slotsA, .int w_slotRoom, .ref w_waitingA, .int w_count]))] := by rw [e_sX3_tick_0_0, e_sX3_tick_0_2, e_sX3_tick_0_8]; exact hD.sub [0] (by decide) rfl
    have hK9 : va_K (dC, dI) cls [] s := hK.sub [] rfl
    refine W.widen (k := 0) (n := 0) (Nat.le_of_ble_eq_true rfl) (Nat.le_of_ble_eq_true rfl) ?_
    exact W.zret (v := 0) hx hb hr (by decide) (fun t ht hW => ⟨⟨0, (), rfl, e_sX3_tick_r.symm, ⟨by rw [ht]; exact hP9, va_K.moved hW.alike hK9, hD9⟩⟩, hS.F ht⟩) hS.2.2 dX3_tick_25
set_option maxHeartbeats 4000000 in
set_option maxRecDepth 100000 in
theorem kX3_writeWord {zs : Nat × Nat} (l : Launch) (dC : Nat → ClassId) (dI : Nat → Nat → Nat) (h0 : Nat) (w_outcome : Int32) (w_result : Int32) (w_steps : Int32) (w_memoryA : Nat) (w_memoryC : ClassId) (w_memoryF : Nat → Int32) (w_flowsR : Nat) (w_toldA : Nat) (w_isRunning : Int32) (w_calls : Int32) (w_functionA : Nat) (w_atA : Nat) (w_blockA : Nat) (w_blockAheadA : Nat) (w_argumentsA : Nat) (w_cellsA : Nat) (w_slotsA : Nat) (w_slotRoom : Int32) (w_waitingA : Nat) (w_count : Int32) (w_programO : Nat) (w_allocatorO : Nat) (p0 : Int32) (p1 : Int32) (sz : Nat) (hq1 : vp_in (p0 &&& 15) 16) : Met l yX3_writeWord (wz yX3_writeWord cX3_writeWord 3 (Option.none : Option Jvm.ClassFile.FieldType)) ({ frames := 0, cells := 0, slots := 0, locals := 0 }) (va_Pc [.ref h0, .int p0, .int p1] (PRE zs dC dI [(h0, .inr (10, [.int w_outcome, .int w_result, .int w_steps, .ref w_memoryA, .ref w_programO, .ref w_flowsR, .ref w_allocatorO, .ref w_toldA, .int w_isRunning, .int w_calls, .ref w_functionA, .ref w_atA, .ref w_blockA, .ref w_blockAheadA, .ref w_argumentsA, .ref w_cellsA, .ref w_slotsA, .int w_slotRoom, .ref w_waitingA, .int w_count])), (w_memoryA, .inl (w_memoryC, 16, .inl w_memoryF))] [(w_memoryC, .int)] sz)) (va_Qv (fun (_ : Unit) => True) (fun _ t => POST dC dI [(h0, .inr (10, [.int w_outcome, .int w_result, .int w_steps, .ref w_memoryA, .ref w_programO, .ref w_flowsR, .ref w_allocatorO, .ref w_toldA, .int w_isRunning, .int w_calls, .ref w_functionA, .ref w_atA, .ref w_blockA, .ref w_blockAheadA, .ref w_argumentsA, .ref w_cellsA, .ref w_slotsA, .int w_slotRoom, .ref w_waitingA, .int w_count])), (w_memoryA, .inl (w_memoryC, 16, .inl (upd w_memoryF (Int32.toNatClampNeg (p0 &&& 15)) p1)))] [(w_memoryC, .int)] (va_A [(h0, .inr (10, [.int w_outcome, .int w_result, .int w_steps, .ref w_memoryA, .ref w_programO, .ref w_flowsR, .ref w_allocatorO, .ref w_toldA, .int w_isRunning, .int w_calls, .ref w_functionA, .ref w_atA, .ref w_blockA, .ref w_blockAheadA, .ref w_argumentsA, .ref w_cellsA, .ref w_slotsA, .int w_slotRoom, .ref w_waitingA, .int w_count])), (w_memoryA, .inl (w_memoryC, 16, .inl w_memoryF))] sz) t) (va_A [(h0, .inr (10, [.int w_outcome, .int w_result, .int w_steps, .ref w_memoryA, .ref w_programO, .ref w_flowsR, .ref w_allocatorO, .ref w_toldA, .int w_isRunning, .int w_calls, .ref w_functionA, .ref w_atA, .ref w_blockA, .ref w_blockAheadA, .ref w_argumentsA, .ref w_cellsA, .ref w_slotsA, .int w_slotRoom, .ref w_waitingA, .int w_count])), (w_memoryA, .inl (w_memoryC, 16, .inl w_memoryF))] sz)) 0 0 (va_A [(h0, .inr (10, [.int w_outcome, .int w_result, .int w_steps, .ref w_memoryA, .ref w_programO, .ref w_flowsR, .ref w_allocatorO, .ref w_toldA, .int w_isRunning, .int w_calls, .ref w_functionA, .ref w_atA, .ref w_blockA, .ref w_blockAheadA, .ref w_argumentsA, .ref w_cellsA, .ref w_slotsA, .int w_slotRoom, .ref w_waitingA, .int w_count])), (w_memoryA, .inl (w_memoryC, 16, .inl w_memoryF))] sz) := by
  refine Met.ofW (cc := cX3_writeWord) (maxL := 3) (ret := (Option.none : Option Jvm.ClassFile.FieldType)) (by decide) rfl ?_
  intro p e s m args below meth c s₁ B hml hv
  obtain ⟨rfl, hsz, hP, hK, hD0, hE⟩ := hv
  have hx := B.exec
  have hb := B.bytes
  have hr := B.returns
  have hts0 := atoms_spec (ws := wz yX3_writeWord cX3_writeWord 3 (Option.none : Option Jvm.ClassFile.FieldType)) B.pre
  have hts : ∀ w ∈ gw, w.before _ s = true := fun w h => hts0 w (List.mem_cons_of_mem _ h)
  have hown : s.vm.findClass RX3 = some m.cls := findClass_of_methodNamed B.named
  have hlocks := B.notSynchronized
  subst hsz
  have hD := hD0.self (sz := s.heap.size)
  generalize hAe : va_A [(h0, .inr (10, [.int w_outcome, .int w_result, .int w_steps, .ref w_memoryA, .ref w_programO, .ref w_flowsR, .ref w_allocatorO, .ref w_toldA, .int w_isRunning, .int w_calls, .ref w_functionA, .ref w_atA, .ref w_blockA, .ref w_blockAheadA, .ref w_argumentsA, .ref w_cellsA, .ref w_slotsA, .int w_slotRoom, .ref w_waitingA, .int w_count])), (w_memoryA, .inl (w_memoryC, 16, .inl w_memoryF))] s.heap.size = A at hD hE ⊢
  have hA : ∀ q : Nat, s.heap.size ≤ q → A q := fun q h => by rw [← hAe]; exact Or.inr h
  have hS : va_S A s.heap s.heap [] := va_S.rf
  have hP : va_P (dC, dI) cls [(h0, .inr (10, [.int w_outcome, .int w_result, .int w_steps, .ref w_memoryA, .ref w_programO, .ref w_flowsR, .ref w_allocatorO, .ref w_toldA, .int w_isRunning, .int w_calls, .ref w_functionA, .ref w_atA, .ref w_blockA, .ref w_blockAheadA, .ref w_argumentsA, .ref w_cellsA, .ref w_slotsA, .int w_slotRoom, .ref w_waitingA, .int w_count])), (w_memoryA, .inl (w_memoryC, 16, .inl w_memoryF))] s.heap := hP
  have hl := lv_entry ([.ref h0, .int p0, .int p1]) (n := 3) (Nat.le_of_ble_eq_true rfl)
  rw [lg_entry_eq]
  generalize (lg_sl ([.ref h0, .int p0, .int p1]) ++ List.replicate (3 - (lg_sl ([.ref h0, .int p0, .int p1])).length) Slot.unset).toArray = ls at hl ⊢
  have hl : lv_has ls 3 [(0, .ref h0), (1, .int p0), (2, .int p1)] := hl
  refine lv_aload_n hx hb dX3_writeWord_0 rfl (lv_at hl 0 rfl) ?_
  refine va_get (D := (dC, dI)) (ci := 10) (v := .ref w_memoryA) (C := RX3) (T := TX3) (N := 20) hx hb hts i_X3 hown hK hP 0 rfl rfl 3 (by decide) (hts _ qw432) (fun _ h9 => h9) rfl dX3_writeWord_1 ?_
  refine lv_iload_n hx hb dX3_writeWord_4 rfl (lv_at hl 1 rfl) ?_
  refine lv_bipush (v := 15) hx hb dX3_writeWord_5 (by decide) ?_
  refine lv_iand hx hb dX3_writeWord_7 ?_
  refine lv_iload_n hx hb dX3_writeWord_8 rfl (lv_at hl 2 rfl) ?_
  refine va_iast hx hb hK hP hD hS 1 0 rfl rfl (hq1) dX3_writeWord_9 (fun H locs hP hD hS => ?_)
  have hP : va_P (dC, dI) cls [(h0, .inr (10, [.int w_outcome, .int w_result, .int w_steps, .ref w_memoryA, .ref w_programO, .ref w_flowsR, .ref w_allocatorO, .ref w_toldA, .int w_isRunning, .int w_calls, .ref w_functionA, .ref w_atA, .ref w_blockA, .ref w_blockAheadA, .ref w_argumentsA, .ref w_cellsA, .ref w_slotsA, .int w_slotRoom, .ref w_waitingA, .int w_count])), (w_memoryA, .inl (w_memoryC, 16, .inl (upd w_memoryF (Int32.toNatClampNeg (p0 &&& 15)) p1)))] H := hP
  have hD : va_D A [(h0, .inr (10, [.int w_outcome, .int w_result, .int w_steps, .ref w_memoryA, .ref w_programO, .ref w_flowsR, .ref w_allocatorO, .ref w_toldA, .int w_isRunning, .int w_calls, .ref w_functionA, .ref w_atA, .ref w_blockA, .ref w_blockAheadA, .ref w_argumentsA, .ref w_cellsA, .ref w_slotsA, .int w_slotRoom, .ref w_waitingA, .int w_count])), (w_memoryA, .inl (w_memoryC, 16, .inl (upd w_memoryF (Int32.toNatClampNeg (p0 &&& 15)) p1)))] := hD
  have hP9 : va_P (dC, dI) cls [(h0, .inr (10, [.int w_outcome, .int w_result, .int w_steps, .ref w_memoryA, .ref w_programO, .ref w_flowsR, .ref w_allocatorO, .ref w_toldA, .int w_isRunning, .int w_calls, .ref w_functionA, .ref w_atA, .ref w_blockA, .ref w_blockAheadA, .ref w_argumentsA, .ref w_cellsA, .ref w_slotsA, .int w_slotRoom, .ref w_waitingA, .int w_count])), (w_memoryA, .inl (w_memoryC, 16, .inl (upd w_memoryF (Int32.toNatClampNeg (p0 &&& 15)) p1)))] H := by exact hP.sub [0, 1] rfl
  have hD9 : va_D A [(h0, .inr (10, [.int w_outcome, .int w_result, .int w_steps, .ref w_memoryA, .ref w_programO, .ref w_flowsR, .ref w_allocatorO, .ref w_toldA, .int w_isRunning, .int w_calls, .ref w_functionA, .ref w_atA, .ref w_blockA, .ref w_blockAheadA, .ref w_argumentsA, .ref w_cellsA, .ref w_slotsA, .int w_slotRoom, .ref w_waitingA, .int w_count])), (w_memoryA, .inl (w_memoryC, 16, .inl (upd w_memoryF (Int32.toNatClampNeg (p0 &&& 15)) p1)))] := by exact hD.sub [0, 1] (by decide) rfl
  have hK9 : va_K (dC, dI) cls [(w_memoryC, .int)] s := hK.sub [0] rfl
  refine W.widen (k := 0) (n := 0) (Nat.le_of_ble_eq_true rfl) (Nat.le_of_ble_eq_true rfl) ?_
  exact W.vret hx hb hr (fun t ht hW => ⟨⟨(), rfl, trivial, ⟨by rw [ht]; exact hP9, va_K.moved hW.alike hK9, hD9⟩⟩, hS.F ht⟩) hS.2.2 dX3_writeWord_10
