def RJ10 : String := "java/lang/System"
abbrev cX10_isLetter : ByteArray := prog_12_method_9_code
def yX10_isLetter : MethodName := ⟨RX10, "isLetter", "(I)Z"⟩
abbrev cX10_isDigit : ByteArray := prog_12_method_10_code
def yX10_isDigit : MethodName := ⟨RX10, "isDigit", "(I)Z"⟩
abbrev cX10_append : ByteArray := prog_12_method_2_code
def yX10_append : MethodName := ⟨RX10, "append", "(I)V"⟩
abbrev cX10_kindOfWord : ByteArray := prog_12_method_6_code
def yX10_kindOfWord : MethodName := ⟨RX10, "kindOfWord", "(J)I"⟩
abbrev cX10_readFigure : ByteArray := prog_12_method_7_code
def yX10_readFigure : MethodName := ⟨RX10, "readFigure", "()V"⟩
abbrev cX10_readWord : ByteArray := prog_12_method_5_code
def yX10_readWord : MethodName := ⟨RX10, "readWord", "()V"⟩
abbrev cX7_blame : ByteArray := prog_9_method_21_code
def yX7_blame : MethodName := ⟨RX7, "blame", "(II)V"⟩
abbrev cX7_declare : ByteArray := prog_9_method_22_code
def yX7_declare : MethodName := ⟨RX7, "declare", "(J)I"⟩
abbrev cX6_newVariable : ByteArray := prog_8_method_7_code
def yX6_newVariable : MethodName := ⟨RX6, "newVariable", "(I)I"⟩
abbrev cX7_emitTruth : ByteArray := prog_9_method_14_code
def yX7_emitTruth : MethodName := ⟨RX7, "emitTruth", "()V"⟩
abbrev cX6_emit : ByteArray := prog_8_method_3_code
def yX6_emit : MethodName := ⟨RX6, "emit", "(III)V"⟩
abbrev cX7_kindOfSign : ByteArray := prog_9_method_28_code
def yX7_kindOfSign : MethodName := ⟨RX7, "kindOfSign", "(I)I"⟩
abbrev cX7_linkCalls : ByteArray := prog_9_method_19_code
def yX7_linkCalls : MethodName := ⟨RX7, "linkCalls", "()V"⟩
abbrev cX6_find : ByteArray := prog_8_method_8_code
def yX6_find : MethodName := ⟨RX6, "find", "(JI)I"⟩
abbrev cX7_noteCall : ByteArray := prog_9_method_18_code
def yX7_noteCall : MethodName := ⟨RX7, "noteCall", "(JII)V"⟩
abbrev cX7_raise : ByteArray := prog_9_method_20_code
def yX7_raise : MethodName := ⟨RX7, "raise", "(II)I"⟩
abbrev cX6_newLabel : ByteArray := prog_8_method_5_code
def yX6_newLabel : MethodName := ⟨RX6, "newLabel", "()I"⟩
abbrev cX7_refuse : ByteArray := prog_9_method_26_code
def yX7_refuse : MethodName := ⟨RX7, "refuse", "()V"⟩
abbrev cX7_rowOf : ByteArray := prog_9_method_27_code
def yX7_rowOf : MethodName := ⟨RX7, "rowOf", "(I)I"⟩
abbrev cX7_seenVariableOf : ByteArray := prog_9_method_24_code
def yX7_seenVariableOf : MethodName := ⟨RX7, "seenVariableOf", "(JI)I"⟩
abbrev cX7_variableOf : ByteArray := prog_9_method_23_code
def yX7_variableOf : MethodName := ⟨RX7, "variableOf", "(J)I"⟩
abbrev cX6_clear : ByteArray := prog_8_method_2_code
def yX6_clear : MethodName := ⟨RX6, "clear", "()V"⟩
abbrev cX6_putLabel : ByteArray := prog_8_method_6_code
def yX6_putLabel : MethodName := ⟨RX6, "putLabel", "(I)V"⟩
abbrev cX6_tick : ByteArray := prog_8_method_4_code
def yX6_tick : MethodName := ⟨RX6, "tick", "(I)V"⟩
abbrev cX9_add : ByteArray := prog_11_method_2_code
def yX9_add : MethodName := ⟨RX9, "add", "(IIII)I"⟩
def RJ7 : String := "java/util/Arrays"
abbrev cJ7_copyOf_59c91 : ByteArray := prog_48_method_123_code
def yJ7_copyOf_59c91 : MethodName := ⟨RJ7, "copyOf", "([II)[I"⟩
def RJ9 : String := "java/lang/Math"
abbrev cJ9_min_7cf53 : ByteArray := prog_39_method_69_code
def yJ9_min_7cf53 : MethodName := ⟨RJ9, "min", "(II)I"⟩
theorem dJ7_copyOf_59c91_0 : decode cJ7_copyOf_59c91 0 = .ok (.iload_n 1, 1) := by decide +kernel
theorem dJ7_copyOf_59c91_1 : decode cJ7_copyOf_59c91 1 = .ok (.aload_n 0, 1) := by decide +kernel
theorem dJ7_copyOf_59c91_2 : decode cJ7_copyOf_59c91 2 = .ok (.arraylength, 1) := by decide +kernel
theorem dJ7_copyOf_59c91_3 : decode cJ7_copyOf_59c91 3 = .ok (.if_icmp .ne 11, 3) := by decide +kernel
theorem dJ7_copyOf_59c91_6 : decode cJ7_copyOf_59c91 6 = .ok (.aload_n 0, 1) := by decide +kernel
theorem dJ7_copyOf_59c91_14 : decode cJ7_copyOf_59c91 14 = .ok (.iload_n 1, 1) := by decide +kernel
theorem dJ7_copyOf_59c91_15 : decode cJ7_copyOf_59c91 15 = .ok (.newarray .int, 2) := by decide +kernel
theorem dJ7_copyOf_59c91_17 : decode cJ7_copyOf_59c91 17 = .ok (.astore_n 2, 1) := by decide +kernel
theorem dJ7_copyOf_59c91_18 : decode cJ7_copyOf_59c91 18 = .ok (.aload_n 0, 1) := by decide +kernel
theorem dJ7_copyOf_59c91_19 : decode cJ7_copyOf_59c91 19 = .ok (.iconst 0, 1) := by decide +kernel
theorem dJ7_copyOf_59c91_20 : decode cJ7_copyOf_59c91 20 = .ok (.aload_n 2, 1) := by decide +kernel
theorem dJ7_copyOf_59c91_21 : decode cJ7_copyOf_59c91 21 = .ok (.iconst 0, 1) := by decide +kernel
theorem dJ7_copyOf_59c91_22 : decode cJ7_copyOf_59c91 22 = .ok (.aload_n 0, 1) := by decide +kernel
theorem dJ7_copyOf_59c91_23 : decode cJ7_copyOf_59c91 23 = .ok (.arraylength, 1) := by decide +kernel
theorem dJ7_copyOf_59c91_24 : decode cJ7_copyOf_59c91 24 = .ok (.iload_n 1, 1) := by decide +kernel
theorem dJ7_copyOf_59c91_25 : decode cJ7_copyOf_59c91 25 = .ok (.invokestatic 304, 3) := by decide +kernel
theorem dJ7_copyOf_59c91_28 : decode cJ7_copyOf_59c91 28 = .ok (.invokestatic 150, 3) := by decide +kernel
theorem dJ7_copyOf_59c91_31 : decode cJ7_copyOf_59c91 31 = .ok (.aload_n 2, 1) := by decide +kernel
theorem dJ7_copyOf_59c91_32 : decode cJ7_copyOf_59c91 32 = .ok (.areturn, 1) := by decide +kernel
theorem dX10_append_0 : decode cX10_append 0 = .ok (.bipush 24, 2) := by decide +kernel
theorem dX10_append_2 : decode cX10_append 2 = .ok (.istore_n 2, 1) := by decide +kernel
theorem dX10_append_3 : decode cX10_append 3 = .ok (.iload_n 2, 1) := by decide +kernel
theorem dX10_append_4 : decode cX10_append 4 = .ok (.ifCond .lt 45, 3) := by decide +kernel
theorem dX10_append_7 : decode cX10_append 7 = .ok (.aload_n 0, 1) := by decide +kernel
theorem dX10_append_8 : decode cX10_append 8 = .ok (.getfield 15, 3) := by decide +kernel
theorem dX10_append_11 : decode cX10_append 11 = .ok (.sipush 1200, 3) := by decide +kernel
theorem dX10_append_14 : decode cX10_append 14 = .ok (.if_icmp .ge 35, 3) := by decide +kernel
theorem dX10_append_17 : decode cX10_append 17 = .ok (.aload_n 0, 1) := by decide +kernel
theorem dX10_append_18 : decode cX10_append 18 = .ok (.getfield 9, 3) := by decide +kernel
theorem dX10_append_21 : decode cX10_append 21 = .ok (.aload_n 0, 1) := by decide +kernel
theorem dX10_append_22 : decode cX10_append 22 = .ok (.getfield 15, 3) := by decide +kernel
theorem dX10_append_25 : decode cX10_append 25 = .ok (.iload_n 1, 1) := by decide +kernel
theorem dX10_append_26 : decode cX10_append 26 = .ok (.iload_n 2, 1) := by decide +kernel
theorem dX10_append_27 : decode cX10_append 27 = .ok (.iushr, 1) := by decide +kernel
theorem dX10_append_28 : decode cX10_append 28 = .ok (.sipush 255, 3) := by decide +kernel
theorem dX10_append_31 : decode cX10_append 31 = .ok (.iand, 1) := by decide +kernel
theorem dX10_append_32 : decode cX10_append 32 = .ok (.iastore, 1) := by decide +kernel
theorem dX10_append_33 : decode cX10_append 33 = .ok (.aload_n 0, 1) := by decide +kernel
theorem dX10_append_34 : decode cX10_append 34 = .ok (.dup, 1) := by decide +kernel
theorem dX10_append_35 : decode cX10_append 35 = .ok (.getfield 15, 3) := by decide +kernel
theorem dX10_append_38 : decode cX10_append 38 = .ok (.iconst 1, 1) := by decide +kernel
theorem dX10_append_39 : decode cX10_append 39 = .ok (.iadd, 1) := by decide +kernel
theorem dX10_append_40 : decode cX10_append 40 = .ok (.putfield 15, 3) := by decide +kernel
theorem dX10_append_43 : decode cX10_append 43 = .ok (.iinc 2 (-8), 3) := by decide +kernel
theorem dX10_append_46 : decode cX10_append 46 = .ok (.goto (-43), 3) := by decide +kernel
theorem dX10_append_49 : decode cX10_append 49 = .ok (.return_, 1) := by decide +kernel
theorem dX10_isDigit_0 : decode cX10_isDigit 0 = .ok (.iload_n 0, 1) := by decide +kernel
theorem dX10_isDigit_1 : decode cX10_isDigit 1 = .ok (.bipush 48, 2) := by decide +kernel
theorem dX10_isDigit_3 : decode cX10_isDigit 3 = .ok (.if_icmp .lt 13, 3) := by decide +kernel
theorem dX10_isDigit_6 : decode cX10_isDigit 6 = .ok (.iload_n 0, 1) := by decide +kernel
theorem dX10_isDigit_7 : decode cX10_isDigit 7 = .ok (.bipush 57, 2) := by decide +kernel
theorem dX10_isDigit_9 : decode cX10_isDigit 9 = .ok (.if_icmp .gt 7, 3) := by decide +kernel
theorem dX10_isDigit_12 : decode cX10_isDigit 12 = .ok (.iconst 1, 1) := by decide +kernel
theorem dX10_isDigit_13 : decode cX10_isDigit 13 = .ok (.goto 4, 3) := by decide +kernel
theorem dX10_isDigit_16 : decode cX10_isDigit 16 = .ok (.iconst 0, 1) := by decide +kernel
theorem dX10_isDigit_17 : decode cX10_isDigit 17 = .ok (.ireturn, 1) := by decide +kernel
theorem dX10_isLetter_0 : decode cX10_isLetter 0 = .ok (.iload_n 0, 1) := by decide +kernel
theorem dX10_isLetter_1 : decode cX10_isLetter 1 = .ok (.bipush 97, 2) := by decide +kernel
theorem dX10_isLetter_3 : decode cX10_isLetter 3 = .ok (.if_icmp .lt 13, 3) := by decide +kernel
theorem dX10_isLetter_6 : decode cX10_isLetter 6 = .ok (.iload_n 0, 1) := by decide +kernel
theorem dX10_isLetter_7 : decode cX10_isLetter 7 = .ok (.bipush 122, 2) := by decide +kernel
theorem dX10_isLetter_9 : decode cX10_isLetter 9 = .ok (.if_icmp .gt 7, 3) := by decide +kernel
theorem dX10_isLetter_12 : decode cX10_isLetter 12 = .ok (.iconst 1, 1) := by decide +kernel
theorem dX10_isLetter_13 : decode cX10_isLetter 13 = .ok (.goto 4, 3) := by decide +kernel
theorem dX10_isLetter_16 : decode cX10_isLetter 16 = .ok (.iconst 0, 1) := by decide +kernel
theorem dX10_isLetter_17 : decode cX10_isLetter 17 = .ok (.ireturn, 1) := by decide +kernel
theorem dX10_kindOfWord_0 : decode cX10_kindOfWord 0 = .ok (.lload_n 0, 1) := by decide +kernel
theorem dX10_kindOfWord_1 : decode cX10_kindOfWord 1 = .ok (.ldc2_w 61, 3) := by decide +kernel
theorem dX10_kindOfWord_4 : decode cX10_kindOfWord 4 = .ok (.lcmp, 1) := by decide +kernel
theorem dX10_kindOfWord_5 : decode cX10_kindOfWord 5 = .ok (.ifCond .ne 5, 3) := by decide +kernel
theorem dX10_kindOfWord_8 : decode cX10_kindOfWord 8 = .ok (.iconst 4, 1) := by decide +kernel
theorem dX10_kindOfWord_9 : decode cX10_kindOfWord 9 = .ok (.ireturn, 1) := by decide +kernel
theorem dX10_kindOfWord_10 : decode cX10_kindOfWord 10 = .ok (.lload_n 0, 1) := by decide +kernel
theorem dX10_kindOfWord_11 : decode cX10_kindOfWord 11 = .ok (.ldc2_w 63, 3) := by decide +kernel
theorem dX10_kindOfWord_14 : decode cX10_kindOfWord 14 = .ok (.lcmp, 1) := by decide +kernel
theorem dX10_kindOfWord_15 : decode cX10_kindOfWord 15 = .ok (.ifCond .ne 5, 3) := by decide +kernel
theorem dX10_kindOfWord_18 : decode cX10_kindOfWord 18 = .ok (.iconst 5, 1) := by decide +kernel
theorem dX10_kindOfWord_19 : decode cX10_kindOfWord 19 = .ok (.ireturn, 1) := by decide +kernel
theorem dX10_kindOfWord_20 : decode cX10_kindOfWord 20 = .ok (.lload_n 0, 1) := by decide +kernel
theorem dX10_kindOfWord_21 : decode cX10_kindOfWord 21 = .ok (.ldc2_w 65, 3) := by decide +kernel
theorem dX10_kindOfWord_24 : decode cX10_kindOfWord 24 = .ok (.lcmp, 1) := by decide +kernel
theorem dX10_kindOfWord_25 : decode cX10_kindOfWord 25 = .ok (.ifCond .ne 6, 3) := by decide +kernel
theorem dX10_kindOfWord_28 : decode cX10_kindOfWord 28 = .ok (.bipush 6, 2) := by decide +kernel
theorem dX10_kindOfWord_30 : decode cX10_kindOfWord 30 = .ok (.ireturn, 1) := by decide +kernel
theorem dX10_kindOfWord_31 : decode cX10_kindOfWord 31 = .ok (.lload_n 0, 1) := by decide +kernel
theorem dX10_kindOfWord_32 : decode cX10_kindOfWord 32 = .ok (.ldc2_w 67, 3) := by decide +kernel
theorem dX10_kindOfWord_35 : decode cX10_kindOfWord 35 = .ok (.lcmp, 1) := by decide +kernel
theorem dX10_kindOfWord_36 : decode cX10_kindOfWord 36 = .ok (.ifCond .ne 6, 3) := by decide +kernel
theorem dX10_kindOfWord_39 : decode cX10_kindOfWord 39 = .ok (.bipush 7, 2) := by decide +kernel
theorem dX10_kindOfWord_41 : decode cX10_kindOfWord 41 = .ok (.ireturn, 1) := by decide +kernel
theorem dX10_kindOfWord_42 : decode cX10_kindOfWord 42 = .ok (.lload_n 0, 1) := by decide +kernel
theorem dX10_kindOfWord_43 : decode cX10_kindOfWord 43 = .ok (.ldc2_w 69, 3) := by decide +kernel
theorem dX10_kindOfWord_46 : decode cX10_kindOfWord 46 = .ok (.lcmp, 1) := by decide +kernel
theorem dX10_kindOfWord_47 : decode cX10_kindOfWord 47 = .ok (.ifCond .ne 6, 3) := by decide +kernel
theorem dX10_kindOfWord_50 : decode cX10_kindOfWord 50 = .ok (.bipush 8, 2) := by decide +kernel
theorem dX10_kindOfWord_52 : decode cX10_kindOfWord 52 = .ok (.ireturn, 1) := by decide +kernel
theorem dX10_kindOfWord_53 : decode cX10_kindOfWord 53 = .ok (.lload_n 0, 1) := by decide +kernel
theorem dX10_kindOfWord_54 : decode cX10_kindOfWord 54 = .ok (.ldc2_w 71, 3) := by decide +kernel
theorem dX10_kindOfWord_57 : decode cX10_kindOfWord 57 = .ok (.lcmp, 1) := by decide +kernel
theorem dX10_kindOfWord_58 : decode cX10_kindOfWord 58 = .ok (.ifCond .ne 6, 3) := by decide +kernel
theorem dX10_kindOfWord_61 : decode cX10_kindOfWord 61 = .ok (.bipush 9, 2) := by decide +kernel
theorem dX10_kindOfWord_63 : decode cX10_kindOfWord 63 = .ok (.ireturn, 1) := by decide +kernel
theorem dX10_kindOfWord_64 : decode cX10_kindOfWord 64 = .ok (.lload_n 0, 1) := by decide +kernel
theorem dX10_kindOfWord_65 : decode cX10_kindOfWord 65 = .ok (.ldc2_w 73, 3) := by decide +kernel
theorem dX10_kindOfWord_68 : decode cX10_kindOfWord 68 = .ok (.lcmp, 1) := by decide +kernel
theorem dX10_kindOfWord_69 : decode cX10_kindOfWord 69 = .ok (.ifCond .ne 6, 3) := by decide +kernel
theorem dX10_kindOfWord_72 : decode cX10_kindOfWord 72 = .ok (.bipush 10, 2) := by decide +kernel
theorem dX10_kindOfWord_74 : decode cX10_kindOfWord 74 = .ok (.ireturn, 1) := by decide +kernel
theorem dX10_kindOfWord_75 : decode cX10_kindOfWord 75 = .ok (.lload_n 0, 1) := by decide +kernel
theorem dX10_kindOfWord_76 : decode cX10_kindOfWord 76 = .ok (.ldc2_w 75, 3) := by decide +kernel
theorem dX10_kindOfWord_79 : decode cX10_kindOfWord 79 = .ok (.lcmp, 1) := by decide +kernel
theorem dX10_kindOfWord_80 : decode cX10_kindOfWord 80 = .ok (.ifCond .ne 8, 3) := by decide +kernel
theorem dX10_kindOfWord_83 : decode cX10_kindOfWord 83 = .ok (.bipush 11, 2) := by decide +kernel
theorem dX10_kindOfWord_85 : decode cX10_kindOfWord 85 = .ok (.goto 4, 3) := by decide +kernel
theorem dX10_kindOfWord_88 : decode cX10_kindOfWord 88 = .ok (.iconst 3, 1) := by decide +kernel
theorem dX10_kindOfWord_89 : decode cX10_kindOfWord 89 = .ok (.ireturn, 1) := by decide +kernel
theorem dX10_readFigure_0 : decode cX10_readFigure 0 = .ok (.aload_n 0, 1) := by decide +kernel
theorem dX10_readFigure_1 : decode cX10_readFigure 1 = .ok (.iconst 0, 1) := by decide +kernel
theorem dX10_readFigure_2 : decode cX10_readFigure 2 = .ok (.putfield 77, 3) := by decide +kernel
theorem dX10_readFigure_5 : decode cX10_readFigure 5 = .ok (.aload_n 0, 1) := by decide +kernel
theorem dX10_readFigure_6 : decode cX10_readFigure 6 = .ok (.getfield 19, 3) := by decide +kernel
theorem dX10_readFigure_9 : decode cX10_readFigure 9 = .ok (.aload_n 0, 1) := by decide +kernel
theorem dX10_readFigure_10 : decode cX10_readFigure 10 = .ok (.getfield 15, 3) := by decide +kernel
theorem dX10_readFigure_13 : decode cX10_readFigure 13 = .ok (.if_icmp .ge 68, 3) := by decide +kernel
theorem dX10_readFigure_16 : decode cX10_readFigure 16 = .ok (.aload_n 0, 1) := by decide +kernel
theorem dX10_readFigure_17 : decode cX10_readFigure 17 = .ok (.getfield 9, 3) := by decide +kernel
theorem dX10_readFigure_20 : decode cX10_readFigure 20 = .ok (.aload_n 0, 1) := by decide +kernel
theorem dX10_readFigure_21 : decode cX10_readFigure 21 = .ok (.getfield 19, 3) := by decide +kernel
theorem dX10_readFigure_24 : decode cX10_readFigure 24 = .ok (.iaload, 1) := by decide +kernel
theorem dX10_readFigure_25 : decode cX10_readFigure 25 = .ok (.bipush 48, 2) := by decide +kernel
theorem dX10_readFigure_27 : decode cX10_readFigure 27 = .ok (.if_icmp .lt 54, 3) := by decide +kernel
theorem dX10_readFigure_30 : decode cX10_readFigure 30 = .ok (.aload_n 0, 1) := by decide +kernel
theorem dX10_readFigure_31 : decode cX10_readFigure 31 = .ok (.getfield 9, 3) := by decide +kernel
theorem dX10_readFigure_34 : decode cX10_readFigure 34 = .ok (.aload_n 0, 1) := by decide +kernel
theorem dX10_readFigure_35 : decode cX10_readFigure 35 = .ok (.getfield 19, 3) := by decide +kernel
theorem dX10_readFigure_38 : decode cX10_readFigure 38 = .ok (.iaload, 1) := by decide +kernel
theorem dX10_readFigure_39 : decode cX10_readFigure 39 = .ok (.bipush 57, 2) := by decide +kernel
theorem dX10_readFigure_41 : decode cX10_readFigure 41 = .ok (.if_icmp .gt 40, 3) := by decide +kernel
theorem dX10_readFigure_44 : decode cX10_readFigure 44 = .ok (.aload_n 0, 1) := by decide +kernel
theorem dX10_readFigure_45 : decode cX10_readFigure 45 = .ok (.aload_n 0, 1) := by decide +kernel
theorem dX10_readFigure_46 : decode cX10_readFigure 46 = .ok (.getfield 77, 3) := by decide +kernel
theorem dX10_readFigure_49 : decode cX10_readFigure 49 = .ok (.bipush 10, 2) := by decide +kernel
theorem dX10_readFigure_51 : decode cX10_readFigure 51 = .ok (.imul, 1) := by decide +kernel
theorem dX10_readFigure_52 : decode cX10_readFigure 52 = .ok (.aload_n 0, 1) := by decide +kernel
theorem dX10_readFigure_53 : decode cX10_readFigure 53 = .ok (.getfield 9, 3) := by decide +kernel
theorem dX10_readFigure_56 : decode cX10_readFigure 56 = .ok (.aload_n 0, 1) := by decide +kernel
theorem dX10_readFigure_57 : decode cX10_readFigure 57 = .ok (.getfield 19, 3) := by decide +kernel
theorem dX10_readFigure_60 : decode cX10_readFigure 60 = .ok (.iaload, 1) := by decide +kernel
theorem dX10_readFigure_61 : decode cX10_readFigure 61 = .ok (.bipush 48, 2) := by decide +kernel
theorem dX10_readFigure_63 : decode cX10_readFigure 63 = .ok (.isub, 1) := by decide +kernel
theorem dX10_readFigure_64 : decode cX10_readFigure 64 = .ok (.iadd, 1) := by decide +kernel
theorem dX10_readFigure_65 : decode cX10_readFigure 65 = .ok (.putfield 77, 3) := by decide +kernel
theorem dX10_readFigure_68 : decode cX10_readFigure 68 = .ok (.aload_n 0, 1) := by decide +kernel
theorem dX10_readFigure_69 : decode cX10_readFigure 69 = .ok (.dup, 1) := by decide +kernel
theorem dX10_readFigure_70 : decode cX10_readFigure 70 = .ok (.getfield 19, 3) := by decide +kernel
theorem dX10_readFigure_73 : decode cX10_readFigure 73 = .ok (.iconst 1, 1) := by decide +kernel
theorem dX10_readFigure_74 : decode cX10_readFigure 74 = .ok (.iadd, 1) := by decide +kernel
theorem dX10_readFigure_75 : decode cX10_readFigure 75 = .ok (.putfield 19, 3) := by decide +kernel
theorem dX10_readFigure_78 : decode cX10_readFigure 78 = .ok (.goto (-73), 3) := by decide +kernel
theorem dX10_readFigure_81 : decode cX10_readFigure 81 = .ok (.return_, 1) := by decide +kernel
theorem dX10_readWord_0 : decode cX10_readWord 0 = .ok (.aload_n 0, 1) := by decide +kernel
theorem dX10_readWord_1 : decode cX10_readWord 1 = .ok (.lconst 0, 1) := by decide +kernel
theorem dX10_readWord_2 : decode cX10_readWord 2 = .ok (.putfield 41, 3) := by decide +kernel
theorem dX10_readWord_5 : decode cX10_readWord 5 = .ok (.aload_n 0, 1) := by decide +kernel
theorem dX10_readWord_6 : decode cX10_readWord 6 = .ok (.getfield 9, 3) := by decide +kernel
theorem dX10_readWord_9 : decode cX10_readWord 9 = .ok (.aload_n 0, 1) := by decide +kernel
theorem dX10_readWord_10 : decode cX10_readWord 10 = .ok (.getfield 19, 3) := by decide +kernel
theorem dX10_readWord_13 : decode cX10_readWord 13 = .ok (.iaload, 1) := by decide +kernel
theorem dX10_readWord_14 : decode cX10_readWord 14 = .ok (.istore_n 1, 1) := by decide +kernel
theorem dX10_readWord_15 : decode cX10_readWord 15 = .ok (.iload_n 1, 1) := by decide +kernel
theorem dX10_readWord_16 : decode cX10_readWord 16 = .ok (.bipush 97, 2) := by decide +kernel
theorem dX10_readWord_18 : decode cX10_readWord 18 = .ok (.if_icmp .lt 9, 3) := by decide +kernel
theorem dX10_readWord_21 : decode cX10_readWord 21 = .ok (.iload_n 1, 1) := by decide +kernel
theorem dX10_readWord_22 : decode cX10_readWord 22 = .ok (.bipush 122, 2) := by decide +kernel
theorem dX10_readWord_24 : decode cX10_readWord 24 = .ok (.if_icmp .le 15, 3) := by decide +kernel
theorem dX10_readWord_27 : decode cX10_readWord 27 = .ok (.iload_n 1, 1) := by decide +kernel
theorem dX10_readWord_28 : decode cX10_readWord 28 = .ok (.bipush 48, 2) := by decide +kernel
theorem dX10_readWord_30 : decode cX10_readWord 30 = .ok (.if_icmp .lt 62, 3) := by decide +kernel
theorem dX10_readWord_33 : decode cX10_readWord 33 = .ok (.iload_n 1, 1) := by decide +kernel
theorem dX10_readWord_34 : decode cX10_readWord 34 = .ok (.bipush 57, 2) := by decide +kernel
theorem dX10_readWord_36 : decode cX10_readWord 36 = .ok (.if_icmp .gt 56, 3) := by decide +kernel
theorem dX10_readWord_39 : decode cX10_readWord 39 = .ok (.aload_n 0, 1) := by decide +kernel
theorem dX10_readWord_40 : decode cX10_readWord 40 = .ok (.aload_n 0, 1) := by decide +kernel
theorem dX10_readWord_41 : decode cX10_readWord 41 = .ok (.getfield 41, 3) := by decide +kernel
theorem dX10_readWord_44 : decode cX10_readWord 44 = .ok (.ldc2_w 59, 3) := by decide +kernel
theorem dX10_readWord_47 : decode cX10_readWord 47 = .ok (.lmul, 1) := by decide +kernel
theorem dX10_readWord_48 : decode cX10_readWord 48 = .ok (.iload_n 1, 1) := by decide +kernel
theorem dX10_readWord_49 : decode cX10_readWord 49 = .ok (.i2l, 1) := by decide +kernel
theorem dX10_readWord_50 : decode cX10_readWord 50 = .ok (.ladd, 1) := by decide +kernel
theorem dX10_readWord_51 : decode cX10_readWord 51 = .ok (.putfield 41, 3) := by decide +kernel
theorem dX10_readWord_54 : decode cX10_readWord 54 = .ok (.aload_n 0, 1) := by decide +kernel
theorem dX10_readWord_55 : decode cX10_readWord 55 = .ok (.dup, 1) := by decide +kernel
theorem dX10_readWord_56 : decode cX10_readWord 56 = .ok (.getfield 19, 3) := by decide +kernel
theorem dX10_readWord_59 : decode cX10_readWord 59 = .ok (.iconst 1, 1) := by decide +kernel
theorem dX10_readWord_60 : decode cX10_readWord 60 = .ok (.iadd, 1) := by decide +kernel
theorem dX10_readWord_61 : decode cX10_readWord 61 = .ok (.putfield 19, 3) := by decide +kernel
theorem dX10_readWord_64 : decode cX10_readWord 64 = .ok (.aload_n 0, 1) := by decide +kernel
theorem dX10_readWord_65 : decode cX10_readWord 65 = .ok (.getfield 19, 3) := by decide +kernel
theorem dX10_readWord_68 : decode cX10_readWord 68 = .ok (.aload_n 0, 1) := by decide +kernel
theorem dX10_readWord_69 : decode cX10_readWord 69 = .ok (.getfield 15, 3) := by decide +kernel
theorem dX10_readWord_72 : decode cX10_readWord 72 = .ok (.if_icmp .ge 15, 3) := by decide +kernel
theorem dX10_readWord_75 : decode cX10_readWord 75 = .ok (.aload_n 0, 1) := by decide +kernel
theorem dX10_readWord_76 : decode cX10_readWord 76 = .ok (.getfield 9, 3) := by decide +kernel
theorem dX10_readWord_79 : decode cX10_readWord 79 = .ok (.aload_n 0, 1) := by decide +kernel
theorem dX10_readWord_80 : decode cX10_readWord 80 = .ok (.getfield 19, 3) := by decide +kernel
theorem dX10_readWord_83 : decode cX10_readWord 83 = .ok (.iaload, 1) := by decide +kernel
theorem dX10_readWord_84 : decode cX10_readWord 84 = .ok (.goto 4, 3) := by decide +kernel
theorem dX10_readWord_87 : decode cX10_readWord 87 = .ok (.iconst 0, 1) := by decide +kernel
theorem dX10_readWord_88 : decode cX10_readWord 88 = .ok (.istore_n 1, 1) := by decide +kernel
theorem dX10_readWord_89 : decode cX10_readWord 89 = .ok (.goto (-74), 3) := by decide +kernel
theorem dX10_readWord_92 : decode cX10_readWord 92 = .ok (.return_, 1) := by decide +kernel
theorem dX6_clear_0 : decode cX6_clear 0 = .ok (.aload_n 0, 1) := by decide +kernel
theorem dX6_clear_1 : decode cX6_clear 1 = .ok (.iconst 0, 1) := by decide +kernel
theorem dX6_clear_2 : decode cX6_clear 2 = .ok (.putfield 43, 3) := by decide +kernel
theorem dX6_clear_5 : decode cX6_clear 5 = .ok (.aload_n 0, 1) := by decide +kernel
theorem dX6_clear_6 : decode cX6_clear 6 = .ok (.iconst 0, 1) := by decide +kernel
theorem dX6_clear_7 : decode cX6_clear 7 = .ok (.putfield 47, 3) := by decide +kernel
theorem dX6_clear_10 : decode cX6_clear 10 = .ok (.aload_n 0, 1) := by decide +kernel
theorem dX6_clear_11 : decode cX6_clear 11 = .ok (.iconst 0, 1) := by decide +kernel
theorem dX6_clear_12 : decode cX6_clear 12 = .ok (.putfield 50, 3) := by decide +kernel
theorem dX6_clear_15 : decode cX6_clear 15 = .ok (.return_, 1) := by decide +kernel
theorem dX6_emit_0 : decode cX6_emit 0 = .ok (.aload_n 0, 1) := by decide +kernel
theorem dX6_emit_1 : decode cX6_emit 1 = .ok (.getfield 47, 3) := by decide +kernel
theorem dX6_emit_4 : decode cX6_emit 4 = .ok (.sipush 3200, 3) := by decide +kernel
theorem dX6_emit_7 : decode cX6_emit 7 = .ok (.if_icmp .ge 43, 3) := by decide +kernel
theorem dX6_emit_10 : decode cX6_emit 10 = .ok (.aload_n 0, 1) := by decide +kernel
theorem dX6_emit_11 : decode cX6_emit 11 = .ok (.getfield 31, 3) := by decide +kernel
theorem dX6_emit_14 : decode cX6_emit 14 = .ok (.aload_n 0, 1) := by decide +kernel
theorem dX6_emit_15 : decode cX6_emit 15 = .ok (.getfield 47, 3) := by decide +kernel
theorem dX6_emit_18 : decode cX6_emit 18 = .ok (.iload_n 1, 1) := by decide +kernel
theorem dX6_emit_19 : decode cX6_emit 19 = .ok (.iastore, 1) := by decide +kernel
theorem dX6_emit_20 : decode cX6_emit 20 = .ok (.aload_n 0, 1) := by decide +kernel
theorem dX6_emit_21 : decode cX6_emit 21 = .ok (.getfield 34, 3) := by decide +kernel
theorem dX6_emit_24 : decode cX6_emit 24 = .ok (.aload_n 0, 1) := by decide +kernel
theorem dX6_emit_25 : decode cX6_emit 25 = .ok (.getfield 47, 3) := by decide +kernel
theorem dX6_emit_28 : decode cX6_emit 28 = .ok (.iload_n 2, 1) := by decide +kernel
theorem dX6_emit_29 : decode cX6_emit 29 = .ok (.iastore, 1) := by decide +kernel
theorem dX6_emit_30 : decode cX6_emit 30 = .ok (.aload_n 0, 1) := by decide +kernel
theorem dX6_emit_31 : decode cX6_emit 31 = .ok (.getfield 37, 3) := by decide +kernel
theorem dX6_emit_34 : decode cX6_emit 34 = .ok (.aload_n 0, 1) := by decide +kernel
theorem dX6_emit_35 : decode cX6_emit 35 = .ok (.getfield 47, 3) := by decide +kernel
theorem dX6_emit_38 : decode cX6_emit 38 = .ok (.iload_n 3, 1) := by decide +kernel
theorem dX6_emit_39 : decode cX6_emit 39 = .ok (.iastore, 1) := by decide +kernel
theorem dX6_emit_40 : decode cX6_emit 40 = .ok (.aload_n 0, 1) := by decide +kernel
theorem dX6_emit_41 : decode cX6_emit 41 = .ok (.dup, 1) := by decide +kernel
theorem dX6_emit_42 : decode cX6_emit 42 = .ok (.getfield 47, 3) := by decide +kernel
theorem dX6_emit_45 : decode cX6_emit 45 = .ok (.iconst 1, 1) := by decide +kernel
theorem dX6_emit_46 : decode cX6_emit 46 = .ok (.iadd, 1) := by decide +kernel
theorem dX6_emit_47 : decode cX6_emit 47 = .ok (.putfield 47, 3) := by decide +kernel
theorem dX6_emit_50 : decode cX6_emit 50 = .ok (.return_, 1) := by decide +kernel
theorem dX6_find_0 : decode cX6_find 0 = .ok (.iconst 0, 1) := by decide +kernel
theorem dX6_find_1 : decode cX6_find 1 = .ok (.istore 4, 2) := by decide +kernel
theorem dX6_find_3 : decode cX6_find 3 = .ok (.iload 4, 2) := by decide +kernel
theorem dX6_find_5 : decode cX6_find 5 = .ok (.iload_n 3, 1) := by decide +kernel
theorem dX6_find_6 : decode cX6_find 6 = .ok (.if_icmp .ge 24, 3) := by decide +kernel
theorem dX6_find_9 : decode cX6_find 9 = .ok (.aload_n 0, 1) := by decide +kernel
theorem dX6_find_10 : decode cX6_find 10 = .ok (.getfield 9, 3) := by decide +kernel
theorem dX6_find_13 : decode cX6_find 13 = .ok (.iload 4, 2) := by decide +kernel
theorem dX6_find_15 : decode cX6_find 15 = .ok (.laload, 1) := by decide +kernel
theorem dX6_find_16 : decode cX6_find 16 = .ok (.lload_n 1, 1) := by decide +kernel
theorem dX6_find_17 : decode cX6_find 17 = .ok (.lcmp, 1) := by decide +kernel
theorem dX6_find_18 : decode cX6_find 18 = .ok (.ifCond .ne 6, 3) := by decide +kernel
theorem dX6_find_21 : decode cX6_find 21 = .ok (.iload 4, 2) := by decide +kernel
theorem dX6_find_23 : decode cX6_find 23 = .ok (.ireturn, 1) := by decide +kernel
theorem dX6_find_24 : decode cX6_find 24 = .ok (.iinc 4 1, 3) := by decide +kernel
theorem dX6_find_27 : decode cX6_find 27 = .ok (.goto (-24), 3) := by decide +kernel
theorem dX6_find_30 : decode cX6_find 30 = .ok (.iconst (-1), 1) := by decide +kernel
theorem dX6_find_31 : decode cX6_find 31 = .ok (.ireturn, 1) := by decide +kernel
theorem dX6_newLabel_0 : decode cX6_newLabel 0 = .ok (.aload_n 0, 1) := by decide +kernel
theorem dX6_newLabel_1 : decode cX6_newLabel 1 = .ok (.getfield 50, 3) := by decide +kernel
theorem dX6_newLabel_4 : decode cX6_newLabel 4 = .ok (.sipush 640, 3) := by decide +kernel
theorem dX6_newLabel_7 : decode cX6_newLabel 7 = .ok (.if_icmp .ge 13, 3) := by decide +kernel
theorem dX6_newLabel_10 : decode cX6_newLabel 10 = .ok (.aload_n 0, 1) := by decide +kernel
theorem dX6_newLabel_11 : decode cX6_newLabel 11 = .ok (.dup, 1) := by decide +kernel
theorem dX6_newLabel_12 : decode cX6_newLabel 12 = .ok (.getfield 50, 3) := by decide +kernel
theorem dX6_newLabel_15 : decode cX6_newLabel 15 = .ok (.iconst 1, 1) := by decide +kernel
theorem dX6_newLabel_16 : decode cX6_newLabel 16 = .ok (.iadd, 1) := by decide +kernel
theorem dX6_newLabel_17 : decode cX6_newLabel 17 = .ok (.putfield 50, 3) := by decide +kernel
theorem dX6_newLabel_20 : decode cX6_newLabel 20 = .ok (.aload_n 0, 1) := by decide +kernel
theorem dX6_newLabel_21 : decode cX6_newLabel 21 = .ok (.getfield 50, 3) := by decide +kernel
theorem dX6_newLabel_24 : decode cX6_newLabel 24 = .ok (.iconst 1, 1) := by decide +kernel
theorem dX6_newLabel_25 : decode cX6_newLabel 25 = .ok (.isub, 1) := by decide +kernel
theorem dX6_newLabel_26 : decode cX6_newLabel 26 = .ok (.ireturn, 1) := by decide +kernel
theorem dX6_newVariable_0 : decode cX6_newVariable 0 = .ok (.aload_n 0, 1) := by decide +kernel
theorem dX6_newVariable_1 : decode cX6_newVariable 1 = .ok (.getfield 22, 3) := by decide +kernel
theorem dX6_newVariable_4 : decode cX6_newVariable 4 = .ok (.iload_n 1, 1) := by decide +kernel
theorem dX6_newVariable_5 : decode cX6_newVariable 5 = .ok (.iaload, 1) := by decide +kernel
theorem dX6_newVariable_6 : decode cX6_newVariable 6 = .ok (.sipush 320, 3) := by decide +kernel
theorem dX6_newVariable_9 : decode cX6_newVariable 9 = .ok (.if_icmp .ge 13, 3) := by decide +kernel
theorem dX6_newVariable_12 : decode cX6_newVariable 12 = .ok (.aload_n 0, 1) := by decide +kernel
theorem dX6_newVariable_13 : decode cX6_newVariable 13 = .ok (.getfield 22, 3) := by decide +kernel
theorem dX6_newVariable_16 : decode cX6_newVariable 16 = .ok (.iload_n 1, 1) := by decide +kernel
theorem dX6_newVariable_17 : decode cX6_newVariable 17 = .ok (.dup2, 1) := by decide +kernel
theorem dX6_newVariable_18 : decode cX6_newVariable 18 = .ok (.iaload, 1) := by decide +kernel
theorem dX6_newVariable_19 : decode cX6_newVariable 19 = .ok (.iconst 1, 1) := by decide +kernel
theorem dX6_newVariable_20 : decode cX6_newVariable 20 = .ok (.iadd, 1) := by decide +kernel
theorem dX6_newVariable_21 : decode cX6_newVariable 21 = .ok (.iastore, 1) := by decide +kernel
theorem dX6_newVariable_22 : decode cX6_newVariable 22 = .ok (.aload_n 0, 1) := by decide +kernel
theorem dX6_newVariable_23 : decode cX6_newVariable 23 = .ok (.getfield 22, 3) := by decide +kernel
theorem dX6_newVariable_26 : decode cX6_newVariable 26 = .ok (.iload_n 1, 1) := by decide +kernel
theorem dX6_newVariable_27 : decode cX6_newVariable 27 = .ok (.iaload, 1) := by decide +kernel
theorem dX6_newVariable_28 : decode cX6_newVariable 28 = .ok (.iconst 1, 1) := by decide +kernel
theorem dX6_newVariable_29 : decode cX6_newVariable 29 = .ok (.isub, 1) := by decide +kernel
theorem dX6_newVariable_30 : decode cX6_newVariable 30 = .ok (.ireturn, 1) := by decide +kernel
theorem dX6_putLabel_0 : decode cX6_putLabel 0 = .ok (.aload_n 0, 1) := by decide +kernel
theorem dX6_putLabel_1 : decode cX6_putLabel 1 = .ok (.getfield 40, 3) := by decide +kernel
theorem dX6_putLabel_4 : decode cX6_putLabel 4 = .ok (.iload_n 1, 1) := by decide +kernel
theorem dX6_putLabel_5 : decode cX6_putLabel 5 = .ok (.aload_n 0, 1) := by decide +kernel
theorem dX6_putLabel_6 : decode cX6_putLabel 6 = .ok (.getfield 47, 3) := by decide +kernel
theorem dX6_putLabel_9 : decode cX6_putLabel 9 = .ok (.iastore, 1) := by decide +kernel
theorem dX6_putLabel_10 : decode cX6_putLabel 10 = .ok (.aload_n 0, 1) := by decide +kernel
theorem dX6_putLabel_11 : decode cX6_putLabel 11 = .ok (.bipush 35, 2) := by decide +kernel
theorem dX6_putLabel_13 : decode cX6_putLabel 13 = .ok (.iload_n 1, 1) := by decide +kernel
theorem dX6_putLabel_14 : decode cX6_putLabel 14 = .ok (.iconst 0, 1) := by decide +kernel
theorem dX6_putLabel_15 : decode cX6_putLabel 15 = .ok (.invokevirtual 53, 3) := by decide +kernel
theorem dX6_putLabel_18 : decode cX6_putLabel 18 = .ok (.return_, 1) := by decide +kernel
theorem dX6_tick_0 : decode cX6_tick 0 = .ok (.iload_n 1, 1) := by decide +kernel
theorem dX6_tick_1 : decode cX6_tick 1 = .ok (.sipush 3200, 3) := by decide +kernel
theorem dX6_tick_4 : decode cX6_tick 4 = .ok (.if_icmp .ge 13, 3) := by decide +kernel
theorem dX6_tick_7 : decode cX6_tick 7 = .ok (.aload_n 0, 1) := by decide +kernel
theorem dX6_tick_8 : decode cX6_tick 8 = .ok (.getfield 37, 3) := by decide +kernel
theorem dX6_tick_11 : decode cX6_tick 11 = .ok (.iload_n 1, 1) := by decide +kernel
theorem dX6_tick_12 : decode cX6_tick 12 = .ok (.dup2, 1) := by decide +kernel
theorem dX6_tick_13 : decode cX6_tick 13 = .ok (.iaload, 1) := by decide +kernel
theorem dX6_tick_14 : decode cX6_tick 14 = .ok (.iconst 1, 1) := by decide +kernel
theorem dX6_tick_15 : decode cX6_tick 15 = .ok (.iadd, 1) := by decide +kernel
theorem dX6_tick_16 : decode cX6_tick 16 = .ok (.iastore, 1) := by decide +kernel
theorem dX6_tick_17 : decode cX6_tick 17 = .ok (.return_, 1) := by decide +kernel
theorem dX7_blame_0 : decode cX7_blame 0 = .ok (.aload_n 0, 1) := by decide +kernel
theorem dX7_blame_1 : decode cX7_blame 1 = .ok (.getfield 57, 3) := by decide +kernel
theorem dX7_blame_4 : decode cX7_blame 4 = .ok (.ifCond .eq 27, 3) := by decide +kernel
theorem dX7_blame_7 : decode cX7_blame 7 = .ok (.iload_n 2, 1) := by decide +kernel
theorem dX7_blame_8 : decode cX7_blame 8 = .ok (.aload_n 0, 1) := by decide +kernel
theorem dX7_blame_9 : decode cX7_blame 9 = .ok (.getfield 60, 3) := by decide +kernel
theorem dX7_blame_12 : decode cX7_blame 12 = .ok (.if_icmp .lt 19, 3) := by decide +kernel
theorem dX7_blame_15 : decode cX7_blame 15 = .ok (.iload_n 2, 1) := by decide +kernel
theorem dX7_blame_16 : decode cX7_blame 16 = .ok (.aload_n 0, 1) := by decide +kernel
theorem dX7_blame_17 : decode cX7_blame 17 = .ok (.getfield 60, 3) := by decide +kernel
theorem dX7_blame_20 : decode cX7_blame 20 = .ok (.if_icmp .ne 21, 3) := by decide +kernel
theorem dX7_blame_23 : decode cX7_blame 23 = .ok (.iload_n 1, 1) := by decide +kernel
theorem dX7_blame_24 : decode cX7_blame 24 = .ok (.aload_n 0, 1) := by decide +kernel
theorem dX7_blame_25 : decode cX7_blame 25 = .ok (.getfield 57, 3) := by decide +kernel
theorem dX7_blame_28 : decode cX7_blame 28 = .ok (.if_icmp .ge 13, 3) := by decide +kernel
theorem dX7_blame_31 : decode cX7_blame 31 = .ok (.aload_n 0, 1) := by decide +kernel
theorem dX7_blame_32 : decode cX7_blame 32 = .ok (.iload_n 1, 1) := by decide +kernel
theorem dX7_blame_33 : decode cX7_blame 33 = .ok (.putfield 57, 3) := by decide +kernel
theorem dX7_blame_36 : decode cX7_blame 36 = .ok (.aload_n 0, 1) := by decide +kernel
theorem dX7_blame_37 : decode cX7_blame 37 = .ok (.iload_n 2, 1) := by decide +kernel
theorem dX7_blame_38 : decode cX7_blame 38 = .ok (.putfield 60, 3) := by decide +kernel
theorem dX7_blame_41 : decode cX7_blame 41 = .ok (.return_, 1) := by decide +kernel
theorem dX7_declare_0 : decode cX7_declare 0 = .ok (.aload_n 0, 1) := by decide +kernel
theorem dX7_declare_1 : decode cX7_declare 1 = .ok (.getfield 41, 3) := by decide +kernel
theorem dX7_declare_4 : decode cX7_declare 4 = .ok (.aload_n 0, 1) := by decide +kernel
theorem dX7_declare_5 : decode cX7_declare 5 = .ok (.getfield 89, 3) := by decide +kernel
theorem dX7_declare_8 : decode cX7_declare 8 = .ok (.invokevirtual 217, 3) := by decide +kernel
theorem dX7_declare_11 : decode cX7_declare 11 = .ok (.istore_n 3, 1) := by decide +kernel
theorem dX7_declare_12 : decode cX7_declare 12 = .ok (.aload_n 0, 1) := by decide +kernel
theorem dX7_declare_13 : decode cX7_declare 13 = .ok (.getfield 92, 3) := by decide +kernel
theorem dX7_declare_16 : decode cX7_declare 16 = .ok (.sipush 320, 3) := by decide +kernel
theorem dX7_declare_19 : decode cX7_declare 19 = .ok (.if_icmp .ge 33, 3) := by decide +kernel
theorem dX7_declare_22 : decode cX7_declare 22 = .ok (.aload_n 0, 1) := by decide +kernel
theorem dX7_declare_23 : decode cX7_declare 23 = .ok (.getfield 9, 3) := by decide +kernel
theorem dX7_declare_26 : decode cX7_declare 26 = .ok (.aload_n 0, 1) := by decide +kernel
theorem dX7_declare_27 : decode cX7_declare 27 = .ok (.getfield 92, 3) := by decide +kernel
theorem dX7_declare_30 : decode cX7_declare 30 = .ok (.lload_n 1, 1) := by decide +kernel
theorem dX7_declare_31 : decode cX7_declare 31 = .ok (.lastore, 1) := by decide +kernel
theorem dX7_declare_32 : decode cX7_declare 32 = .ok (.aload_n 0, 1) := by decide +kernel
theorem dX7_declare_33 : decode cX7_declare 33 = .ok (.getfield 15, 3) := by decide +kernel
theorem dX7_declare_36 : decode cX7_declare 36 = .ok (.aload_n 0, 1) := by decide +kernel
theorem dX7_declare_37 : decode cX7_declare 37 = .ok (.getfield 92, 3) := by decide +kernel
theorem dX7_declare_40 : decode cX7_declare 40 = .ok (.iload_n 3, 1) := by decide +kernel
theorem dX7_declare_41 : decode cX7_declare 41 = .ok (.iastore, 1) := by decide +kernel
theorem dX7_declare_42 : decode cX7_declare 42 = .ok (.aload_n 0, 1) := by decide +kernel
theorem dX7_declare_43 : decode cX7_declare 43 = .ok (.dup, 1) := by decide +kernel
theorem dX7_declare_44 : decode cX7_declare 44 = .ok (.getfield 92, 3) := by decide +kernel
theorem dX7_declare_47 : decode cX7_declare 47 = .ok (.iconst 1, 1) := by decide +kernel
theorem dX7_declare_48 : decode cX7_declare 48 = .ok (.iadd, 1) := by decide +kernel
theorem dX7_declare_49 : decode cX7_declare 49 = .ok (.putfield 92, 3) := by decide +kernel
theorem dX7_declare_52 : decode cX7_declare 52 = .ok (.iload_n 3, 1) := by decide +kernel
theorem dX7_declare_53 : decode cX7_declare 53 = .ok (.ireturn, 1) := by decide +kernel
theorem dX7_emitTruth_0 : decode cX7_emitTruth 0 = .ok (.aload_n 0, 1) := by decide +kernel
theorem dX7_emitTruth_1 : decode cX7_emitTruth 1 = .ok (.getfield 41, 3) := by decide +kernel
theorem dX7_emitTruth_4 : decode cX7_emitTruth 4 = .ok (.iconst 0, 1) := by decide +kernel
theorem dX7_emitTruth_5 : decode cX7_emitTruth 5 = .ok (.iconst 0, 1) := by decide +kernel
theorem dX7_emitTruth_6 : decode cX7_emitTruth 6 = .ok (.iconst 0, 1) := by decide +kernel
theorem dX7_emitTruth_7 : decode cX7_emitTruth 7 = .ok (.invokevirtual 139, 3) := by decide +kernel
theorem dX7_emitTruth_10 : decode cX7_emitTruth 10 = .ok (.aload_n 0, 1) := by decide +kernel
theorem dX7_emitTruth_11 : decode cX7_emitTruth 11 = .ok (.getfield 41, 3) := by decide +kernel
theorem dX7_emitTruth_14 : decode cX7_emitTruth 14 = .ok (.bipush 16, 2) := by decide +kernel
theorem dX7_emitTruth_16 : decode cX7_emitTruth 16 = .ok (.iconst 0, 1) := by decide +kernel
theorem dX7_emitTruth_17 : decode cX7_emitTruth 17 = .ok (.iconst 0, 1) := by decide +kernel
theorem dX7_emitTruth_18 : decode cX7_emitTruth 18 = .ok (.invokevirtual 139, 3) := by decide +kernel
theorem dX7_emitTruth_21 : decode cX7_emitTruth 21 = .ok (.return_, 1) := by decide +kernel
theorem dX7_kindOfSign_0 : decode cX7_kindOfSign 0 = .ok (.iload_n 0, 1) := by decide +kernel
theorem dX7_kindOfSign_1 : decode cX7_kindOfSign 1 = .ok (.lookupswitch 182 #[(37, 147), (38, 149), (42, 143), (43, 139), (45, 141), (47, 145), (60, 164), (62, 170), (94, 155), (124, 152), (316, 158), (318, 161), (545, 179), (572, 167), (573, 176), (574, 173)], 139) := by decide +kernel
theorem dX7_kindOfSign_140 : decode cX7_kindOfSign 140 = .ok (.iconst 1, 1) := by decide +kernel
theorem dX7_kindOfSign_141 : decode cX7_kindOfSign 141 = .ok (.ireturn, 1) := by decide +kernel
theorem dX7_kindOfSign_142 : decode cX7_kindOfSign 142 = .ok (.iconst 2, 1) := by decide +kernel
theorem dX7_kindOfSign_143 : decode cX7_kindOfSign 143 = .ok (.ireturn, 1) := by decide +kernel
theorem dX7_kindOfSign_144 : decode cX7_kindOfSign 144 = .ok (.iconst 3, 1) := by decide +kernel
theorem dX7_kindOfSign_145 : decode cX7_kindOfSign 145 = .ok (.ireturn, 1) := by decide +kernel
theorem dX7_kindOfSign_146 : decode cX7_kindOfSign 146 = .ok (.iconst 4, 1) := by decide +kernel
theorem dX7_kindOfSign_147 : decode cX7_kindOfSign 147 = .ok (.ireturn, 1) := by decide +kernel
theorem dX7_kindOfSign_148 : decode cX7_kindOfSign 148 = .ok (.iconst 5, 1) := by decide +kernel
theorem dX7_kindOfSign_149 : decode cX7_kindOfSign 149 = .ok (.ireturn, 1) := by decide +kernel
theorem dX7_kindOfSign_150 : decode cX7_kindOfSign 150 = .ok (.bipush 6, 2) := by decide +kernel
theorem dX7_kindOfSign_152 : decode cX7_kindOfSign 152 = .ok (.ireturn, 1) := by decide +kernel
theorem dX7_kindOfSign_153 : decode cX7_kindOfSign 153 = .ok (.bipush 7, 2) := by decide +kernel
theorem dX7_kindOfSign_155 : decode cX7_kindOfSign 155 = .ok (.ireturn, 1) := by decide +kernel
theorem dX7_kindOfSign_156 : decode cX7_kindOfSign 156 = .ok (.bipush 8, 2) := by decide +kernel
theorem dX7_kindOfSign_158 : decode cX7_kindOfSign 158 = .ok (.ireturn, 1) := by decide +kernel
theorem dX7_kindOfSign_159 : decode cX7_kindOfSign 159 = .ok (.bipush 9, 2) := by decide +kernel
theorem dX7_kindOfSign_161 : decode cX7_kindOfSign 161 = .ok (.ireturn, 1) := by decide +kernel
theorem dX7_kindOfSign_162 : decode cX7_kindOfSign 162 = .ok (.bipush 10, 2) := by decide +kernel
theorem dX7_kindOfSign_164 : decode cX7_kindOfSign 164 = .ok (.ireturn, 1) := by decide +kernel
theorem dX7_kindOfSign_165 : decode cX7_kindOfSign 165 = .ok (.bipush 11, 2) := by decide +kernel
theorem dX7_kindOfSign_167 : decode cX7_kindOfSign 167 = .ok (.ireturn, 1) := by decide +kernel
theorem dX7_kindOfSign_168 : decode cX7_kindOfSign 168 = .ok (.bipush 12, 2) := by decide +kernel
theorem dX7_kindOfSign_170 : decode cX7_kindOfSign 170 = .ok (.ireturn, 1) := by decide +kernel
theorem dX7_kindOfSign_171 : decode cX7_kindOfSign 171 = .ok (.bipush 13, 2) := by decide +kernel
theorem dX7_kindOfSign_173 : decode cX7_kindOfSign 173 = .ok (.ireturn, 1) := by decide +kernel
theorem dX7_kindOfSign_174 : decode cX7_kindOfSign 174 = .ok (.bipush 14, 2) := by decide +kernel
theorem dX7_kindOfSign_176 : decode cX7_kindOfSign 176 = .ok (.ireturn, 1) := by decide +kernel
theorem dX7_kindOfSign_177 : decode cX7_kindOfSign 177 = .ok (.bipush 15, 2) := by decide +kernel
theorem dX7_kindOfSign_179 : decode cX7_kindOfSign 179 = .ok (.ireturn, 1) := by decide +kernel
theorem dX7_kindOfSign_180 : decode cX7_kindOfSign 180 = .ok (.bipush 16, 2) := by decide +kernel
theorem dX7_kindOfSign_182 : decode cX7_kindOfSign 182 = .ok (.ireturn, 1) := by decide +kernel
theorem dX7_kindOfSign_183 : decode cX7_kindOfSign 183 = .ok (.iconst (-1), 1) := by decide +kernel
theorem dX7_kindOfSign_184 : decode cX7_kindOfSign 184 = .ok (.ireturn, 1) := by decide +kernel
theorem dX7_linkCalls_0 : decode cX7_linkCalls 0 = .ok (.iconst 0, 1) := by decide +kernel
theorem dX7_linkCalls_1 : decode cX7_linkCalls 1 = .ok (.istore_n 1, 1) := by decide +kernel
theorem dX7_linkCalls_2 : decode cX7_linkCalls 2 = .ok (.iload_n 1, 1) := by decide +kernel
theorem dX7_linkCalls_3 : decode cX7_linkCalls 3 = .ok (.aload_n 0, 1) := by decide +kernel
theorem dX7_linkCalls_4 : decode cX7_linkCalls 4 = .ok (.getfield 63, 3) := by decide +kernel
theorem dX7_linkCalls_7 : decode cX7_linkCalls 7 = .ok (.if_icmp .ge 107, 3) := by decide +kernel
theorem dX7_linkCalls_10 : decode cX7_linkCalls 10 = .ok (.aload_n 0, 1) := by decide +kernel
theorem dX7_linkCalls_11 : decode cX7_linkCalls 11 = .ok (.getfield 41, 3) := by decide +kernel
theorem dX7_linkCalls_14 : decode cX7_linkCalls 14 = .ok (.aload_n 0, 1) := by decide +kernel
theorem dX7_linkCalls_15 : decode cX7_linkCalls 15 = .ok (.getfield 25, 3) := by decide +kernel
theorem dX7_linkCalls_18 : decode cX7_linkCalls 18 = .ok (.iload_n 1, 1) := by decide +kernel
theorem dX7_linkCalls_19 : decode cX7_linkCalls 19 = .ok (.laload, 1) := by decide +kernel
theorem dX7_linkCalls_20 : decode cX7_linkCalls 20 = .ok (.aload_n 0, 1) := by decide +kernel
theorem dX7_linkCalls_21 : decode cX7_linkCalls 21 = .ok (.getfield 41, 3) := by decide +kernel
theorem dX7_linkCalls_24 : decode cX7_linkCalls 24 = .ok (.getfield 118, 3) := by decide +kernel
theorem dX7_linkCalls_27 : decode cX7_linkCalls 27 = .ok (.invokevirtual 105, 3) := by decide +kernel
theorem dX7_linkCalls_30 : decode cX7_linkCalls 30 = .ok (.istore_n 2, 1) := by decide +kernel
theorem dX7_linkCalls_31 : decode cX7_linkCalls 31 = .ok (.iload_n 2, 1) := by decide +kernel
theorem dX7_linkCalls_32 : decode cX7_linkCalls 32 = .ok (.ifCond .ge 17, 3) := by decide +kernel
theorem dX7_linkCalls_35 : decode cX7_linkCalls 35 = .ok (.aload_n 0, 1) := by decide +kernel
theorem dX7_linkCalls_36 : decode cX7_linkCalls 36 = .ok (.iconst 3, 1) := by decide +kernel
theorem dX7_linkCalls_37 : decode cX7_linkCalls 37 = .ok (.aload_n 0, 1) := by decide +kernel
theorem dX7_linkCalls_38 : decode cX7_linkCalls 38 = .ok (.getfield 31, 3) := by decide +kernel
theorem dX7_linkCalls_41 : decode cX7_linkCalls 41 = .ok (.iload_n 1, 1) := by decide +kernel
theorem dX7_linkCalls_42 : decode cX7_linkCalls 42 = .ok (.iaload, 1) := by decide +kernel
theorem dX7_linkCalls_43 : decode cX7_linkCalls 43 = .ok (.invokevirtual 109, 3) := by decide +kernel
theorem dX7_linkCalls_46 : decode cX7_linkCalls 46 = .ok (.goto 62, 3) := by decide +kernel
theorem dX7_linkCalls_49 : decode cX7_linkCalls 49 = .ok (.aload_n 0, 1) := by decide +kernel
theorem dX7_linkCalls_50 : decode cX7_linkCalls 50 = .ok (.getfield 34, 3) := by decide +kernel
theorem dX7_linkCalls_53 : decode cX7_linkCalls 53 = .ok (.iload_n 1, 1) := by decide +kernel
theorem dX7_linkCalls_54 : decode cX7_linkCalls 54 = .ok (.iaload, 1) := by decide +kernel
theorem dX7_linkCalls_55 : decode cX7_linkCalls 55 = .ok (.aload_n 0, 1) := by decide +kernel
theorem dX7_linkCalls_56 : decode cX7_linkCalls 56 = .ok (.getfield 41, 3) := by decide +kernel
theorem dX7_linkCalls_59 : decode cX7_linkCalls 59 = .ok (.getfield 121, 3) := by decide +kernel
theorem dX7_linkCalls_62 : decode cX7_linkCalls 62 = .ok (.iload_n 2, 1) := by decide +kernel
theorem dX7_linkCalls_63 : decode cX7_linkCalls 63 = .ok (.iaload, 1) := by decide +kernel
theorem dX7_linkCalls_64 : decode cX7_linkCalls 64 = .ok (.if_icmp .eq 17, 3) := by decide +kernel
theorem dX7_linkCalls_67 : decode cX7_linkCalls 67 = .ok (.aload_n 0, 1) := by decide +kernel
theorem dX7_linkCalls_68 : decode cX7_linkCalls 68 = .ok (.iconst 4, 1) := by decide +kernel
theorem dX7_linkCalls_69 : decode cX7_linkCalls 69 = .ok (.aload_n 0, 1) := by decide +kernel
theorem dX7_linkCalls_70 : decode cX7_linkCalls 70 = .ok (.getfield 31, 3) := by decide +kernel
theorem dX7_linkCalls_73 : decode cX7_linkCalls 73 = .ok (.iload_n 1, 1) := by decide +kernel
theorem dX7_linkCalls_74 : decode cX7_linkCalls 74 = .ok (.iaload, 1) := by decide +kernel
theorem dX7_linkCalls_75 : decode cX7_linkCalls 75 = .ok (.invokevirtual 109, 3) := by decide +kernel
theorem dX7_linkCalls_78 : decode cX7_linkCalls 78 = .ok (.goto 30, 3) := by decide +kernel
theorem dX7_linkCalls_81 : decode cX7_linkCalls 81 = .ok (.aload_n 0, 1) := by decide +kernel
theorem dX7_linkCalls_82 : decode cX7_linkCalls 82 = .ok (.getfield 28, 3) := by decide +kernel
theorem dX7_linkCalls_85 : decode cX7_linkCalls 85 = .ok (.iload_n 1, 1) := by decide +kernel
theorem dX7_linkCalls_86 : decode cX7_linkCalls 86 = .ok (.iaload, 1) := by decide +kernel
theorem dX7_linkCalls_87 : decode cX7_linkCalls 87 = .ok (.sipush 3200, 3) := by decide +kernel
theorem dX7_linkCalls_90 : decode cX7_linkCalls 90 = .ok (.if_icmp .ge 18, 3) := by decide +kernel
theorem dX7_linkCalls_93 : decode cX7_linkCalls 93 = .ok (.aload_n 0, 1) := by decide +kernel
theorem dX7_linkCalls_94 : decode cX7_linkCalls 94 = .ok (.getfield 41, 3) := by decide +kernel
theorem dX7_linkCalls_97 : decode cX7_linkCalls 97 = .ok (.getfield 233, 3) := by decide +kernel
theorem dX7_linkCalls_100 : decode cX7_linkCalls 100 = .ok (.aload_n 0, 1) := by decide +kernel
theorem dX7_linkCalls_101 : decode cX7_linkCalls 101 = .ok (.getfield 28, 3) := by decide +kernel
theorem dX7_linkCalls_104 : decode cX7_linkCalls 104 = .ok (.iload_n 1, 1) := by decide +kernel
theorem dX7_linkCalls_105 : decode cX7_linkCalls 105 = .ok (.iaload, 1) := by decide +kernel
theorem dX7_linkCalls_106 : decode cX7_linkCalls 106 = .ok (.iload_n 2, 1) := by decide +kernel
theorem dX7_linkCalls_107 : decode cX7_linkCalls 107 = .ok (.iastore, 1) := by decide +kernel
theorem dX7_linkCalls_108 : decode cX7_linkCalls 108 = .ok (.iinc 1 1, 3) := by decide +kernel
theorem dX7_linkCalls_111 : decode cX7_linkCalls 111 = .ok (.goto (-109), 3) := by decide +kernel
theorem dX7_linkCalls_114 : decode cX7_linkCalls 114 = .ok (.return_, 1) := by decide +kernel
theorem dX7_noteCall_0 : decode cX7_noteCall 0 = .ok (.aload_n 0, 1) := by decide +kernel
theorem dX7_noteCall_1 : decode cX7_noteCall 1 = .ok (.getfield 63, 3) := by decide +kernel
theorem dX7_noteCall_4 : decode cX7_noteCall 4 = .ok (.sipush 600, 3) := by decide +kernel
theorem dX7_noteCall_7 : decode cX7_noteCall 7 = .ok (.if_icmp .ge 60, 3) := by decide +kernel
theorem dX7_noteCall_10 : decode cX7_noteCall 10 = .ok (.aload_n 0, 1) := by decide +kernel
theorem dX7_noteCall_11 : decode cX7_noteCall 11 = .ok (.getfield 25, 3) := by decide +kernel
theorem dX7_noteCall_14 : decode cX7_noteCall 14 = .ok (.aload_n 0, 1) := by decide +kernel
theorem dX7_noteCall_15 : decode cX7_noteCall 15 = .ok (.getfield 63, 3) := by decide +kernel
theorem dX7_noteCall_18 : decode cX7_noteCall 18 = .ok (.lload_n 1, 1) := by decide +kernel
theorem dX7_noteCall_19 : decode cX7_noteCall 19 = .ok (.lastore, 1) := by decide +kernel
theorem dX7_noteCall_20 : decode cX7_noteCall 20 = .ok (.aload_n 0, 1) := by decide +kernel
theorem dX7_noteCall_21 : decode cX7_noteCall 21 = .ok (.getfield 28, 3) := by decide +kernel
theorem dX7_noteCall_24 : decode cX7_noteCall 24 = .ok (.aload_n 0, 1) := by decide +kernel
theorem dX7_noteCall_25 : decode cX7_noteCall 25 = .ok (.getfield 63, 3) := by decide +kernel
theorem dX7_noteCall_28 : decode cX7_noteCall 28 = .ok (.aload_n 0, 1) := by decide +kernel
theorem dX7_noteCall_29 : decode cX7_noteCall 29 = .ok (.getfield 41, 3) := by decide +kernel
theorem dX7_noteCall_32 : decode cX7_noteCall 32 = .ok (.getfield 130, 3) := by decide +kernel
theorem dX7_noteCall_35 : decode cX7_noteCall 35 = .ok (.iastore, 1) := by decide +kernel
theorem dX7_noteCall_36 : decode cX7_noteCall 36 = .ok (.aload_n 0, 1) := by decide +kernel
theorem dX7_noteCall_37 : decode cX7_noteCall 37 = .ok (.getfield 31, 3) := by decide +kernel
theorem dX7_noteCall_40 : decode cX7_noteCall 40 = .ok (.aload_n 0, 1) := by decide +kernel
theorem dX7_noteCall_41 : decode cX7_noteCall 41 = .ok (.getfield 63, 3) := by decide +kernel
theorem dX7_noteCall_44 : decode cX7_noteCall 44 = .ok (.iload_n 3, 1) := by decide +kernel
theorem dX7_noteCall_45 : decode cX7_noteCall 45 = .ok (.iastore, 1) := by decide +kernel
theorem dX7_noteCall_46 : decode cX7_noteCall 46 = .ok (.aload_n 0, 1) := by decide +kernel
theorem dX7_noteCall_47 : decode cX7_noteCall 47 = .ok (.getfield 34, 3) := by decide +kernel
theorem dX7_noteCall_50 : decode cX7_noteCall 50 = .ok (.aload_n 0, 1) := by decide +kernel
theorem dX7_noteCall_51 : decode cX7_noteCall 51 = .ok (.getfield 63, 3) := by decide +kernel
theorem dX7_noteCall_54 : decode cX7_noteCall 54 = .ok (.iload 4, 2) := by decide +kernel
theorem dX7_noteCall_56 : decode cX7_noteCall 56 = .ok (.iastore, 1) := by decide +kernel
theorem dX7_noteCall_57 : decode cX7_noteCall 57 = .ok (.aload_n 0, 1) := by decide +kernel
theorem dX7_noteCall_58 : decode cX7_noteCall 58 = .ok (.dup, 1) := by decide +kernel
theorem dX7_noteCall_59 : decode cX7_noteCall 59 = .ok (.getfield 63, 3) := by decide +kernel
theorem dX7_noteCall_62 : decode cX7_noteCall 62 = .ok (.iconst 1, 1) := by decide +kernel
theorem dX7_noteCall_63 : decode cX7_noteCall 63 = .ok (.iadd, 1) := by decide +kernel
theorem dX7_noteCall_64 : decode cX7_noteCall 64 = .ok (.putfield 63, 3) := by decide +kernel
theorem dX7_noteCall_67 : decode cX7_noteCall 67 = .ok (.return_, 1) := by decide +kernel
theorem dX7_raise_0 : decode cX7_raise 0 = .ok (.iload_n 1, 1) := by decide +kernel
theorem dX7_raise_1 : decode cX7_raise 1 = .ok (.bipush 10, 2) := by decide +kernel
theorem dX7_raise_3 : decode cX7_raise 3 = .ok (.if_icmp .lt 23, 3) := by decide +kernel
theorem dX7_raise_6 : decode cX7_raise 6 = .ok (.aload_n 0, 1) := by decide +kernel
theorem dX7_raise_7 : decode cX7_raise 7 = .ok (.getfield 54, 3) := by decide +kernel
theorem dX7_raise_10 : decode cX7_raise 10 = .ok (.ifCond .lt 11, 3) := by decide +kernel
theorem dX7_raise_13 : decode cX7_raise 13 = .ok (.iload_n 2, 1) := by decide +kernel
theorem dX7_raise_14 : decode cX7_raise 14 = .ok (.aload_n 0, 1) := by decide +kernel
theorem dX7_raise_15 : decode cX7_raise 15 = .ok (.getfield 54, 3) := by decide +kernel
theorem dX7_raise_18 : decode cX7_raise 18 = .ok (.if_icmp .ge 8, 3) := by decide +kernel
theorem dX7_raise_21 : decode cX7_raise 21 = .ok (.aload_n 0, 1) := by decide +kernel
theorem dX7_raise_22 : decode cX7_raise 22 = .ok (.iload_n 2, 1) := by decide +kernel
theorem dX7_raise_23 : decode cX7_raise 23 = .ok (.putfield 54, 3) := by decide +kernel
theorem dX7_raise_26 : decode cX7_raise 26 = .ok (.iload_n 1, 1) := by decide +kernel
theorem dX7_raise_27 : decode cX7_raise 27 = .ok (.iconst 1, 1) := by decide +kernel
theorem dX7_raise_28 : decode cX7_raise 28 = .ok (.iadd, 1) := by decide +kernel
theorem dX7_raise_29 : decode cX7_raise 29 = .ok (.ireturn, 1) := by decide +kernel
theorem dX7_rowOf_0 : decode cX7_rowOf 0 = .ok (.iload_n 0, 1) := by decide +kernel
theorem dX7_rowOf_1 : decode cX7_rowOf 1 = .ok (.sipush 380, 3) := by decide +kernel
theorem dX7_rowOf_4 : decode cX7_rowOf 4 = .ok (.if_icmp .ne 5, 3) := by decide +kernel
theorem dX7_rowOf_7 : decode cX7_rowOf 7 = .ok (.iconst 0, 1) := by decide +kernel
theorem dX7_rowOf_8 : decode cX7_rowOf 8 = .ok (.ireturn, 1) := by decide +kernel
theorem dX7_rowOf_9 : decode cX7_rowOf 9 = .ok (.iload_n 0, 1) := by decide +kernel
theorem dX7_rowOf_10 : decode cX7_rowOf 10 = .ok (.sipush 294, 3) := by decide +kernel
theorem dX7_rowOf_13 : decode cX7_rowOf 13 = .ok (.if_icmp .ne 5, 3) := by decide +kernel
theorem dX7_rowOf_16 : decode cX7_rowOf 16 = .ok (.iconst 1, 1) := by decide +kernel
theorem dX7_rowOf_17 : decode cX7_rowOf 17 = .ok (.ireturn, 1) := by decide +kernel
theorem dX7_rowOf_18 : decode cX7_rowOf 18 = .ok (.iload_n 0, 1) := by decide +kernel
theorem dX7_rowOf_19 : decode cX7_rowOf 19 = .ok (.invokestatic 202, 3) := by decide +kernel
theorem dX7_rowOf_22 : decode cX7_rowOf 22 = .ok (.istore_n 1, 1) := by decide +kernel
theorem dX7_rowOf_23 : decode cX7_rowOf 23 = .ok (.iload_n 1, 1) := by decide +kernel
theorem dX7_rowOf_24 : decode cX7_rowOf 24 = .ok (.ifCond .ge 5, 3) := by decide +kernel
theorem dX7_rowOf_27 : decode cX7_rowOf 27 = .ok (.iconst (-1), 1) := by decide +kernel
theorem dX7_rowOf_28 : decode cX7_rowOf 28 = .ok (.ireturn, 1) := by decide +kernel
theorem dX7_rowOf_29 : decode cX7_rowOf 29 = .ok (.iload_n 1, 1) := by decide +kernel
theorem dX7_rowOf_30 : decode cX7_rowOf 30 = .ok (.bipush 11, 2) := by decide +kernel
theorem dX7_rowOf_32 : decode cX7_rowOf 32 = .ok (.if_icmp .lt 5, 3) := by decide +kernel
theorem dX7_rowOf_35 : decode cX7_rowOf 35 = .ok (.iconst 2, 1) := by decide +kernel
theorem dX7_rowOf_36 : decode cX7_rowOf 36 = .ok (.ireturn, 1) := by decide +kernel
theorem dX7_rowOf_37 : decode cX7_rowOf 37 = .ok (.iload_n 1, 1) := by decide +kernel
theorem dX7_rowOf_38 : decode cX7_rowOf 38 = .ok (.iconst 1, 1) := by decide +kernel
theorem dX7_rowOf_39 : decode cX7_rowOf 39 = .ok (.if_icmp .eq 20, 3) := by decide +kernel
theorem dX7_rowOf_42 : decode cX7_rowOf 42 = .ok (.iload_n 1, 1) := by decide +kernel
theorem dX7_rowOf_43 : decode cX7_rowOf 43 = .ok (.iconst 2, 1) := by decide +kernel
theorem dX7_rowOf_44 : decode cX7_rowOf 44 = .ok (.if_icmp .eq 15, 3) := by decide +kernel
theorem dX7_rowOf_47 : decode cX7_rowOf 47 = .ok (.iload_n 1, 1) := by decide +kernel
theorem dX7_rowOf_48 : decode cX7_rowOf 48 = .ok (.bipush 7, 2) := by decide +kernel
theorem dX7_rowOf_50 : decode cX7_rowOf 50 = .ok (.if_icmp .eq 9, 3) := by decide +kernel
theorem dX7_rowOf_53 : decode cX7_rowOf 53 = .ok (.iload_n 1, 1) := by decide +kernel
theorem dX7_rowOf_54 : decode cX7_rowOf 54 = .ok (.bipush 8, 2) := by decide +kernel
theorem dX7_rowOf_56 : decode cX7_rowOf 56 = .ok (.if_icmp .ne 7, 3) := by decide +kernel
theorem dX7_rowOf_59 : decode cX7_rowOf 59 = .ok (.iconst 3, 1) := by decide +kernel
theorem dX7_rowOf_60 : decode cX7_rowOf 60 = .ok (.goto 4, 3) := by decide +kernel
theorem dX7_rowOf_63 : decode cX7_rowOf 63 = .ok (.iconst 4, 1) := by decide +kernel
theorem dX7_rowOf_64 : decode cX7_rowOf 64 = .ok (.ireturn, 1) := by decide +kernel
theorem dX7_seenVariableOf_0 : decode cX7_seenVariableOf 0 = .ok (.aload_n 0, 1) := by decide +kernel
theorem dX7_seenVariableOf_1 : decode cX7_seenVariableOf 1 = .ok (.lload_n 1, 1) := by decide +kernel
theorem dX7_seenVariableOf_2 : decode cX7_seenVariableOf 2 = .ok (.invokevirtual 146, 3) := by decide +kernel
theorem dX7_seenVariableOf_5 : decode cX7_seenVariableOf 5 = .ok (.istore 4, 2) := by decide +kernel
theorem dX7_seenVariableOf_7 : decode cX7_seenVariableOf 7 = .ok (.iload 4, 2) := by decide +kernel
theorem dX7_seenVariableOf_9 : decode cX7_seenVariableOf 9 = .ok (.ifCond .ge 9, 3) := by decide +kernel
theorem dX7_seenVariableOf_12 : decode cX7_seenVariableOf 12 = .ok (.aload_n 0, 1) := by decide +kernel
theorem dX7_seenVariableOf_13 : decode cX7_seenVariableOf 13 = .ok (.iconst 3, 1) := by decide +kernel
theorem dX7_seenVariableOf_14 : decode cX7_seenVariableOf 14 = .ok (.iload_n 3, 1) := by decide +kernel
theorem dX7_seenVariableOf_15 : decode cX7_seenVariableOf 15 = .ok (.invokevirtual 109, 3) := by decide +kernel
theorem dX7_seenVariableOf_18 : decode cX7_seenVariableOf 18 = .ok (.iload 4, 2) := by decide +kernel
theorem dX7_seenVariableOf_20 : decode cX7_seenVariableOf 20 = .ok (.ireturn, 1) := by decide +kernel
theorem dX7_variableOf_0 : decode cX7_variableOf 0 = .ok (.iconst 0, 1) := by decide +kernel
theorem dX7_variableOf_1 : decode cX7_variableOf 1 = .ok (.istore_n 3, 1) := by decide +kernel
theorem dX7_variableOf_2 : decode cX7_variableOf 2 = .ok (.iload_n 3, 1) := by decide +kernel
theorem dX7_variableOf_3 : decode cX7_variableOf 3 = .ok (.aload_n 0, 1) := by decide +kernel
theorem dX7_variableOf_4 : decode cX7_variableOf 4 = .ok (.getfield 92, 3) := by decide +kernel
theorem dX7_variableOf_7 : decode cX7_variableOf 7 = .ok (.if_icmp .ge 27, 3) := by decide +kernel
theorem dX7_variableOf_10 : decode cX7_variableOf 10 = .ok (.aload_n 0, 1) := by decide +kernel
theorem dX7_variableOf_11 : decode cX7_variableOf 11 = .ok (.getfield 9, 3) := by decide +kernel
theorem dX7_variableOf_14 : decode cX7_variableOf 14 = .ok (.iload_n 3, 1) := by decide +kernel
theorem dX7_variableOf_15 : decode cX7_variableOf 15 = .ok (.laload, 1) := by decide +kernel
theorem dX7_variableOf_16 : decode cX7_variableOf 16 = .ok (.lload_n 1, 1) := by decide +kernel
theorem dX7_variableOf_17 : decode cX7_variableOf 17 = .ok (.lcmp, 1) := by decide +kernel
theorem dX7_variableOf_18 : decode cX7_variableOf 18 = .ok (.ifCond .ne 10, 3) := by decide +kernel
theorem dX7_variableOf_21 : decode cX7_variableOf 21 = .ok (.aload_n 0, 1) := by decide +kernel
theorem dX7_variableOf_22 : decode cX7_variableOf 22 = .ok (.getfield 15, 3) := by decide +kernel
theorem dX7_variableOf_25 : decode cX7_variableOf 25 = .ok (.iload_n 3, 1) := by decide +kernel
theorem dX7_variableOf_26 : decode cX7_variableOf 26 = .ok (.iaload, 1) := by decide +kernel
theorem dX7_variableOf_27 : decode cX7_variableOf 27 = .ok (.ireturn, 1) := by decide +kernel
theorem dX7_variableOf_28 : decode cX7_variableOf 28 = .ok (.iinc 3 1, 3) := by decide +kernel
theorem dX7_variableOf_31 : decode cX7_variableOf 31 = .ok (.goto (-29), 3) := by decide +kernel
theorem dX7_variableOf_34 : decode cX7_variableOf 34 = .ok (.iconst (-1), 1) := by decide +kernel
theorem dX7_variableOf_35 : decode cX7_variableOf 35 = .ok (.ireturn, 1) := by decide +kernel
theorem dX9_add_0 : decode cX9_add 0 = .ok (.aload_n 0, 1) := by decide +kernel
theorem dX9_add_1 : decode cX9_add 1 = .ok (.getfield 27, 3) := by decide +kernel
theorem dX9_add_4 : decode cX9_add 4 = .ok (.aload_n 0, 1) := by decide +kernel
theorem dX9_add_5 : decode cX9_add 5 = .ok (.getfield 9, 3) := by decide +kernel
theorem dX9_add_8 : decode cX9_add 8 = .ok (.arraylength, 1) := by decide +kernel
theorem dX9_add_9 : decode cX9_add 9 = .ok (.if_icmp .lt 83, 3) := by decide +kernel
theorem dX9_add_12 : decode cX9_add 12 = .ok (.aload_n 0, 1) := by decide +kernel
theorem dX9_add_13 : decode cX9_add 13 = .ok (.getfield 27, 3) := by decide +kernel
theorem dX9_add_16 : decode cX9_add 16 = .ok (.aload_n 0, 1) := by decide +kernel
theorem dX9_add_17 : decode cX9_add 17 = .ok (.getfield 27, 3) := by decide +kernel
theorem dX9_add_20 : decode cX9_add 20 = .ok (.iconst 2, 1) := by decide +kernel
theorem dX9_add_21 : decode cX9_add 21 = .ok (.idiv, 1) := by decide +kernel
theorem dX9_add_22 : decode cX9_add 22 = .ok (.iadd, 1) := by decide +kernel
theorem dX9_add_23 : decode cX9_add 23 = .ok (.iconst 1, 1) := by decide +kernel
theorem dX9_add_24 : decode cX9_add 24 = .ok (.iadd, 1) := by decide +kernel
theorem dX9_add_25 : decode cX9_add 25 = .ok (.istore 5, 2) := by decide +kernel
theorem dX9_add_27 : decode cX9_add 27 = .ok (.aload_n 0, 1) := by decide +kernel
theorem dX9_add_28 : decode cX9_add 28 = .ok (.aload_n 0, 1) := by decide +kernel
theorem dX9_add_29 : decode cX9_add 29 = .ok (.getfield 9, 3) := by decide +kernel
theorem dX9_add_32 : decode cX9_add 32 = .ok (.iload 5, 2) := by decide +kernel
theorem dX9_add_34 : decode cX9_add 34 = .ok (.invokestatic 31, 3) := by decide +kernel
theorem dX9_add_37 : decode cX9_add 37 = .ok (.putfield 9, 3) := by decide +kernel
theorem dX9_add_40 : decode cX9_add 40 = .ok (.aload_n 0, 1) := by decide +kernel
theorem dX9_add_41 : decode cX9_add 41 = .ok (.aload_n 0, 1) := by decide +kernel
theorem dX9_add_42 : decode cX9_add 42 = .ok (.getfield 15, 3) := by decide +kernel
theorem dX9_add_45 : decode cX9_add 45 = .ok (.iload 5, 2) := by decide +kernel
theorem dX9_add_47 : decode cX9_add 47 = .ok (.invokestatic 31, 3) := by decide +kernel
theorem dX9_add_50 : decode cX9_add 50 = .ok (.putfield 15, 3) := by decide +kernel
theorem dX9_add_53 : decode cX9_add 53 = .ok (.aload_n 0, 1) := by decide +kernel
theorem dX9_add_54 : decode cX9_add 54 = .ok (.aload_n 0, 1) := by decide +kernel
theorem dX9_add_55 : decode cX9_add 55 = .ok (.getfield 18, 3) := by decide +kernel
theorem dX9_add_58 : decode cX9_add 58 = .ok (.iload 5, 2) := by decide +kernel
theorem dX9_add_60 : decode cX9_add 60 = .ok (.invokestatic 31, 3) := by decide +kernel
theorem dX9_add_63 : decode cX9_add 63 = .ok (.putfield 18, 3) := by decide +kernel
theorem dX9_add_66 : decode cX9_add 66 = .ok (.aload_n 0, 1) := by decide +kernel
theorem dX9_add_67 : decode cX9_add 67 = .ok (.aload_n 0, 1) := by decide +kernel
theorem dX9_add_68 : decode cX9_add 68 = .ok (.getfield 21, 3) := by decide +kernel
theorem dX9_add_71 : decode cX9_add 71 = .ok (.iload 5, 2) := by decide +kernel
theorem dX9_add_73 : decode cX9_add 73 = .ok (.invokestatic 31, 3) := by decide +kernel
theorem dX9_add_76 : decode cX9_add 76 = .ok (.putfield 21, 3) := by decide +kernel
theorem dX9_add_79 : decode cX9_add 79 = .ok (.aload_n 0, 1) := by decide +kernel
theorem dX9_add_80 : decode cX9_add 80 = .ok (.aload_n 0, 1) := by decide +kernel
theorem dX9_add_81 : decode cX9_add 81 = .ok (.getfield 24, 3) := by decide +kernel
theorem dX9_add_84 : decode cX9_add 84 = .ok (.iload 5, 2) := by decide +kernel
theorem dX9_add_86 : decode cX9_add 86 = .ok (.invokestatic 31, 3) := by decide +kernel
theorem dX9_add_89 : decode cX9_add 89 = .ok (.putfield 24, 3) := by decide +kernel
theorem dX9_add_92 : decode cX9_add 92 = .ok (.aload_n 0, 1) := by decide +kernel
theorem dX9_add_93 : decode cX9_add 93 = .ok (.getfield 9, 3) := by decide +kernel
theorem dX9_add_96 : decode cX9_add 96 = .ok (.aload_n 0, 1) := by decide +kernel
theorem dX9_add_97 : decode cX9_add 97 = .ok (.getfield 27, 3) := by decide +kernel
theorem dX9_add_100 : decode cX9_add 100 = .ok (.iload_n 1, 1) := by decide +kernel
theorem dX9_add_101 : decode cX9_add 101 = .ok (.iastore, 1) := by decide +kernel
theorem dX9_add_102 : decode cX9_add 102 = .ok (.aload_n 0, 1) := by decide +kernel
theorem dX9_add_103 : decode cX9_add 103 = .ok (.getfield 15, 3) := by decide +kernel
theorem dX9_add_106 : decode cX9_add 106 = .ok (.aload_n 0, 1) := by decide +kernel
theorem dX9_add_107 : decode cX9_add 107 = .ok (.getfield 27, 3) := by decide +kernel
theorem dX9_add_110 : decode cX9_add 110 = .ok (.iload_n 2, 1) := by decide +kernel
theorem dX9_add_111 : decode cX9_add 111 = .ok (.iastore, 1) := by decide +kernel
theorem dX9_add_112 : decode cX9_add 112 = .ok (.aload_n 0, 1) := by decide +kernel
theorem dX9_add_113 : decode cX9_add 113 = .ok (.getfield 18, 3) := by decide +kernel
theorem dX9_add_116 : decode cX9_add 116 = .ok (.aload_n 0, 1) := by decide +kernel
theorem dX9_add_117 : decode cX9_add 117 = .ok (.getfield 27, 3) := by decide +kernel
theorem dX9_add_120 : decode cX9_add 120 = .ok (.iload_n 3, 1) := by decide +kernel
theorem dX9_add_121 : decode cX9_add 121 = .ok (.iastore, 1) := by decide +kernel
theorem dX9_add_122 : decode cX9_add 122 = .ok (.aload_n 0, 1) := by decide +kernel
theorem dX9_add_123 : decode cX9_add 123 = .ok (.getfield 21, 3) := by decide +kernel
theorem dX9_add_126 : decode cX9_add 126 = .ok (.aload_n 0, 1) := by decide +kernel
theorem dX9_add_127 : decode cX9_add 127 = .ok (.getfield 27, 3) := by decide +kernel
theorem dX9_add_130 : decode cX9_add 130 = .ok (.iload 4, 2) := by decide +kernel
theorem dX9_add_132 : decode cX9_add 132 = .ok (.iastore, 1) := by decide +kernel
theorem dX9_add_133 : decode cX9_add 133 = .ok (.aload_n 0, 1) := by decide +kernel
theorem dX9_add_134 : decode cX9_add 134 = .ok (.getfield 24, 3) := by decide +kernel
theorem dX9_add_137 : decode cX9_add 137 = .ok (.aload_n 0, 1) := by decide +kernel
theorem dX9_add_138 : decode cX9_add 138 = .ok (.getfield 27, 3) := by decide +kernel
theorem dX9_add_141 : decode cX9_add 141 = .ok (.iconst (-1), 1) := by decide +kernel
theorem dX9_add_142 : decode cX9_add 142 = .ok (.iastore, 1) := by decide +kernel
theorem dX9_add_143 : decode cX9_add 143 = .ok (.aload_n 0, 1) := by decide +kernel
theorem dX9_add_144 : decode cX9_add 144 = .ok (.dup, 1) := by decide +kernel
theorem dX9_add_145 : decode cX9_add 145 = .ok (.getfield 27, 3) := by decide +kernel
theorem dX9_add_148 : decode cX9_add 148 = .ok (.iconst 1, 1) := by decide +kernel
theorem dX9_add_149 : decode cX9_add 149 = .ok (.iadd, 1) := by decide +kernel
theorem dX9_add_150 : decode cX9_add 150 = .ok (.putfield 27, 3) := by decide +kernel
theorem dX9_add_153 : decode cX9_add 153 = .ok (.aload_n 0, 1) := by decide +kernel
theorem dX9_add_154 : decode cX9_add 154 = .ok (.getfield 27, 3) := by decide +kernel
theorem dX9_add_157 : decode cX9_add 157 = .ok (.iconst 1, 1) := by decide +kernel
theorem dX9_add_158 : decode cX9_add 158 = .ok (.isub, 1) := by decide +kernel
theorem dX9_add_159 : decode cX9_add 159 = .ok (.ireturn, 1) := by decide +kernel
theorem qw0 : Cond.fieldLink RX10 19 "Gearbox$Tokens" "after" "I" ∈ gw := mq_1 (i := 61) rfl rfl
theorem qw1 : Cond.fieldLink RX10 15 "Gearbox$Tokens" "length" "I" ∈ gw := mq_1 (i := 52) rfl rfl
theorem qw2 : Cond.fieldLink RX10 9 "Gearbox$Tokens" "tape" "[I" ∈ gw := mq_1 (i := 50) rfl rfl
theorem qw13 : Cond.constantLong RX10 61 (422826041707) ∈ gw := mq_4 (i := 115) rfl rfl
theorem qw14 : Cond.constantLong RX10 63 (7165066978433856869) ∈ gw := mq_4 (i := 116) rfl rfl
theorem qw15 : Cond.constantLong RX10 65 (1701606245) ∈ gw := mq_4 (i := 117) rfl rfl
theorem qw16 : Cond.constantLong RX10 67 (6714734) ∈ gw := mq_4 (i := 118) rfl rfl
theorem qw17 : Cond.constantLong RX10 69 (26982) ∈ gw := mq_4 (i := 119) rfl rfl
theorem qw18 : Cond.constantLong RX10 71 (125780071117422) ∈ gw := mq_4 (i := 120) rfl rfl
theorem qw19 : Cond.constantLong RX10 73 (7758194) ∈ gw := mq_4 (i := 121) rfl rfl
theorem qw20 : Cond.constantLong RX10 75 (512852847717) ∈ gw := mq_4 (i := 122) rfl rfl
theorem qw21 : Cond.fieldLink RX10 77 "Gearbox$Tokens" "figure" "I" ∈ gw := mq_1 (i := 57) rfl rfl
theorem qw22 : Cond.fieldLink RX10 41 "Gearbox$Tokens" "name" "J" ∈ gw := mq_1 (i := 60) rfl rfl
theorem qw23 : Cond.constantLong RX10 59 (256) ∈ gw := mq_4 (i := 111) rfl rfl
theorem qw24 : Cond.fieldLink RX7 57 "Gearbox$Reader" "fault" "I" ∈ gw := mq_1 (i := 94) rfl rfl
theorem qw25 : Cond.fieldLink RX7 60 "Gearbox$Reader" "faultPlace" "I" ∈ gw := mq_1 (i := 87) rfl rfl
theorem qw26 : Cond.fieldLink RX7 41 "Gearbox$Reader" "program" "LGearbox$Program;" ∈ gw := mq_1 (i := 90) rfl rfl
theorem qw27 : Cond.fieldLink RX7 89 "Gearbox$Reader" "function" "I" ∈ gw := mq_1 (i := 91) rfl rfl
theorem qw28 : Cond.fieldLink RX6 22 "Gearbox$Program" "variables" "[I" ∈ gw := mq_3 (i := 165) rfl rfl
theorem qw29 : Cond.code yX6_newVariable cX6_newVariable 2 (Option.some Jvm.ClassFile.FieldType.int) ∈ gw := mq_5 (i := 84) rfl rfl
theorem qw30 : Cond.methodLink RX7 217 yX6_newVariable ∈ gw := mq_5 (i := 81) rfl rfl
theorem qw31 : Cond.instanceMethod yX6_newVariable ∈ gw := mq_5 (i := 82) rfl rfl
theorem qw32 : Cond.selects RX6 yX6_newVariable yX6_newVariable ∈ gw := mq_5 (i := 83) rfl rfl
theorem qw33 : Cond.initialized RX6 ∈ gw := mq_1 (i := 26) rfl rfl
theorem qw34 : Cond.fieldLink RX7 92 "Gearbox$Reader" "seen" "I" ∈ gw := mq_1 (i := 97) rfl rfl
theorem qw35 : Cond.fieldLink RX7 9 "Gearbox$Reader" "seenName" "[J" ∈ gw := mq_1 (i := 95) rfl rfl
theorem qw36 : Cond.fieldLink RX7 15 "Gearbox$Reader" "seenVariable" "[I" ∈ gw := mq_1 (i := 96) rfl rfl
theorem qw37 : Cond.fieldLink RX6 47 "Gearbox$Program" "ops" "I" ∈ gw := mq_3 (i := 175) rfl rfl
theorem qw38 : Cond.fieldLink RX6 31 "Gearbox$Program" "op" "[I" ∈ gw := mq_3 (i := 177) rfl rfl
theorem qw39 : Cond.fieldLink RX6 34 "Gearbox$Program" "argument" "[I" ∈ gw := mq_3 (i := 180) rfl rfl
theorem qw40 : Cond.fieldLink RX6 37 "Gearbox$Program" "ticks" "[I" ∈ gw := mq_3 (i := 184) rfl rfl
theorem qw41 : Cond.code yX6_emit cX6_emit 4 (Option.none : Option Jvm.ClassFile.FieldType) ∈ gw := mq_5 (i := 88) rfl rfl
theorem qw42 : Cond.methodLink RX7 139 yX6_emit ∈ gw := mq_5 (i := 85) rfl rfl
theorem qw43 : Cond.instanceMethod yX6_emit ∈ gw := mq_5 (i := 86) rfl rfl
theorem qw44 : Cond.selects RX6 yX6_emit yX6_emit ∈ gw := mq_5 (i := 87) rfl rfl
theorem qw48 : Cond.fieldLink RX7 63 "Gearbox$Reader" "calls" "I" ∈ gw := mq_1 (i := 105) rfl rfl
theorem qw49 : Cond.fieldLink RX7 25 "Gearbox$Reader" "callName" "[J" ∈ gw := mq_1 (i := 101) rfl rfl
theorem qw50 : Cond.fieldLink RX7 118 "Gearbox$Program" "functions" "I" ∈ gw := mq_3 (i := 152) rfl rfl
theorem qw51 : Cond.fieldLink RX6 9 "Gearbox$Program" "name" "[J" ∈ gw := mq_3 (i := 155) rfl rfl
theorem qw52 : Cond.code yX6_find cX6_find 5 (Option.some Jvm.ClassFile.FieldType.int) ∈ gw := mq_5 (i := 64) rfl rfl
theorem qw53 : Cond.methodLink RX7 105 yX6_find ∈ gw := mq_5 (i := 61) rfl rfl
theorem qw54 : Cond.instanceMethod yX6_find ∈ gw := mq_5 (i := 62) rfl rfl
theorem qw55 : Cond.selects RX6 yX6_find yX6_find ∈ gw := mq_5 (i := 63) rfl rfl
theorem qw56 : Cond.fieldLink RX7 34 "Gearbox$Reader" "callArguments" "[I" ∈ gw := mq_1 (i := 104) rfl rfl
theorem qw57 : Cond.fieldLink RX7 121 "Gearbox$Program" "parameters" "[I" ∈ gw := mq_3 (i := 161) rfl rfl
theorem qw58 : Cond.fieldLink RX7 28 "Gearbox$Reader" "callOp" "[I" ∈ gw := mq_1 (i := 102) rfl rfl
theorem qw59 : Cond.fieldLink RX7 233 "Gearbox$Program" "argument" "[I" ∈ gw := mq_3 (i := 182) rfl rfl
theorem qw60 : Cond.fieldLink RX7 31 "Gearbox$Reader" "callPlace" "[I" ∈ gw := mq_1 (i := 103) rfl rfl
theorem qw61 : Cond.code yX7_blame cX7_blame 3 (Option.none : Option Jvm.ClassFile.FieldType) ∈ gw := mq_5 (i := 68) rfl rfl
theorem qw62 : Cond.methodLink RX7 109 yX7_blame ∈ gw := mq_5 (i := 65) rfl rfl
theorem qw63 : Cond.instanceMethod yX7_blame ∈ gw := mq_5 (i := 67) rfl rfl
theorem qw64 : Cond.selects RX7 yX7_blame yX7_blame ∈ gw := mk_s (i := 0) rfl rfl
theorem qw65 : Cond.initialized RX7 ∈ gw := mq_1 (i := 18) rfl rfl
theorem qw66 : Cond.fieldLink RX7 130 "Gearbox$Program" "ops" "I" ∈ gw := mq_3 (i := 176) rfl rfl
theorem qw67 : Cond.fieldLink RX7 54 "Gearbox$Reader" "tallPlace" "I" ∈ gw := mq_1 (i := 93) rfl rfl
theorem qw71 : Cond.fieldLink RX6 50 "Gearbox$Program" "labels" "I" ∈ gw := mq_3 (i := 186) rfl rfl
theorem qw81 : Cond.code yX7_kindOfSign cX7_kindOfSign 1 (Option.some Jvm.ClassFile.FieldType.int) ∈ gw := mq_5 (i := 143) rfl rfl
theorem qw82 : Cond.methodLink RX7 202 yX7_kindOfSign ∈ gw := mq_5 (i := 141) rfl rfl
theorem qw83 : Cond.static yX7_kindOfSign ∈ gw := mq_5 (i := 142) rfl rfl
theorem qw84 : Cond.code yX7_variableOf cX7_variableOf 4 (Option.some Jvm.ClassFile.FieldType.int) ∈ gw := mq_5 (i := 76) rfl rfl
theorem qw85 : Cond.methodLink RX7 146 yX7_variableOf ∈ gw := mq_5 (i := 73) rfl rfl
theorem qw86 : Cond.instanceMethod yX7_variableOf ∈ gw := mq_5 (i := 75) rfl rfl
theorem qw87 : Cond.selects RX7 yX7_variableOf yX7_variableOf ∈ gw := mk_s (i := 2) rfl rfl
theorem qw88 : Cond.fieldLink RX6 43 "Gearbox$Program" "functions" "I" ∈ gw := mq_3 (i := 151) rfl rfl
theorem qw89 : Cond.fieldLink RX6 40 "Gearbox$Program" "labelAt" "[I" ∈ gw := mq_3 (i := 187) rfl rfl
theorem qw90 : Cond.methodLink RX6 53 yX6_emit ∈ gw := mq_5 (i := 160) rfl rfl
theorem qw91 : Cond.fieldLink RX9 27 "Gearbox$Steps" "count" "I" ∈ gw := mq_1 (i := 157) rfl rfl
theorem qw92 : Cond.fieldLink RX9 9 "Gearbox$Steps" "kind" "[I" ∈ gw := mq_1 (i := 161) rfl rfl
theorem qw93 : Cond.fieldLink RX9 15 "Gearbox$Steps" "gives" "[I" ∈ gw := mq_1 (i := 168) rfl rfl
theorem qw94 : Cond.fieldLink RX9 18 "Gearbox$Steps" "left" "[I" ∈ gw := mq_1 (i := 175) rfl rfl
theorem qw95 : Cond.fieldLink RX9 21 "Gearbox$Steps" "right" "[I" ∈ gw := mq_1 (i := 182) rfl rfl
theorem qw96 : Cond.fieldLink RX9 24 "Gearbox$Steps" "next" "[I" ∈ gw := mq_1 (i := 189) rfl rfl
theorem qw97 : Cond.arrayClass Jvm.ClassFile.FieldType.int ∈ gw := mq_1 (i := 80) rfl rfl
theorem qw98 : Cond.methodLink RJ7 304 yJ9_min_7cf53 ∈ gw := mq_6 (i := 110) rfl rfl
theorem qw99 : Cond.static yJ9_min_7cf53 ∈ gw := mq_4 (i := 167) rfl rfl
theorem qw100 : Cond.initialized RJ9 ∈ gw := mq_1 (i := 9) rfl rfl
theorem qw101 : Cond.code yJ9_min_7cf53 cJ9_min_7cf53 2 (Option.some Jvm.ClassFile.FieldType.int) ∈ gw := mq_4 (i := 168) rfl rfl
theorem qw102 : Cond.methodLink RJ7 150 ⟨"java/lang/System", "arraycopy", "(Ljava/lang/Object;ILjava/lang/Object;II)V"⟩ ∈ gw := mq_6 (i := 111) rfl rfl
theorem qw103 : Cond.native ⟨"java/lang/System", "arraycopy", "(Ljava/lang/Object;ILjava/lang/Object;II)V"⟩ ∈ gw := mq_6 (i := 18) rfl rfl
theorem qw104 : Cond.static ⟨"java/lang/System", "arraycopy", "(Ljava/lang/Object;ILjava/lang/Object;II)V"⟩ ∈ gw := mq_6 (i := 17) rfl rfl
theorem qw105 : Cond.initialized RJ10 ∈ gw := mq_1 (i := 11) rfl rfl
theorem qw106 : Cond.code yJ7_copyOf_59c91 cJ7_copyOf_59c91 3 (Option.some (Jvm.ClassFile.FieldType.array Jvm.ClassFile.FieldType.int)) ∈ gw := mq_6 (i := 102) rfl rfl
theorem qw107 : Cond.methodLink RX9 31 yJ7_copyOf_59c91 ∈ gw := mq_7 (i := 110) rfl rfl
theorem qw108 : Cond.static yJ7_copyOf_59c91 ∈ gw := mq_6 (i := 101) rfl rfl
theorem qw109 : Cond.initialized RJ7 ∈ gw := mq_1 (i := 10) rfl rfl
def fX10_isLetter_J17 (y0_17 : Int32) : Option Int32 := (if y0_17 = 0 ∨ y0_17 = 1 then some y0_17 else none)
def fX10_isLetter_J16  : Option Int32 := (fX10_isLetter_J17 0)
def fX10_isLetter (p0 : Int32) : Option Int32 := (if p0 < 97 then (fX10_isLetter_J16) else (if 122 < p0 then (fX10_isLetter_J16) else (fX10_isLetter_J17 1)))
set_option maxHeartbeats 16000000 in
set_option maxRecDepth 100000 in
theorem kX10_isLetter {zs : ZS} (l : Launch) (dC : Nat → ClassId) (dI : Nat → Nat → Nat) (p0 : Int32) (sz : Nat) (o : Int32) (hrun : fX10_isLetter p0 = some o) : Met l yX10_isLetter (wz yX10_isLetter cX10_isLetter 1 (Option.some Jvm.ClassFile.FieldType.boolean)) ({ frames := 0, cells := 0, slots := 0, locals := 0 } : Room) (va_Pc [.int p0] (PRE zs dC dI (List.flatten ([] : List va_W)) (List.flatten ([] : List (List (ClassId × FieldType)))) sz)) (va_Qi (fun (r : Int32) (_ : Unit) => r = o) (fun _ t => POST dC dI (List.flatten ([] : List va_W)) (List.flatten ([] : List (List (ClassId × FieldType)))) (va_A (List.flatten ([] : List va_W)) sz) t) (va_A (List.flatten ([] : List va_W)) sz)) 0 0 (va_A (List.flatten ([] : List va_W)) sz) := by
  refine Met.ofW (cc := cX10_isLetter) (maxL := 1) (ret := (Option.some Jvm.ClassFile.FieldType.boolean)) (by decide) rfl ?_
  intro p e s m args below meth c s₁ B hml hv
  obtain ⟨rfl, hsz, hP, hK, hD0, hE⟩ := hv
  have hx := B.exec
  have hb := B.bytes
  have hr := B.returns
  have hts0 := atoms_spec (ws := wz yX10_isLetter cX10_isLetter 1 (Option.some Jvm.ClassFile.FieldType.boolean)) B.pre
  have hts : ∀ w ∈ gw, w.before _ s = true := fun w h => hts0 w (List.mem_cons_of_mem _ h)
  have hown : s.vm.findClass RX10 = some m.cls := findClass_of_methodNamed B.named
  have hlocks := B.notSynchronized
  subst hsz
  have hD := hD0.self (sz := s.heap.size)
  refine gQ9 ?_
  intro Q hQ
  generalize hAe : va_A (List.flatten ([] : List va_W)) s.heap.size = A at hD hE hQ
  have hA : ∀ q : Nat, s.heap.size ≤ q → A q := fun q h => by rw [← hAe]; exact Or.inr h
  have hS : va_S A s.heap s.heap [] := va_S.rf
  have hP : va_P (dC, dI) cls (List.flatten ([] : List va_W)) s.heap := hP
  have hl := lv_entry ([.int p0]) (n := 1) (Nat.le_of_ble_eq_true rfl)
  rw [lg_entry_eq]
  generalize (lg_sl ([.int p0]) ++ List.replicate (1 - (lg_sl ([.int p0])).length) Slot.unset).toArray = ls at hl ⊢
  have hl : lv_has ls 1 [(0, .int p0)] := hl
  obtain ⟨H, hHe⟩ : ∃ H, H = s.heap := ⟨_, rfl⟩
  obtain ⟨locs, hle⟩ : ∃ locs : List Loc, locs = [] := ⟨_, rfl⟩
  rw [← hHe] at hP
  have hS : va_S A s.heap H locs := by rw [hHe, hle]; exact hS
  show W p l e ({ frames := 0, cells := 0, slots := 0, locals := 0 } : Room) s m ([.int p0] : List Value).toArray below meth c s.heap [] 0 0 Q (F0 m 0 ls [])
  rw [← hle]
  refine wH9 hHe ?_
  unfold fX10_isLetter at hrun
  refine lv_iload_n hx hb dX10_isLetter_0 rfl (lv_at hl 0 rfl) ?_
  refine lv_bipush (v := 97) hx hb dX10_isLetter_1 (by decide) ?_
  have J17 : ∀ (y0_17 : Int32) (H : Heap) (locs : List Loc) (ls : Array Slot), (fX10_isLetter_J17 y0_17) = some o → va_P (dC, dI) cls (List.flatten ([] : List va_W)) H → va_D A (List.flatten ([] : List va_W)) → va_K (dC, dI) cls (List.flatten ([] : List (List (ClassId × FieldType)))) s → va_S A s.heap H locs → lv_has ls 1 [] → W p l e ({ frames := 0, cells := 0, slots := 0, locals := 0 } : Room) s m ([.int p0] : List Value).toArray below meth c H locs 0 0 Q (F0 m 17 ls [.int y0_17]) := by
    intro y0_17 H locs ls hrun hP hD hK hS hl 
    unfold fX10_isLetter_J17 at hrun
    obtain ⟨hz9, hrun⟩ := chk9 hrun
    have ho9 : y0_17 = o := Option.some.inj hrun
    have hP9 : va_P (dC, dI) cls (List.flatten ([] : List va_W)) H := by first | exact hP | (rw [← ho9]; exact hP)
    have hD9 : va_D A (List.flatten ([] : List va_W)) := by first | exact hD | (rw [← ho9]; exact hD)
    subst hQ
    exact W.zret (v := y0_17) hx hb hr (bz9 hz9) (fun t ht hW => ⟨⟨y0_17, (), rfl, (by rw [← ho9]), ⟨by rw [ht]; exact hP9, va_K.moved hW.alike hK, hD9⟩⟩, hS.F ht⟩) hS.2.2 dX10_isLetter_17
  have J16 : ∀ (H : Heap) (locs : List Loc) (ls : Array Slot), (fX10_isLetter_J16) = some o → va_P (dC, dI) cls (List.flatten ([] : List va_W)) H → va_D A (List.flatten ([] : List va_W)) → va_K (dC, dI) cls (List.flatten ([] : List (List (ClassId × FieldType)))) s → va_S A s.heap H locs → lv_has ls 1 [] → W p l e ({ frames := 0, cells := 0, slots := 0, locals := 0 } : Room) s m ([.int p0] : List Value).toArray below meth c H locs 0 0 Q (F0 m 16 ls []) := by
    intro  H locs ls hrun hP hD hK hS hl 
    unfold fX10_isLetter_J16 at hrun
    refine lv_iconst (v := 0) hx hb dX10_isLetter_16 (by decide) ?_
    exact J17 0 _ _ _ hrun hP hD hK hS (lv_sub hl [] rfl)
  rcases br9 hrun with ⟨hc1, hrun⟩ | ⟨hc1, hrun⟩
  · refine lv_icmp_lt (tgt := 16) hx hb dX10_isLetter_3 (by decide) (fun _ => ?_) (fun c => absurd hc1 c)
    exact J16 _ _ _ hrun hP hD hK hS (lv_sub hl [] rfl)
  · refine lv_icmp_lt (tgt := 16) hx hb dX10_isLetter_3 (by decide) (fun c => absurd c hc1) (fun _ => ?_)
    refine lv_iload_n hx hb dX10_isLetter_6 rfl (lv_at hl 0 rfl) ?_
    refine lv_bipush (v := 122) hx hb dX10_isLetter_7 (by decide) ?_
    rcases br9 hrun with ⟨hc2, hrun⟩ | ⟨hc2, hrun⟩
    · refine lv_icmp_gt (tgt := 16) hx hb dX10_isLetter_9 (by decide) (fun _ => ?_) (fun c => absurd hc2 c)
      exact J16 _ _ _ hrun hP hD hK hS (lv_sub hl [] rfl)
    · refine lv_icmp_gt (tgt := 16) hx hb dX10_isLetter_9 (by decide) (fun c => absurd c hc2) (fun _ => ?_)
      refine lv_iconst (v := 1) hx hb dX10_isLetter_12 (by decide) ?_
      refine lv_goto (tgt := 17) hx hb dX10_isLetter_13 (by decide) ?_
      exact J17 1 _ _ _ hrun hP hD hK hS (lv_sub hl [] rfl)
def fX10_isDigit_J17 (y0_17 : Int32) : Option Int32 := (if y0_17 = 0 ∨ y0_17 = 1 then some y0_17 else none)
def fX10_isDigit_J16  : Option Int32 := (fX10_isDigit_J17 0)
def fX10_isDigit (p0 : Int32) : Option Int32 := (if p0 < 48 then (fX10_isDigit_J16) else (if 57 < p0 then (fX10_isDigit_J16) else (fX10_isDigit_J17 1)))
set_option maxHeartbeats 16000000 in
set_option maxRecDepth 100000 in
theorem kX10_isDigit {zs : ZS} (l : Launch) (dC : Nat → ClassId) (dI : Nat → Nat → Nat) (p0 : Int32) (sz : Nat) (o : Int32) (hrun : fX10_isDigit p0 = some o) : Met l yX10_isDigit (wz yX10_isDigit cX10_isDigit 1 (Option.some Jvm.ClassFile.FieldType.boolean)) ({ frames := 0, cells := 0, slots := 0, locals := 0 } : Room) (va_Pc [.int p0] (PRE zs dC dI (List.flatten ([] : List va_W)) (List.flatten ([] : List (List (ClassId × FieldType)))) sz)) (va_Qi (fun (r : Int32) (_ : Unit) => r = o) (fun _ t => POST dC dI (List.flatten ([] : List va_W)) (List.flatten ([] : List (List (ClassId × FieldType)))) (va_A (List.flatten ([] : List va_W)) sz) t) (va_A (List.flatten ([] : List va_W)) sz)) 0 0 (va_A (List.flatten ([] : List va_W)) sz) := by
  refine Met.ofW (cc := cX10_isDigit) (maxL := 1) (ret := (Option.some Jvm.ClassFile.FieldType.boolean)) (by decide) rfl ?_
  intro p e s m args below meth c s₁ B hml hv
  obtain ⟨rfl, hsz, hP, hK, hD0, hE⟩ := hv
  have hx := B.exec
  have hb := B.bytes
  have hr := B.returns
  have hts0 := atoms_spec (ws := wz yX10_isDigit cX10_isDigit 1 (Option.some Jvm.ClassFile.FieldType.boolean)) B.pre
  have hts : ∀ w ∈ gw, w.before _ s = true := fun w h => hts0 w (List.mem_cons_of_mem _ h)
  have hown : s.vm.findClass RX10 = some m.cls := findClass_of_methodNamed B.named
  have hlocks := B.notSynchronized
  subst hsz
  have hD := hD0.self (sz := s.heap.size)
  refine gQ9 ?_
  intro Q hQ
  generalize hAe : va_A (List.flatten ([] : List va_W)) s.heap.size = A at hD hE hQ
  have hA : ∀ q : Nat, s.heap.size ≤ q → A q := fun q h => by rw [← hAe]; exact Or.inr h
  have hS : va_S A s.heap s.heap [] := va_S.rf
  have hP : va_P (dC, dI) cls (List.flatten ([] : List va_W)) s.heap := hP
  have hl := lv_entry ([.int p0]) (n := 1) (Nat.le_of_ble_eq_true rfl)
  rw [lg_entry_eq]
  generalize (lg_sl ([.int p0]) ++ List.replicate (1 - (lg_sl ([.int p0])).length) Slot.unset).toArray = ls at hl ⊢
  have hl : lv_has ls 1 [(0, .int p0)] := hl
  obtain ⟨H, hHe⟩ : ∃ H, H = s.heap := ⟨_, rfl⟩
  obtain ⟨locs, hle⟩ : ∃ locs : List Loc, locs = [] := ⟨_, rfl⟩
  rw [← hHe] at hP
  have hS : va_S A s.heap H locs := by rw [hHe, hle]; exact hS
  show W p l e ({ frames := 0, cells := 0, slots := 0, locals := 0 } : Room) s m ([.int p0] : List Value).toArray below meth c s.heap [] 0 0 Q (F0 m 0 ls [])
  rw [← hle]
  refine wH9 hHe ?_
  unfold fX10_isDigit at hrun
  refine lv_iload_n hx hb dX10_isDigit_0 rfl (lv_at hl 0 rfl) ?_
  refine lv_bipush (v := 48) hx hb dX10_isDigit_1 (by decide) ?_
  have J17 : ∀ (y0_17 : Int32) (H : Heap) (locs : List Loc) (ls : Array Slot), (fX10_isDigit_J17 y0_17) = some o → va_P (dC, dI) cls (List.flatten ([] : List va_W)) H → va_D A (List.flatten ([] : List va_W)) → va_K (dC, dI) cls (List.flatten ([] : List (List (ClassId × FieldType)))) s → va_S A s.heap H locs → lv_has ls 1 [] → W p l e ({ frames := 0, cells := 0, slots := 0, locals := 0 } : Room) s m ([.int p0] : List Value).toArray below meth c H locs 0 0 Q (F0 m 17 ls [.int y0_17]) := by
    intro y0_17 H locs ls hrun hP hD hK hS hl 
    unfold fX10_isDigit_J17 at hrun
    obtain ⟨hz9, hrun⟩ := chk9 hrun
    have ho9 : y0_17 = o := Option.some.inj hrun
    have hP9 : va_P (dC, dI) cls (List.flatten ([] : List va_W)) H := by first | exact hP | (rw [← ho9]; exact hP)
    have hD9 : va_D A (List.flatten ([] : List va_W)) := by first | exact hD | (rw [← ho9]; exact hD)
    subst hQ
    exact W.zret (v := y0_17) hx hb hr (bz9 hz9) (fun t ht hW => ⟨⟨y0_17, (), rfl, (by rw [← ho9]), ⟨by rw [ht]; exact hP9, va_K.moved hW.alike hK, hD9⟩⟩, hS.F ht⟩) hS.2.2 dX10_isDigit_17
  have J16 : ∀ (H : Heap) (locs : List Loc) (ls : Array Slot), (fX10_isDigit_J16) = some o → va_P (dC, dI) cls (List.flatten ([] : List va_W)) H → va_D A (List.flatten ([] : List va_W)) → va_K (dC, dI) cls (List.flatten ([] : List (List (ClassId × FieldType)))) s → va_S A s.heap H locs → lv_has ls 1 [] → W p l e ({ frames := 0, cells := 0, slots := 0, locals := 0 } : Room) s m ([.int p0] : List Value).toArray below meth c H locs 0 0 Q (F0 m 16 ls []) := by
    intro  H locs ls hrun hP hD hK hS hl 
    unfold fX10_isDigit_J16 at hrun
    refine lv_iconst (v := 0) hx hb dX10_isDigit_16 (by decide) ?_
    exact J17 0 _ _ _ hrun hP hD hK hS (lv_sub hl [] rfl)
  rcases br9 hrun with ⟨hc1, hrun⟩ | ⟨hc1, hrun⟩
  · refine lv_icmp_lt (tgt := 16) hx hb dX10_isDigit_3 (by decide) (fun _ => ?_) (fun c => absurd hc1 c)
    exact J16 _ _ _ hrun hP hD hK hS (lv_sub hl [] rfl)
  · refine lv_icmp_lt (tgt := 16) hx hb dX10_isDigit_3 (by decide) (fun c => absurd c hc1) (fun _ => ?_)
    refine lv_iload_n hx hb dX10_isDigit_6 rfl (lv_at hl 0 rfl) ?_
    refine lv_bipush (v := 57) hx hb dX10_isDigit_7 (by decide) ?_
    rcases br9 hrun with ⟨hc2, hrun⟩ | ⟨hc2, hrun⟩
    · refine lv_icmp_gt (tgt := 16) hx hb dX10_isDigit_9 (by decide) (fun _ => ?_) (fun c => absurd hc2 c)
      exact J16 _ _ _ hrun hP hD hK hS (lv_sub hl [] rfl)
    · refine lv_icmp_gt (tgt := 16) hx hb dX10_isDigit_9 (by decide) (fun c => absurd c hc2) (fun _ => ?_)
      refine lv_iconst (v := 1) hx hb dX10_isDigit_12 (by decide) ?_
      refine lv_goto (tgt := 17) hx hb dX10_isDigit_13 (by decide) ?_
      exact J17 1 _ _ _ hrun hP hD hK hS (lv_sub hl [] rfl)
def fX10_append_L3 (p1 : Int32) : Nat → Int32 → ST → Option ST
  | 0 => fun _ _ => none
  | n_3 + 1 => fun v2_3 p0w_3 => (if v2_3 < 0 then some p0w_3 else (if 1200 ≤ (p0w_3 0 1) then some p0w_3 else (if ixb (p0w_3 0 1) 1200 = true then (lt9 (upw p0w_3 1 (nn (p0w_3 0 1)) ((((p1 : Int32).toUInt32 >>> ((v2_3 : Int32).toUInt32 &&& Int32.toUInt32 31)).toInt32) &&& 255)) fun (w4 : ST) => (lt9 (upw w4 0 1 ((w4 0 1) + 1)) fun (w5 : ST) => ((fX10_append_L3 p1 n_3) (v2_3 + (-8)) w5))) else none)))
def fX10_append (p0w : ST) (p1 : Int32) : Option ST := ((fX10_append_L3 p1 NF 24 p0w).bind fun (o3 : ST) => some o3)
set_option maxHeartbeats 16000000 in
set_option maxRecDepth 100000 in
theorem kX10_append {zs : ZS} (l : Launch) (dC : Nat → ClassId) (dI : Nat → Nat → Nat) (p0a : Nat → Nat) (p0k : Nat → ClassId) (p0w : ST) (p0l : SL) (p1 : Int32) (sz : Nat) (o : ST) (hrun : fX10_append p0w p1 = some o) : Met l yX10_append (wz yX10_append cX10_append 3 (Option.none : Option Jvm.ClassFile.FieldType)) ({ frames := 0, cells := 0, slots := 0, locals := 0 } : Room) (va_Pc [.ref (p0a 0), .int p1] (PRE zs dC dI (List.flatten ([(oX10 (p0a 0) p0a p0k p0w p0l)] : List va_W)) (List.flatten ([(tX10 p0k)] : List (List (ClassId × FieldType)))) sz)) (va_Qv (fun (_ : Unit) => True) (fun _ t => POST dC dI (List.flatten ([(oX10 (p0a 0) p0a p0k o p0l)] : List va_W)) (List.flatten ([(tX10 p0k)] : List (List (ClassId × FieldType)))) (va_A (List.flatten ([(oX10 (p0a 0) p0a p0k p0w p0l)] : List va_W)) sz) t) (va_A (List.flatten ([(oX10 (p0a 0) p0a p0k p0w p0l)] : List va_W)) sz)) 0 0 (va_A (List.flatten ([(oX10 (p0a 0) p0a p0k p0w p0l)] : List va_W)) sz) := by
  refine Met.ofW (cc := cX10_append) (maxL := 3) (ret := (Option.none : Option Jvm.ClassFile.FieldType)) (by decide) rfl ?_
  intro p e s m args below meth c s₁ B hml hv
  obtain ⟨rfl, hsz, hP, hK, hD0, hE⟩ := hv
  have hx := B.exec
  have hb := B.bytes
  have hr := B.returns
  have hts0 := atoms_spec (ws := wz yX10_append cX10_append 3 (Option.none : Option Jvm.ClassFile.FieldType)) B.pre
  have hts : ∀ w ∈ gw, w.before _ s = true := fun w h => hts0 w (List.mem_cons_of_mem _ h)
  have hown : s.vm.findClass RX10 = some m.cls := findClass_of_methodNamed B.named
  have hlocks := B.notSynchronized
  subst hsz
  have hD := hD0.self (sz := s.heap.size)
  refine gQ9 ?_
  intro Q hQ
  generalize hAe : va_A (List.flatten ([(oX10 (p0a 0) p0a p0k p0w p0l)] : List va_W)) s.heap.size = A at hD hE hQ
  have hA : ∀ q : Nat, s.heap.size ≤ q → A q := fun q h => by rw [← hAe]; exact Or.inr h
  have hS : va_S A s.heap s.heap [] := va_S.rf
  have hP : va_P (dC, dI) cls (List.flatten ([(oX10 (p0a 0) p0a p0k p0w p0l)] : List va_W)) s.heap := hP
  have hl := lv_entry ([.ref (p0a 0), .int p1]) (n := 3) (Nat.le_of_ble_eq_true rfl)
  rw [lg_entry_eq]
  generalize (lg_sl ([.ref (p0a 0), .int p1]) ++ List.replicate (3 - (lg_sl ([.ref (p0a 0), .int p1])).length) Slot.unset).toArray = ls at hl ⊢
  have hl : lv_has ls 3 [(0, .ref (p0a 0)), (1, .int p1)] := hl
  obtain ⟨H, hHe⟩ : ∃ H, H = s.heap := ⟨_, rfl⟩
  obtain ⟨locs, hle⟩ : ∃ locs : List Loc, locs = [] := ⟨_, rfl⟩
  rw [← hHe] at hP
  have hS : va_S A s.heap H locs := by rw [hHe, hle]; exact hS
  show W p l e ({ frames := 0, cells := 0, slots := 0, locals := 0 } : Room) s m ([.ref (p0a 0), .int p1] : List Value).toArray below meth c s.heap [] 0 0 Q (F0 m 0 ls [])
  rw [← hle]
  refine wH9 hHe ?_
  unfold fX10_append at hrun
  refine lv_bipush (v := 24) hx hb dX10_append_0 (by decide) ?_
  refine lv_istore_n (lv' := [(2, .int 24), (0, .ref (p0a 0)), (1, .int p1)]) hx hb dX10_append_2 rfl hl (by decide) rfl (fun ls hl => ?_)
  have L3 : ∀ (n_3 : Nat) (v2_3 : Int32) (p0w_3 : ST) (o3 : ST) (H : Heap) (locs : List Loc) (ls : Array Slot), (fX10_append_L3 p1 n_3) v2_3 p0w_3 = some o3 → va_P (dC, dI) cls (List.flatten ([(oX10 (p0a 0) p0a p0k p0w_3 p0l)] : List va_W)) H → va_D A (List.flatten ([(oX10 (p0a 0) p0a p0k p0w_3 p0l)] : List va_W)) → va_K (dC, dI) cls (List.flatten ([(tX10 p0k)] : List (List (ClassId × FieldType)))) s → va_S A s.heap H locs → lv_has ls 3 [(0, .ref (p0a 0)), (1, .int p1), (2, .int v2_3)] → (∀ (H : Heap) (locs : List Loc) (ls : Array Slot), va_P (dC, dI) cls (List.flatten ([(oX10 (p0a 0) p0a p0k o3 p0l)] : List va_W)) H → va_D A (List.flatten ([(oX10 (p0a 0) p0a p0k o3 p0l)] : List va_W)) → va_K (dC, dI) cls (List.flatten ([(tX10 p0k)] : List (List (ClassId × FieldType)))) s → va_S A s.heap H locs → lv_has ls 3 [] → W p l e ({ frames := 0, cells := 0, slots := 0, locals := 0 } : Room) s m ([.ref (p0a 0), .int p1] : List Value).toArray below meth c H locs 0 0 Q (F0 m 49 ls [])) → W p l e ({ frames := 0, cells := 0, slots := 0, locals := 0 } : Room) s m ([.ref (p0a 0), .int p1] : List Value).toArray below meth c H locs 0 0 Q (F0 m 3 ls []) := by
    intro n_3
    induction n_3 with
    | zero => intro v2_3 p0w_3 o3 H locs ls hrun; exact (no9 rfl hrun).elim
    | succ n_3 IH3 =>
      intro v2_3 p0w_3 o3 H locs ls hrun hP hD hK hS hl hk3
      unfold fX10_append_L3 at hrun
      refine lv_iload_n hx hb dX10_append_3 rfl (lv_at hl 2 rfl) ?_
      rcases br9 hrun with ⟨hc1, hrun⟩ | ⟨hc1, hrun⟩
      · refine lv_if_lt (tgt := 49) hx hb dX10_append_4 (by decide) (fun _ => ?_) (fun c => absurd hc1 c)
        obtain rfl := (Option.some.inj hrun)
        exact hk3 _ _ _ hP hD hK hS (lv_sub hl [] rfl)
      · refine lv_if_lt (tgt := 49) hx hb dX10_append_4 (by decide) (fun c => absurd c hc1) (fun _ => ?_)
        refine lv_aload_n hx hb dX10_append_7 rfl (lv_at hl 0 rfl) ?_
        refine va_get (D := (dC, dI)) (ci := 0) (v := .int (p0w_3 0 1)) (C := RX10) (T := TX10) (N := 8) hx hb hts i_X10 hown hK hP 0 rfl rfl 1 (by decide) (hts _ qw1) (fun _ h9 => h9) rfl dX10_append_8 ?_
        refine lv_sipush (v := 1200) hx hb dX10_append_11 (by decide) ?_
        rcases br9 hrun with ⟨hc2, hrun⟩ | ⟨hc2, hrun⟩
        · refine lv_icmp_ge (tgt := 49) hx hb dX10_append_14 (by decide) (fun _ => ?_) (fun c => absurd hc2 c)
          obtain rfl := (Option.some.inj hrun)
          exact hk3 _ _ _ hP hD hK hS (lv_sub hl [] rfl)
        · refine lv_icmp_ge (tgt := 49) hx hb dX10_append_14 (by decide) (fun c => absurd c hc2) (fun _ => ?_)
          refine lv_aload_n hx hb dX10_append_17 rfl (lv_at hl 0 rfl) ?_
          refine va_get (D := (dC, dI)) (ci := 0) (v := .ref (p0a 1)) (C := RX10) (T := TX10) (N := 8) hx hb hts i_X10 hown hK hP 0 rfl rfl 0 (by decide) (hts _ qw2) (fun _ h9 => h9) rfl dX10_append_18 ?_
          refine lv_aload_n hx hb dX10_append_21 rfl (lv_at hl 0 rfl) ?_
          refine va_get (D := (dC, dI)) (ci := 0) (v := .int (p0w_3 0 1)) (C := RX10) (T := TX10) (N := 8) hx hb hts i_X10 hown hK hP 0 rfl rfl 1 (by decide) (hts _ qw1) (fun _ h9 => h9) rfl dX10_append_22 ?_
          refine lv_iload_n hx hb dX10_append_25 rfl (lv_at hl 1 rfl) ?_
          refine lv_iload_n hx hb dX10_append_26 rfl (lv_at hl 2 rfl) ?_
          refine lv_iushr (v := (((p1 : Int32).toUInt32 >>> ((v2_3 : Int32).toUInt32 &&& Int32.toUInt32 31)).toInt32)) hx hb dX10_append_27 rfl ?_
          refine lv_sipush (v := 255) hx hb dX10_append_28 (by decide) ?_
          refine lv_iand hx hb dX10_append_31 ?_
          obtain ⟨hq3, hrun⟩ := chk9 hrun
          refine va_iast hx hb hK hP hD hS 1 0 rfl rfl (ixb_in hq3) dX10_append_32 (fun H locs hP hD hS => ?_)
          have hP : va_P (dC, dI) cls (List.flatten ([(oX10 (p0a 0) p0a p0k (upw p0w_3 1 (nn (p0w_3 0 1)) ((((p1 : Int32).toUInt32 >>> ((v2_3 : Int32).toUInt32 &&& Int32.toUInt32 31)).toInt32) &&& 255)) p0l)] : List va_W)) H := hP
          have hD : va_D A (List.flatten ([(oX10 (p0a 0) p0a p0k (upw p0w_3 1 (nn (p0w_3 0 1)) ((((p1 : Int32).toUInt32 >>> ((v2_3 : Int32).toUInt32 &&& Int32.toUInt32 31)).toInt32) &&& 255)) p0l)] : List va_W)) := hD
          obtain ⟨w4, ew4, hrun⟩ := let9 hrun
          rw [← ew4] at hP hD
          refine lv_aload_n hx hb dX10_append_33 rfl (lv_at hl 0 rfl) ?_
          refine lv_dup hx hb dX10_append_34 rfl ?_
          refine va_get (D := (dC, dI)) (ci := 0) (v := .int (w4 0 1)) (C := RX10) (T := TX10) (N := 8) hx hb hts i_X10 hown hK hP 0 rfl rfl 1 (by decide) (hts _ qw1) (fun _ h9 => h9) rfl dX10_append_35 ?_
          refine lv_iconst (v := 1) hx hb dX10_append_38 (by decide) ?_
          refine lv_iadd hx hb dX10_append_39 ?_
          refine va_put (D := (dC, dI)) (ci := 0) (v := .int ((w4 0 1) + 1)) (ty := .int) (C := RX10) (T := TX10) (N := 8) hx hb hts i_X10 tyX10 tyX10_ok nmX10 hown hK hP hD hS 0 rfl rfl 1 (by decide) (hts _ qw1) (fun _ h9 => h9) rfl (by decide +kernel) rfl rfl (Nat.le_of_ble_eq_true rfl) dX10_append_40 (fun H locs hP hD hS => ?_)
          have hP : va_P (dC, dI) cls (List.flatten ([(oX10 (p0a 0) p0a p0k (upw w4 0 1 ((w4 0 1) + 1)) p0l)] : List va_W)) H := hP
          have hD : va_D A (List.flatten ([(oX10 (p0a 0) p0a p0k (upw w4 0 1 ((w4 0 1) + 1)) p0l)] : List va_W)) := hD
          obtain ⟨w5, ew5, hrun⟩ := let9 hrun
          rw [← ew5] at hP hD
          refine lv_iinc (v := (v2_3 + (-8))) (lv' := [(2, .int (v2_3 + (-8))), (0, .ref (p0a 0)), (1, .int p1)]) hx hb dX10_append_43 hl (k := 2) rfl rfl (by decide) rfl (fun ls hl => ?_)
          refine lv_goto (tgt := 3) hx hb dX10_append_46 (by decide) ?_
          exact IH3 (v2_3 + (-8)) w5 o3 _ _ _ hrun hP hD hK hS (lv_sub hl [1, 2, 0] rfl) hk3
  obtain ⟨o3, hc3, hrun⟩ := bnd9 hrun
  refine L3 NF 24 p0w o3 _ _ _ hc3 hP hD hK hS (lv_sub hl [1, 2, 0] rfl) ?_
  intro H locs ls hP hD hK hS hl
  have hl := hl
  have ho9 : o3 = o := Option.some.inj hrun
  have hP9 : va_P (dC, dI) cls (List.flatten ([(oX10 (p0a 0) p0a p0k o p0l)] : List va_W)) H := by first | exact hP | (rw [← ho9]; exact hP)
  have hD9 : va_D A (List.flatten ([(oX10 (p0a 0) p0a p0k o p0l)] : List va_W)) := by first | exact hD | (rw [← ho9]; exact hD)
  subst hQ
  exact W.vret hx hb hr (fun t ht hW => ⟨⟨(), rfl, trivial, ⟨by rw [ht]; exact hP9, va_K.moved hW.alike hK, hD9⟩⟩, hS.F ht⟩) hS.2.2 dX10_append_49
def fX10_kindOfWord_J89 (y0_89 : Int32) : Option Int32 := some y0_89
def fX10_kindOfWord (p0 : Int64) : Option Int32 := (if (lg_cmp p0 (422826041707 : Int64)) = 0 then some 4 else (if (lg_cmp p0 (7165066978433856869 : Int64)) = 0 then some 5 else (if (lg_cmp p0 (1701606245 : Int64)) = 0 then some 6 else (if (lg_cmp p0 (6714734 : Int64)) = 0 then some 7 else (if (lg_cmp p0 (26982 : Int64)) = 0 then some 8 else (if (lg_cmp p0 (125780071117422 : Int64)) = 0 then some 9 else (if (lg_cmp p0 (7758194 : Int64)) = 0 then some 10 else (if (lg_cmp p0 (512852847717 : Int64)) = 0 then (fX10_kindOfWord_J89 11) else (fX10_kindOfWord_J89 3)))))))))
set_option maxHeartbeats 16000000 in
set_option maxRecDepth 100000 in
theorem kX10_kindOfWord {zs : ZS} (l : Launch) (dC : Nat → ClassId) (dI : Nat → Nat → Nat) (p0 : Int64) (sz : Nat) (o : Int32) (hrun : fX10_kindOfWord p0 = some o) : Met l yX10_kindOfWord (wz yX10_kindOfWord cX10_kindOfWord 2 (Option.some Jvm.ClassFile.FieldType.int)) ({ frames := 0, cells := 0, slots := 0, locals := 0 } : Room) (va_Pc [.long p0] (PRE zs dC dI (List.flatten ([] : List va_W)) (List.flatten ([] : List (List (ClassId × FieldType)))) sz)) (va_Qi (fun (r : Int32) (_ : Unit) => r = o) (fun _ t => POST dC dI (List.flatten ([] : List va_W)) (List.flatten ([] : List (List (ClassId × FieldType)))) (va_A (List.flatten ([] : List va_W)) sz) t) (va_A (List.flatten ([] : List va_W)) sz)) 0 0 (va_A (List.flatten ([] : List va_W)) sz) := by
  refine Met.ofW (cc := cX10_kindOfWord) (maxL := 2) (ret := (Option.some Jvm.ClassFile.FieldType.int)) (by decide) rfl ?_
  intro p e s m args below meth c s₁ B hml hv
  obtain ⟨rfl, hsz, hP, hK, hD0, hE⟩ := hv
  have hx := B.exec
  have hb := B.bytes
  have hr := B.returns
  have hts0 := atoms_spec (ws := wz yX10_kindOfWord cX10_kindOfWord 2 (Option.some Jvm.ClassFile.FieldType.int)) B.pre
  have hts : ∀ w ∈ gw, w.before _ s = true := fun w h => hts0 w (List.mem_cons_of_mem _ h)
  have hown : s.vm.findClass RX10 = some m.cls := findClass_of_methodNamed B.named
  have hlocks := B.notSynchronized
  subst hsz
  have hD := hD0.self (sz := s.heap.size)
  refine gQ9 ?_
  intro Q hQ
  generalize hAe : va_A (List.flatten ([] : List va_W)) s.heap.size = A at hD hE hQ
  have hA : ∀ q : Nat, s.heap.size ≤ q → A q := fun q h => by rw [← hAe]; exact Or.inr h
  have hS : va_S A s.heap s.heap [] := va_S.rf
  have hP : va_P (dC, dI) cls (List.flatten ([] : List va_W)) s.heap := hP
  have hl := lv_entry ([.long p0]) (n := 2) (Nat.le_of_ble_eq_true rfl)
  rw [lg_entry_eq]
  generalize (lg_sl ([.long p0]) ++ List.replicate (2 - (lg_sl ([.long p0])).length) Slot.unset).toArray = ls at hl ⊢
  have hl : lv_has ls 2 [(0, .long p0)] := hl
  obtain ⟨H, hHe⟩ : ∃ H, H = s.heap := ⟨_, rfl⟩
  obtain ⟨locs, hle⟩ : ∃ locs : List Loc, locs = [] := ⟨_, rfl⟩
  rw [← hHe] at hP
  have hS : va_S A s.heap H locs := by rw [hHe, hle]; exact hS
  show W p l e ({ frames := 0, cells := 0, slots := 0, locals := 0 } : Room) s m ([.long p0] : List Value).toArray below meth c s.heap [] 0 0 Q (F0 m 0 ls [])
  rw [← hle]
  refine wH9 hHe ?_
  unfold fX10_kindOfWord at hrun
  refine lv_lload_n hx hb dX10_kindOfWord_0 rfl (lv_at hl 0 rfl) ?_
  refine lv_ldc2 (v := 422826041707) hx hb hown (hts _ qw13) dX10_kindOfWord_1 ?_
  refine W.lcmp hx hb dX10_kindOfWord_4 ?_
  rcases br9 hrun with ⟨hc1, hrun⟩ | ⟨hc1, hrun⟩
  · refine lv_if_ne (tgt := 10) hx hb dX10_kindOfWord_5 (by decide) (fun c => absurd hc1 c) (fun _ => ?_)
    refine lv_iconst (v := 4) hx hb dX10_kindOfWord_8 (by decide) ?_
    have ho9 : 4 = o := Option.some.inj hrun
    have hP9 : va_P (dC, dI) cls (List.flatten ([] : List va_W)) H := by first | exact hP | (rw [← ho9]; exact hP)
    have hD9 : va_D A (List.flatten ([] : List va_W)) := by first | exact hD | (rw [← ho9]; exact hD)
    subst hQ
    exact W.iret (v := 4) hx hb hr (fun t ht hW => ⟨⟨4, (), rfl, (by rw [← ho9]), ⟨by rw [ht]; exact hP9, va_K.moved hW.alike hK, hD9⟩⟩, hS.F ht⟩) hS.2.2 dX10_kindOfWord_9
  · refine lv_if_ne (tgt := 10) hx hb dX10_kindOfWord_5 (by decide) (fun _ => ?_) (fun c => absurd c hc1)
    refine lv_lload_n hx hb dX10_kindOfWord_10 rfl (lv_at hl 0 rfl) ?_
    refine lv_ldc2 (v := 7165066978433856869) hx hb hown (hts _ qw14) dX10_kindOfWord_11 ?_
    refine W.lcmp hx hb dX10_kindOfWord_14 ?_
    rcases br9 hrun with ⟨hc2, hrun⟩ | ⟨hc2, hrun⟩
    · refine lv_if_ne (tgt := 20) hx hb dX10_kindOfWord_15 (by decide) (fun c => absurd hc2 c) (fun _ => ?_)
      refine lv_iconst (v := 5) hx hb dX10_kindOfWord_18 (by decide) ?_
      have ho9 : 5 = o := Option.some.inj hrun
      have hP9 : va_P (dC, dI) cls (List.flatten ([] : List va_W)) H := by first | exact hP | (rw [← ho9]; exact hP)
      have hD9 : va_D A (List.flatten ([] : List va_W)) := by first | exact hD | (rw [← ho9]; exact hD)
      subst hQ
      exact W.iret (v := 5) hx hb hr (fun t ht hW => ⟨⟨5, (), rfl, (by rw [← ho9]), ⟨by rw [ht]; exact hP9, va_K.moved hW.alike hK, hD9⟩⟩, hS.F ht⟩) hS.2.2 dX10_kindOfWord_19
    · refine lv_if_ne (tgt := 20) hx hb dX10_kindOfWord_15 (by decide) (fun _ => ?_) (fun c => absurd c hc2)
      refine lv_lload_n hx hb dX10_kindOfWord_20 rfl (lv_at hl 0 rfl) ?_
      refine lv_ldc2 (v := 1701606245) hx hb hown (hts _ qw15) dX10_kindOfWord_21 ?_
      refine W.lcmp hx hb dX10_kindOfWord_24 ?_
      rcases br9 hrun with ⟨hc3, hrun⟩ | ⟨hc3, hrun⟩
      · refine lv_if_ne (tgt := 31) hx hb dX10_kindOfWord_25 (by decide) (fun c => absurd hc3 c) (fun _ => ?_)
        refine lv_bipush (v := 6) hx hb dX10_kindOfWord_28 (by decide) ?_
        have ho9 : 6 = o := Option.some.inj hrun
        have hP9 : va_P (dC, dI) cls (List.flatten ([] : List va_W)) H := by first | exact hP | (rw [← ho9]; exact hP)
        have hD9 : va_D A (List.flatten ([] : List va_W)) := by first | exact hD | (rw [← ho9]; exact hD)
        subst hQ
        exact W.iret (v := 6) hx hb hr (fun t ht hW => ⟨⟨6, (), rfl, (by rw [← ho9]), ⟨by rw [ht]; exact hP9, va_K.moved hW.alike hK, hD9⟩⟩, hS.F ht⟩) hS.2.2 dX10_kindOfWord_30
      · refine lv_if_ne (tgt := 31) hx hb dX10_kindOfWord_25 (by decide) (fun _ => ?_) (fun c => absurd c hc3)
        refine lv_lload_n hx hb dX10_kindOfWord_31 rfl (lv_at hl 0 rfl) ?_
        refine lv_ldc2 (v := 6714734) hx hb hown (hts _ qw16) dX10_kindOfWord_32 ?_
        refine W.lcmp hx hb dX10_kindOfWord_35 ?_
        rcases br9 hrun with ⟨hc4, hrun⟩ | ⟨hc4, hrun⟩
        · refine lv_if_ne (tgt := 42) hx hb dX10_kindOfWord_36 (by decide) (fun c => absurd hc4 c) (fun _ => ?_)
          refine lv_bipush (v := 7) hx hb dX10_kindOfWord_39 (by decide) ?_
          have ho9 : 7 = o := Option.some.inj hrun
          have hP9 : va_P (dC, dI) cls (List.flatten ([] : List va_W)) H := by first | exact hP | (rw [← ho9]; exact hP)
          have hD9 : va_D A (List.flatten ([] : List va_W)) := by first | exact hD | (rw [← ho9]; exact hD)
          subst hQ
          exact W.iret (v := 7) hx hb hr (fun t ht hW => ⟨⟨7, (), rfl, (by rw [← ho9]), ⟨by rw [ht]; exact hP9, va_K.moved hW.alike hK, hD9⟩⟩, hS.F ht⟩) hS.2.2 dX10_kindOfWord_41
        · refine lv_if_ne (tgt := 42) hx hb dX10_kindOfWord_36 (by decide) (fun _ => ?_) (fun c => absurd c hc4)
          refine lv_lload_n hx hb dX10_kindOfWord_42 rfl (lv_at hl 0 rfl) ?_
          refine lv_ldc2 (v := 26982) hx hb hown (hts _ qw17) dX10_kindOfWord_43 ?_
          refine W.lcmp hx hb dX10_kindOfWord_46 ?_
          rcases br9 hrun with ⟨hc5, hrun⟩ | ⟨hc5, hrun⟩
          · refine lv_if_ne (tgt := 53) hx hb dX10_kindOfWord_47 (by decide) (fun c => absurd hc5 c) (fun _ => ?_)
            refine lv_bipush (v := 8) hx hb dX10_kindOfWord_50 (by decide) ?_
            have ho9 : 8 = o := Option.some.inj hrun
            have hP9 : va_P (dC, dI) cls (List.flatten ([] : List va_W)) H := by first | exact hP | (rw [← ho9]; exact hP)
            have hD9 : va_D A (List.flatten ([] : List va_W)) := by first | exact hD | (rw [← ho9]; exact hD)
            subst hQ
            exact W.iret (v := 8) hx hb hr (fun t ht hW => ⟨⟨8, (), rfl, (by rw [← ho9]), ⟨by rw [ht]; exact hP9, va_K.moved hW.alike hK, hD9⟩⟩, hS.F ht⟩) hS.2.2 dX10_kindOfWord_52
          · refine lv_if_ne (tgt := 53) hx hb dX10_kindOfWord_47 (by decide) (fun _ => ?_) (fun c => absurd c hc5)
            refine lv_lload_n hx hb dX10_kindOfWord_53 rfl (lv_at hl 0 rfl) ?_
            refine lv_ldc2 (v := 125780071117422) hx hb hown (hts _ qw18) dX10_kindOfWord_54 ?_
            refine W.lcmp hx hb dX10_kindOfWord_57 ?_
            rcases br9 hrun with ⟨hc6, hrun⟩ | ⟨hc6, hrun⟩
            · refine lv_if_ne (tgt := 64) hx hb dX10_kindOfWord_58 (by decide) (fun c => absurd hc6 c) (fun _ => ?_)
              refine lv_bipush (v := 9) hx hb dX10_kindOfWord_61 (by decide) ?_
              have ho9 : 9 = o := Option.some.inj hrun
              have hP9 : va_P (dC, dI) cls (List.flatten ([] : List va_W)) H := by first | exact hP | (rw [← ho9]; exact hP)
              have hD9 : va_D A (List.flatten ([] : List va_W)) := by first | exact hD | (rw [← ho9]; exact hD)
              subst hQ
              exact W.iret (v := 9) hx hb hr (fun t ht hW => ⟨⟨9, (), rfl, (by rw [← ho9]), ⟨by rw [ht]; exact hP9, va_K.moved hW.alike hK, hD9⟩⟩, hS.F ht⟩) hS.2.2 dX10_kindOfWord_63
            · refine lv_if_ne (tgt := 64) hx hb dX10_kindOfWord_58 (by decide) (fun _ => ?_) (fun c => absurd c hc6)
              refine lv_lload_n hx hb dX10_kindOfWord_64 rfl (lv_at hl 0 rfl) ?_
              refine lv_ldc2 (v := 7758194) hx hb hown (hts _ qw19) dX10_kindOfWord_65 ?_
              refine W.lcmp hx hb dX10_kindOfWord_68 ?_
              rcases br9 hrun with ⟨hc7, hrun⟩ | ⟨hc7, hrun⟩
              · refine lv_if_ne (tgt := 75) hx hb dX10_kindOfWord_69 (by decide) (fun c => absurd hc7 c) (fun _ => ?_)
                refine lv_bipush (v := 10) hx hb dX10_kindOfWord_72 (by decide) ?_
                have ho9 : 10 = o := Option.some.inj hrun
                have hP9 : va_P (dC, dI) cls (List.flatten ([] : List va_W)) H := by first | exact hP | (rw [← ho9]; exact hP)
                have hD9 : va_D A (List.flatten ([] : List va_W)) := by first | exact hD | (rw [← ho9]; exact hD)
                subst hQ
                exact W.iret (v := 10) hx hb hr (fun t ht hW => ⟨⟨10, (), rfl, (by rw [← ho9]), ⟨by rw [ht]; exact hP9, va_K.moved hW.alike hK, hD9⟩⟩, hS.F ht⟩) hS.2.2 dX10_kindOfWord_74
              · refine lv_if_ne (tgt := 75) hx hb dX10_kindOfWord_69 (by decide) (fun _ => ?_) (fun c => absurd c hc7)
                refine lv_lload_n hx hb dX10_kindOfWord_75 rfl (lv_at hl 0 rfl) ?_
                refine lv_ldc2 (v := 512852847717) hx hb hown (hts _ qw20) dX10_kindOfWord_76 ?_
                refine W.lcmp hx hb dX10_kindOfWord_79 ?_
                have J89 : ∀ (y0_89 : Int32) (H : Heap) (locs : List Loc) (ls : Array Slot), (fX10_kindOfWord_J89 y0_89) = some o → va_P (dC, dI) cls (List.flatten ([] : List va_W)) H → va_D A (List.flatten ([] : List va_W)) → va_K (dC, dI) cls (List.flatten ([] : List (List (ClassId × FieldType)))) s → va_S A s.heap H locs → lv_has ls 2 [] → W p l e ({ frames := 0, cells := 0, slots := 0, locals := 0 } : Room) s m ([.long p0] : List Value).toArray below meth c H locs 0 0 Q (F0 m 89 ls [.int y0_89]) := by
                  intro y0_89 H locs ls hrun hP hD hK hS hl 
                  unfold fX10_kindOfWord_J89 at hrun
                  have ho9 : y0_89 = o := Option.some.inj hrun
                  have hP9 : va_P (dC, dI) cls (List.flatten ([] : List va_W)) H := by first | exact hP | (rw [← ho9]; exact hP)
                  have hD9 : va_D A (List.flatten ([] : List va_W)) := by first | exact hD | (rw [← ho9]; exact hD)
                  subst hQ
                  exact W.iret (v := y0_89) hx hb hr (fun t ht hW => ⟨⟨y0_89, (), rfl, (by rw [← ho9]), ⟨by rw [ht]; exact hP9, va_K.moved hW.alike hK, hD9⟩⟩, hS.F ht⟩) hS.2.2 dX10_kindOfWord_89
                rcases br9 hrun with ⟨hc8, hrun⟩ | ⟨hc8, hrun⟩
                · refine lv_if_ne (tgt := 88) hx hb dX10_kindOfWord_80 (by decide) (fun c => absurd hc8 c) (fun _ => ?_)
                  refine lv_bipush (v := 11) hx hb dX10_kindOfWord_83 (by decide) ?_
                  refine lv_goto (tgt := 89) hx hb dX10_kindOfWord_85 (by decide) ?_
                  exact J89 11 _ _ _ hrun hP hD hK hS (lv_sub hl [] rfl)
                · refine lv_if_ne (tgt := 88) hx hb dX10_kindOfWord_80 (by decide) (fun _ => ?_) (fun c => absurd c hc8)
                  refine lv_iconst (v := 3) hx hb dX10_kindOfWord_88 (by decide) ?_
                  exact J89 3 _ _ _ hrun hP hD hK hS (lv_sub hl [] rfl)
def fX10_readFigure_L5  : Nat → ST → Option ST
  | 0 => fun _ => none
  | n_5 + 1 => fun p0w_5 => (if (p0w_5 0 1) ≤ (p0w_5 0 6) then some p0w_5 else (if ixb (p0w_5 0 6) 1200 = true then (if (p0w_5 1 (nn (p0w_5 0 6))) < 48 then some p0w_5 else (if ixb (p0w_5 0 6) 1200 = true then (if 57 < (p0w_5 1 (nn (p0w_5 0 6))) then some p0w_5 else (if ixb (p0w_5 0 6) 1200 = true then (lt9 (upw p0w_5 0 4 (((p0w_5 0 4) * 10) + ((p0w_5 1 (nn (p0w_5 0 6))) - 48))) fun (w8 : ST) => (lt9 (upw w8 0 6 ((w8 0 6) + 1)) fun (w9 : ST) => ((fX10_readFigure_L5 n_5) w9))) else none)) else none)) else none))
def fX10_readFigure (p0w : ST) : Option ST := (lt9 (upw p0w 0 4 0) fun (w1 : ST) => ((fX10_readFigure_L5 NF w1).bind fun (o5 : ST) => some o5))
set_option maxHeartbeats 16000000 in
set_option maxRecDepth 100000 in
theorem kX10_readFigure {zs : ZS} (l : Launch) (dC : Nat → ClassId) (dI : Nat → Nat → Nat) (p0a : Nat → Nat) (p0k : Nat → ClassId) (p0w : ST) (p0l : SL) (sz : Nat) (o : ST) (hrun : fX10_readFigure p0w = some o) : Met l yX10_readFigure (wz yX10_readFigure cX10_readFigure 1 (Option.none : Option Jvm.ClassFile.FieldType)) ({ frames := 0, cells := 0, slots := 0, locals := 0 } : Room) (va_Pc [.ref (p0a 0)] (PRE zs dC dI (List.flatten ([(oX10 (p0a 0) p0a p0k p0w p0l)] : List va_W)) (List.flatten ([(tX10 p0k)] : List (List (ClassId × FieldType)))) sz)) (va_Qv (fun (_ : Unit) => True) (fun _ t => POST dC dI (List.flatten ([(oX10 (p0a 0) p0a p0k o p0l)] : List va_W)) (List.flatten ([(tX10 p0k)] : List (List (ClassId × FieldType)))) (va_A (List.flatten ([(oX10 (p0a 0) p0a p0k p0w p0l)] : List va_W)) sz) t) (va_A (List.flatten ([(oX10 (p0a 0) p0a p0k p0w p0l)] : List va_W)) sz)) 0 0 (va_A (List.flatten ([(oX10 (p0a 0) p0a p0k p0w p0l)] : List va_W)) sz) := by
  refine Met.ofW (cc := cX10_readFigure) (maxL := 1) (ret := (Option.none : Option Jvm.ClassFile.FieldType)) (by decide) rfl ?_
  intro p e s m args below meth c s₁ B hml hv
  obtain ⟨rfl, hsz, hP, hK, hD0, hE⟩ := hv
  have hx := B.exec
  have hb := B.bytes
  have hr := B.returns
  have hts0 := atoms_spec (ws := wz yX10_readFigure cX10_readFigure 1 (Option.none : Option Jvm.ClassFile.FieldType)) B.pre
  have hts : ∀ w ∈ gw, w.before _ s = true := fun w h => hts0 w (List.mem_cons_of_mem _ h)
  have hown : s.vm.findClass RX10 = some m.cls := findClass_of_methodNamed B.named
  have hlocks := B.notSynchronized
  subst hsz
  have hD := hD0.self (sz := s.heap.size)
  refine gQ9 ?_
  intro Q hQ
  generalize hAe : va_A (List.flatten ([(oX10 (p0a 0) p0a p0k p0w p0l)] : List va_W)) s.heap.size = A at hD hE hQ
  have hA : ∀ q : Nat, s.heap.size ≤ q → A q := fun q h => by rw [← hAe]; exact Or.inr h
  have hS : va_S A s.heap s.heap [] := va_S.rf
  have hP : va_P (dC, dI) cls (List.flatten ([(oX10 (p0a 0) p0a p0k p0w p0l)] : List va_W)) s.heap := hP
  have hl := lv_entry ([.ref (p0a 0)]) (n := 1) (Nat.le_of_ble_eq_true rfl)
  rw [lg_entry_eq]
  generalize (lg_sl ([.ref (p0a 0)]) ++ List.replicate (1 - (lg_sl ([.ref (p0a 0)])).length) Slot.unset).toArray = ls at hl ⊢
  have hl : lv_has ls 1 [(0, .ref (p0a 0))] := hl
  obtain ⟨H, hHe⟩ : ∃ H, H = s.heap := ⟨_, rfl⟩
  obtain ⟨locs, hle⟩ : ∃ locs : List Loc, locs = [] := ⟨_, rfl⟩
  rw [← hHe] at hP
  have hS : va_S A s.heap H locs := by rw [hHe, hle]; exact hS
  show W p l e ({ frames := 0, cells := 0, slots := 0, locals := 0 } : Room) s m ([.ref (p0a 0)] : List Value).toArray below meth c s.heap [] 0 0 Q (F0 m 0 ls [])
  rw [← hle]
  refine wH9 hHe ?_
  unfold fX10_readFigure at hrun
  refine lv_aload_n hx hb dX10_readFigure_0 rfl (lv_at hl 0 rfl) ?_
  refine lv_iconst (v := 0) hx hb dX10_readFigure_1 (by decide) ?_
  refine va_put (D := (dC, dI)) (ci := 0) (v := .int 0) (ty := .int) (C := RX10) (T := TX10) (N := 8) hx hb hts i_X10 tyX10 tyX10_ok nmX10 hown hK hP hD hS 0 rfl rfl 4 (by decide) (hts _ qw21) (fun _ h9 => h9) rfl (by decide +kernel) rfl rfl (Nat.le_of_ble_eq_true rfl) dX10_readFigure_2 (fun H locs hP hD hS => ?_)
  have hP : va_P (dC, dI) cls (List.flatten ([(oX10 (p0a 0) p0a p0k (upw p0w 0 4 0) p0l)] : List va_W)) H := hP
  have hD : va_D A (List.flatten ([(oX10 (p0a 0) p0a p0k (upw p0w 0 4 0) p0l)] : List va_W)) := hD
  obtain ⟨w1, ew1, hrun⟩ := let9 hrun
  rw [← ew1] at hP hD
  have L5 : ∀ (n_5 : Nat) (p0w_5 : ST) (o5 : ST) (H : Heap) (locs : List Loc) (ls : Array Slot), (fX10_readFigure_L5 n_5) p0w_5 = some o5 → va_P (dC, dI) cls (List.flatten ([(oX10 (p0a 0) p0a p0k p0w_5 p0l)] : List va_W)) H → va_D A (List.flatten ([(oX10 (p0a 0) p0a p0k p0w_5 p0l)] : List va_W)) → va_K (dC, dI) cls (List.flatten ([(tX10 p0k)] : List (List (ClassId × FieldType)))) s → va_S A s.heap H locs → lv_has ls 1 [(0, .ref (p0a 0))] → (∀ (H : Heap) (locs : List Loc) (ls : Array Slot), va_P (dC, dI) cls (List.flatten ([(oX10 (p0a 0) p0a p0k o5 p0l)] : List va_W)) H → va_D A (List.flatten ([(oX10 (p0a 0) p0a p0k o5 p0l)] : List va_W)) → va_K (dC, dI) cls (List.flatten ([(tX10 p0k)] : List (List (ClassId × FieldType)))) s → va_S A s.heap H locs → lv_has ls 1 [] → W p l e ({ frames := 0, cells := 0, slots := 0, locals := 0 } : Room) s m ([.ref (p0a 0)] : List Value).toArray below meth c H locs 0 0 Q (F0 m 81 ls [])) → W p l e ({ frames := 0, cells := 0, slots := 0, locals := 0 } : Room) s m ([.ref (p0a 0)] : List Value).toArray below meth c H locs 0 0 Q (F0 m 5 ls []) := by
    intro n_5
    induction n_5 with
    | zero => intro p0w_5 o5 H locs ls hrun; exact (no9 rfl hrun).elim
    | succ n_5 IH5 =>
      intro p0w_5 o5 H locs ls hrun hP hD hK hS hl hk5
      unfold fX10_readFigure_L5 at hrun
      refine lv_aload_n hx hb dX10_readFigure_5 rfl (lv_at hl 0 rfl) ?_
      refine va_get (D := (dC, dI)) (ci := 0) (v := .int (p0w_5 0 6)) (C := RX10) (T := TX10) (N := 8) hx hb hts i_X10 hown hK hP 0 rfl rfl 6 (by decide) (hts _ qw0) (fun _ h9 => h9) rfl dX10_readFigure_6 ?_
      refine lv_aload_n hx hb dX10_readFigure_9 rfl (lv_at hl 0 rfl) ?_
      refine va_get (D := (dC, dI)) (ci := 0) (v := .int (p0w_5 0 1)) (C := RX10) (T := TX10) (N := 8) hx hb hts i_X10 hown hK hP 0 rfl rfl 1 (by decide) (hts _ qw1) (fun _ h9 => h9) rfl dX10_readFigure_10 ?_
      rcases br9 hrun with ⟨hc2, hrun⟩ | ⟨hc2, hrun⟩
      · refine lv_icmp_ge (tgt := 81) hx hb dX10_readFigure_13 (by decide) (fun _ => ?_) (fun c => absurd hc2 c)
        obtain rfl := (Option.some.inj hrun)
        exact hk5 _ _ _ hP hD hK hS (lv_sub hl [] rfl)
      · refine lv_icmp_ge (tgt := 81) hx hb dX10_readFigure_13 (by decide) (fun c => absurd c hc2) (fun _ => ?_)
        refine lv_aload_n hx hb dX10_readFigure_16 rfl (lv_at hl 0 rfl) ?_
        refine va_get (D := (dC, dI)) (ci := 0) (v := .ref (p0a 1)) (C := RX10) (T := TX10) (N := 8) hx hb hts i_X10 hown hK hP 0 rfl rfl 0 (by decide) (hts _ qw2) (fun _ h9 => h9) rfl dX10_readFigure_17 ?_
        refine lv_aload_n hx hb dX10_readFigure_20 rfl (lv_at hl 0 rfl) ?_
        refine va_get (D := (dC, dI)) (ci := 0) (v := .int (p0w_5 0 6)) (C := RX10) (T := TX10) (N := 8) hx hb hts i_X10 hown hK hP 0 rfl rfl 6 (by decide) (hts _ qw0) (fun _ h9 => h9) rfl dX10_readFigure_21 ?_
        obtain ⟨hq3, hrun⟩ := chk9 hrun
        refine va_iald hx hb hK hP 1 0 rfl rfl (ixb_in hq3) dX10_readFigure_24 ?_
        refine lv_bipush (v := 48) hx hb dX10_readFigure_25 (by decide) ?_
        rcases br9 hrun with ⟨hc4, hrun⟩ | ⟨hc4, hrun⟩
        · refine lv_icmp_lt (tgt := 81) hx hb dX10_readFigure_27 (by decide) (fun _ => ?_) (fun c => absurd hc4 c)
          obtain rfl := (Option.some.inj hrun)
          exact hk5 _ _ _ hP hD hK hS (lv_sub hl [] rfl)
        · refine lv_icmp_lt (tgt := 81) hx hb dX10_readFigure_27 (by decide) (fun c => absurd c hc4) (fun _ => ?_)
          refine lv_aload_n hx hb dX10_readFigure_30 rfl (lv_at hl 0 rfl) ?_
          refine va_get (D := (dC, dI)) (ci := 0) (v := .ref (p0a 1)) (C := RX10) (T := TX10) (N := 8) hx hb hts i_X10 hown hK hP 0 rfl rfl 0 (by decide) (hts _ qw2) (fun _ h9 => h9) rfl dX10_readFigure_31 ?_
          refine lv_aload_n hx hb dX10_readFigure_34 rfl (lv_at hl 0 rfl) ?_
          refine va_get (D := (dC, dI)) (ci := 0) (v := .int (p0w_5 0 6)) (C := RX10) (T := TX10) (N := 8) hx hb hts i_X10 hown hK hP 0 rfl rfl 6 (by decide) (hts _ qw0) (fun _ h9 => h9) rfl dX10_readFigure_35 ?_
          obtain ⟨hq5, hrun⟩ := chk9 hrun
          refine va_iald hx hb hK hP 1 0 rfl rfl (ixb_in hq5) dX10_readFigure_38 ?_
          refine lv_bipush (v := 57) hx hb dX10_readFigure_39 (by decide) ?_
          rcases br9 hrun with ⟨hc6, hrun⟩ | ⟨hc6, hrun⟩
          · refine lv_icmp_gt (tgt := 81) hx hb dX10_readFigure_41 (by decide) (fun _ => ?_) (fun c => absurd hc6 c)
            obtain rfl := (Option.some.inj hrun)
            exact hk5 _ _ _ hP hD hK hS (lv_sub hl [] rfl)
          · refine lv_icmp_gt (tgt := 81) hx hb dX10_readFigure_41 (by decide) (fun c => absurd c hc6) (fun _ => ?_)
            refine lv_aload_n hx hb dX10_readFigure_44 rfl (lv_at hl 0 rfl) ?_
            refine lv_aload_n hx hb dX10_readFigure_45 rfl (lv_at hl 0 rfl) ?_
            refine va_get (D := (dC, dI)) (ci := 0) (v := .int (p0w_5 0 4)) (C := RX10) (T := TX10) (N := 8) hx hb hts i_X10 hown hK hP 0 rfl rfl 4 (by decide) (hts _ qw21) (fun _ h9 => h9) rfl dX10_readFigure_46 ?_
            refine lv_bipush (v := 10) hx hb dX10_readFigure_49 (by decide) ?_
            refine lv_imul hx hb dX10_readFigure_51 ?_
            refine lv_aload_n hx hb dX10_readFigure_52 rfl (lv_at hl 0 rfl) ?_
            refine va_get (D := (dC, dI)) (ci := 0) (v := .ref (p0a 1)) (C := RX10) (T := TX10) (N := 8) hx hb hts i_X10 hown hK hP 0 rfl rfl 0 (by decide) (hts _ qw2) (fun _ h9 => h9) rfl dX10_readFigure_53 ?_
            refine lv_aload_n hx hb dX10_readFigure_56 rfl (lv_at hl 0 rfl) ?_
            refine va_get (D := (dC, dI)) (ci := 0) (v := .int (p0w_5 0 6)) (C := RX10) (T := TX10) (N := 8) hx hb hts i_X10 hown hK hP 0 rfl rfl 6 (by decide) (hts _ qw0) (fun _ h9 => h9) rfl dX10_readFigure_57 ?_
            obtain ⟨hq7, hrun⟩ := chk9 hrun
            refine va_iald hx hb hK hP 1 0 rfl rfl (ixb_in hq7) dX10_readFigure_60 ?_
            refine lv_bipush (v := 48) hx hb dX10_readFigure_61 (by decide) ?_
            refine lv_isub hx hb dX10_readFigure_63 ?_
            refine lv_iadd hx hb dX10_readFigure_64 ?_
            refine va_put (D := (dC, dI)) (ci := 0) (v := .int (((p0w_5 0 4) * 10) + ((p0w_5 1 (nn (p0w_5 0 6))) - 48))) (ty := .int) (C := RX10) (T := TX10) (N := 8) hx hb hts i_X10 tyX10 tyX10_ok nmX10 hown hK hP hD hS 0 rfl rfl 4 (by decide) (hts _ qw21) (fun _ h9 => h9) rfl (by decide +kernel) rfl rfl (Nat.le_of_ble_eq_true rfl) dX10_readFigure_65 (fun H locs hP hD hS => ?_)
            have hP : va_P (dC, dI) cls (List.flatten ([(oX10 (p0a 0) p0a p0k (upw p0w_5 0 4 (((p0w_5 0 4) * 10) + ((p0w_5 1 (nn (p0w_5 0 6))) - 48))) p0l)] : List va_W)) H := hP
            have hD : va_D A (List.flatten ([(oX10 (p0a 0) p0a p0k (upw p0w_5 0 4 (((p0w_5 0 4) * 10) + ((p0w_5 1 (nn (p0w_5 0 6))) - 48))) p0l)] : List va_W)) := hD
            obtain ⟨w8, ew8, hrun⟩ := let9 hrun
            rw [← ew8] at hP hD
            refine lv_aload_n hx hb dX10_readFigure_68 rfl (lv_at hl 0 rfl) ?_
            refine lv_dup hx hb dX10_readFigure_69 rfl ?_
            refine va_get (D := (dC, dI)) (ci := 0) (v := .int (w8 0 6)) (C := RX10) (T := TX10) (N := 8) hx hb hts i_X10 hown hK hP 0 rfl rfl 6 (by decide) (hts _ qw0) (fun _ h9 => h9) rfl dX10_readFigure_70 ?_
            refine lv_iconst (v := 1) hx hb dX10_readFigure_73 (by decide) ?_
            refine lv_iadd hx hb dX10_readFigure_74 ?_
            refine va_put (D := (dC, dI)) (ci := 0) (v := .int ((w8 0 6) + 1)) (ty := .int) (C := RX10) (T := TX10) (N := 8) hx hb hts i_X10 tyX10 tyX10_ok nmX10 hown hK hP hD hS 0 rfl rfl 6 (by decide) (hts _ qw0) (fun _ h9 => h9) rfl (by decide +kernel) rfl rfl (Nat.le_of_ble_eq_true rfl) dX10_readFigure_75 (fun H locs hP hD hS => ?_)
            have hP : va_P (dC, dI) cls (List.flatten ([(oX10 (p0a 0) p0a p0k (upw w8 0 6 ((w8 0 6) + 1)) p0l)] : List va_W)) H := hP
            have hD : va_D A (List.flatten ([(oX10 (p0a 0) p0a p0k (upw w8 0 6 ((w8 0 6) + 1)) p0l)] : List va_W)) := hD
            obtain ⟨w9, ew9, hrun⟩ := let9 hrun
            rw [← ew9] at hP hD
            refine lv_goto (tgt := 5) hx hb dX10_readFigure_78 (by decide) ?_
            exact IH5 w9 o5 _ _ _ hrun hP hD hK hS (lv_sub hl [0] rfl) hk5
  obtain ⟨o5, hc5, hrun⟩ := bnd9 hrun
  refine L5 NF w1 o5 _ _ _ hc5 hP hD hK hS (lv_sub hl [0] rfl) ?_
  intro H locs ls hP hD hK hS hl
  have hl := hl
  have ho9 : o5 = o := Option.some.inj hrun
  have hP9 : va_P (dC, dI) cls (List.flatten ([(oX10 (p0a 0) p0a p0k o p0l)] : List va_W)) H := by first | exact hP | (rw [← ho9]; exact hP)
  have hD9 : va_D A (List.flatten ([(oX10 (p0a 0) p0a p0k o p0l)] : List va_W)) := by first | exact hD | (rw [← ho9]; exact hD)
  subst hQ
  exact W.vret hx hb hr (fun t ht hW => ⟨⟨(), rfl, trivial, ⟨by rw [ht]; exact hP9, va_K.moved hW.alike hK, hD9⟩⟩, hS.F ht⟩) hS.2.2 dX10_readFigure_81
def fX10_readWord_J88 (kk15 : Int32 → ST → SL → Option (ST × SL)) (l3 : SL) (w4 : ST) (y0_88 : Int32) : Option (ST × SL) := (kk15 y0_88 w4 l3)
def fX10_readWord_J39 (kk15 : Int32 → ST → SL → Option (ST × SL)) (v1_15 : Int32) (p0w_15 : ST) (p0l_15 : SL) : Option (ST × SL) := (lt9 (upl p0l_15 0 5 (((p0l_15 0 5) * (256 : Int64)) + ((v1_15 : Int32).toInt64))) fun (l3 : SL) => (lt9 (upw p0w_15 0 6 ((p0w_15 0 6) + 1)) fun (w4 : ST) => (if (w4 0 1) ≤ (w4 0 6) then (fX10_readWord_J88 kk15 l3 w4 0) else (if ixb (w4 0 6) 1200 = true then (fX10_readWord_J88 kk15 l3 w4 (w4 1 (nn (w4 0 6)))) else none))))
def fX10_readWord_J27 (kk15 : Int32 → ST → SL → Option (ST × SL)) (v1_15 : Int32) (p0w_15 : ST) (p0l_15 : SL) : Option (ST × SL) := (if v1_15 < 48 then some (p0w_15, p0l_15) else (if 57 < v1_15 then some (p0w_15, p0l_15) else (fX10_readWord_J39 kk15 v1_15 p0w_15 p0l_15)))
def fX10_readWord_L15  : Nat → Int32 → ST → SL → Option (ST × SL)
  | 0 => fun _ _ _ => none
  | n_15 + 1 => fun v1_15 p0w_15 p0l_15 => (if v1_15 < 97 then (fX10_readWord_J27 (fX10_readWord_L15 n_15) v1_15 p0w_15 p0l_15) else (if v1_15 ≤ 122 then (fX10_readWord_J39 (fX10_readWord_L15 n_15) v1_15 p0w_15 p0l_15) else (fX10_readWord_J27 (fX10_readWord_L15 n_15) v1_15 p0w_15 p0l_15)))
def fX10_readWord (p0w : ST) (p0l : SL) : Option (ST × SL) := (lt9 (upl p0l 0 5 0) fun (l1 : SL) => (if ixb (p0w 0 6) 1200 = true then ((fX10_readWord_L15 NF (p0w 1 (nn (p0w 0 6))) p0w l1).bind fun (o15 : ST × SL) => some ((o15.1), (o15.2))) else none))
set_option maxHeartbeats 16000000 in
set_option maxRecDepth 100000 in
theorem kX10_readWord {zs : ZS} (l : Launch) (dC : Nat → ClassId) (dI : Nat → Nat → Nat) (p0a : Nat → Nat) (p0k : Nat → ClassId) (p0w : ST) (p0l : SL) (sz : Nat) (o : ST × SL) (hrun : fX10_readWord p0w p0l = some o) : Met l yX10_readWord (wz yX10_readWord cX10_readWord 2 (Option.none : Option Jvm.ClassFile.FieldType)) ({ frames := 0, cells := 0, slots := 0, locals := 0 } : Room) (va_Pc [.ref (p0a 0)] (PRE zs dC dI (List.flatten ([(oX10 (p0a 0) p0a p0k p0w p0l)] : List va_W)) (List.flatten ([(tX10 p0k)] : List (List (ClassId × FieldType)))) sz)) (va_Qv (fun (_ : Unit) => True) (fun _ t => POST dC dI (List.flatten ([(oX10 (p0a 0) p0a p0k (o.1) (o.2))] : List va_W)) (List.flatten ([(tX10 p0k)] : List (List (ClassId × FieldType)))) (va_A (List.flatten ([(oX10 (p0a 0) p0a p0k p0w p0l)] : List va_W)) sz) t) (va_A (List.flatten ([(oX10 (p0a 0) p0a p0k p0w p0l)] : List va_W)) sz)) 0 0 (va_A (List.flatten ([(oX10 (p0a 0) p0a p0k p0w p0l)] : List va_W)) sz) := by
  refine Met.ofW (cc := cX10_readWord) (maxL := 2) (ret := (Option.none : Option Jvm.ClassFile.FieldType)) (by decide) rfl ?_
  intro p e s m args below meth c s₁ B hml hv
  obtain ⟨rfl, hsz, hP, hK, hD0, hE⟩ := hv
  have hx := B.exec
  have hb := B.bytes
  have hr := B.returns
  have hts0 := atoms_spec (ws := wz yX10_readWord cX10_readWord 2 (Option.none : Option Jvm.ClassFile.FieldType)) B.pre
  have hts : ∀ w ∈ gw, w.before _ s = true := fun w h => hts0 w (List.mem_cons_of_mem _ h)
  have hown : s.vm.findClass RX10 = some m.cls := findClass_of_methodNamed B.named
  have hlocks := B.notSynchronized
  subst hsz
  have hD := hD0.self (sz := s.heap.size)
  refine gQ9 ?_
  intro Q hQ
  generalize hAe : va_A (List.flatten ([(oX10 (p0a 0) p0a p0k p0w p0l)] : List va_W)) s.heap.size = A at hD hE hQ
  have hA : ∀ q : Nat, s.heap.size ≤ q → A q := fun q h => by rw [← hAe]; exact Or.inr h
  have hS : va_S A s.heap s.heap [] := va_S.rf
  have hP : va_P (dC, dI) cls (List.flatten ([(oX10 (p0a 0) p0a p0k p0w p0l)] : List va_W)) s.heap := hP
  have hl := lv_entry ([.ref (p0a 0)]) (n := 2) (Nat.le_of_ble_eq_true rfl)
  rw [lg_entry_eq]
  generalize (lg_sl ([.ref (p0a 0)]) ++ List.replicate (2 - (lg_sl ([.ref (p0a 0)])).length) Slot.unset).toArray = ls at hl ⊢
  have hl : lv_has ls 2 [(0, .ref (p0a 0))] := hl
  obtain ⟨H, hHe⟩ : ∃ H, H = s.heap := ⟨_, rfl⟩
  obtain ⟨locs, hle⟩ : ∃ locs : List Loc, locs = [] := ⟨_, rfl⟩
  rw [← hHe] at hP
  have hS : va_S A s.heap H locs := by rw [hHe, hle]; exact hS
  show W p l e ({ frames := 0, cells := 0, slots := 0, locals := 0 } : Room) s m ([.ref (p0a 0)] : List Value).toArray below meth c s.heap [] 0 0 Q (F0 m 0 ls [])
  rw [← hle]
  refine wH9 hHe ?_
  unfold fX10_readWord at hrun
  refine lv_aload_n hx hb dX10_readWord_0 rfl (lv_at hl 0 rfl) ?_
  refine lv_lconst (v := 0) hx hb dX10_readWord_1 (by decide) ?_
  refine va_put (D := (dC, dI)) (ci := 0) (v := .long 0) (ty := .long) (C := RX10) (T := TX10) (N := 8) hx hb hts i_X10 tyX10 tyX10_ok nmX10 hown hK hP hD hS 0 rfl rfl 5 (by decide) (hts _ qw22) (fun _ h9 => h9) rfl (by decide +kernel) rfl rfl (Nat.le_of_ble_eq_true rfl) dX10_readWord_2 (fun H locs hP hD hS => ?_)
  have hP : va_P (dC, dI) cls (List.flatten ([(oX10 (p0a 0) p0a p0k p0w (upl p0l 0 5 0))] : List va_W)) H := hP
  have hD : va_D A (List.flatten ([(oX10 (p0a 0) p0a p0k p0w (upl p0l 0 5 0))] : List va_W)) := hD
  obtain ⟨l1, el1, hrun⟩ := let9 hrun
  rw [← el1] at hP hD
  refine lv_aload_n hx hb dX10_readWord_5 rfl (lv_at hl 0 rfl) ?_
  refine va_get (D := (dC, dI)) (ci := 0) (v := .ref (p0a 1)) (C := RX10) (T := TX10) (N := 8) hx hb hts i_X10 hown hK hP 0 rfl rfl 0 (by decide) (hts _ qw2) (fun _ h9 => h9) rfl dX10_readWord_6 ?_
  refine lv_aload_n hx hb dX10_readWord_9 rfl (lv_at hl 0 rfl) ?_
  refine va_get (D := (dC, dI)) (ci := 0) (v := .int (p0w 0 6)) (C := RX10) (T := TX10) (N := 8) hx hb hts i_X10 hown hK hP 0 rfl rfl 6 (by decide) (hts _ qw0) (fun _ h9 => h9) rfl dX10_readWord_10 ?_
  obtain ⟨hq2, hrun⟩ := chk9 hrun
  refine va_iald hx hb hK hP 1 0 rfl rfl (ixb_in hq2) dX10_readWord_13 ?_
  refine lv_istore_n (lv' := [(1, .int (p0w 1 (nn (p0w 0 6)))), (0, .ref (p0a 0))]) hx hb dX10_readWord_14 rfl hl (by decide) rfl (fun ls hl => ?_)
  have L15 : ∀ (n_15 : Nat) (v1_15 : Int32) (p0w_15 : ST) (p0l_15 : SL) (o15 : ST × SL) (H : Heap) (locs : List Loc) (ls : Array Slot), (fX10_readWord_L15 n_15) v1_15 p0w_15 p0l_15 = some o15 → va_P (dC, dI) cls (List.flatten ([(oX10 (p0a 0) p0a p0k p0w_15 p0l_15)] : List va_W)) H → va_D A (List.flatten ([(oX10 (p0a 0) p0a p0k p0w_15 p0l_15)] : List va_W)) → va_K (dC, dI) cls (List.flatten ([(tX10 p0k)] : List (List (ClassId × FieldType)))) s → va_S A s.heap H locs → lv_has ls 2 [(0, .ref (p0a 0)), (1, .int v1_15)] → (∀ (H : Heap) (locs : List Loc) (ls : Array Slot), va_P (dC, dI) cls (List.flatten ([(oX10 (p0a 0) p0a p0k (o15.1) (o15.2))] : List va_W)) H → va_D A (List.flatten ([(oX10 (p0a 0) p0a p0k (o15.1) (o15.2))] : List va_W)) → va_K (dC, dI) cls (List.flatten ([(tX10 p0k)] : List (List (ClassId × FieldType)))) s → va_S A s.heap H locs → lv_has ls 2 [] → W p l e ({ frames := 0, cells := 0, slots := 0, locals := 0 } : Room) s m ([.ref (p0a 0)] : List Value).toArray below meth c H locs 0 0 Q (F0 m 92 ls [])) → W p l e ({ frames := 0, cells := 0, slots := 0, locals := 0 } : Room) s m ([.ref (p0a 0)] : List Value).toArray below meth c H locs 0 0 Q (F0 m 15 ls []) := by
    intro n_15
    induction n_15 with
    | zero => intro v1_15 p0w_15 p0l_15 o15 H locs ls hrun; exact (no9 rfl hrun).elim
    | succ n_15 IH15 =>
      intro v1_15 p0w_15 p0l_15 o15 H locs ls hrun hP hD hK hS hl hk15
      unfold fX10_readWord_L15 at hrun
      refine lv_iload_n hx hb dX10_readWord_15 rfl (lv_at hl 1 rfl) ?_
      refine lv_bipush (v := 97) hx hb dX10_readWord_16 (by decide) ?_
      have J39 : ∀ (H : Heap) (locs : List Loc) (ls : Array Slot), (fX10_readWord_J39 (fX10_readWord_L15 n_15) v1_15 p0w_15 p0l_15) = some o15 → va_P (dC, dI) cls (List.flatten ([(oX10 (p0a 0) p0a p0k p0w_15 p0l_15)] : List va_W)) H → va_D A (List.flatten ([(oX10 (p0a 0) p0a p0k p0w_15 p0l_15)] : List va_W)) → va_K (dC, dI) cls (List.flatten ([(tX10 p0k)] : List (List (ClassId × FieldType)))) s → va_S A s.heap H locs → lv_has ls 2 [(0, .ref (p0a 0)), (1, .int v1_15)] → W p l e ({ frames := 0, cells := 0, slots := 0, locals := 0 } : Room) s m ([.ref (p0a 0)] : List Value).toArray below meth c H locs 0 0 Q (F0 m 39 ls []) := by
        intro  H locs ls hrun hP hD hK hS hl 
        unfold fX10_readWord_J39 at hrun
        refine lv_aload_n hx hb dX10_readWord_39 rfl (lv_at hl 0 rfl) ?_
        refine lv_aload_n hx hb dX10_readWord_40 rfl (lv_at hl 0 rfl) ?_
        refine va_get (D := (dC, dI)) (ci := 0) (v := .long (p0l_15 0 5)) (C := RX10) (T := TX10) (N := 8) hx hb hts i_X10 hown hK hP 0 rfl rfl 5 (by decide) (hts _ qw22) (fun _ h9 => h9) rfl dX10_readWord_41 ?_
        refine lv_ldc2 (v := 256) hx hb hown (hts _ qw23) dX10_readWord_44 ?_
        refine lv_lmul hx hb dX10_readWord_47 ?_
        refine lv_iload_n hx hb dX10_readWord_48 rfl (lv_at hl 1 rfl) ?_
        refine lv_i2l (v := ((v1_15 : Int32).toInt64)) hx hb dX10_readWord_49 rfl ?_
        refine lv_ladd hx hb dX10_readWord_50 ?_
        refine va_put (D := (dC, dI)) (ci := 0) (v := .long (((p0l_15 0 5) * (256 : Int64)) + ((v1_15 : Int32).toInt64))) (ty := .long) (C := RX10) (T := TX10) (N := 8) hx hb hts i_X10 tyX10 tyX10_ok nmX10 hown hK hP hD hS 0 rfl rfl 5 (by decide) (hts _ qw22) (fun _ h9 => h9) rfl (by decide +kernel) rfl rfl (Nat.le_of_ble_eq_true rfl) dX10_readWord_51 (fun H locs hP hD hS => ?_)
        have hP : va_P (dC, dI) cls (List.flatten ([(oX10 (p0a 0) p0a p0k p0w_15 (upl p0l_15 0 5 (((p0l_15 0 5) * (256 : Int64)) + ((v1_15 : Int32).toInt64))))] : List va_W)) H := hP
        have hD : va_D A (List.flatten ([(oX10 (p0a 0) p0a p0k p0w_15 (upl p0l_15 0 5 (((p0l_15 0 5) * (256 : Int64)) + ((v1_15 : Int32).toInt64))))] : List va_W)) := hD
        obtain ⟨l3, el3, hrun⟩ := let9 hrun
        rw [← el3] at hP hD
        refine lv_aload_n hx hb dX10_readWord_54 rfl (lv_at hl 0 rfl) ?_
        refine lv_dup hx hb dX10_readWord_55 rfl ?_
        refine va_get (D := (dC, dI)) (ci := 0) (v := .int (p0w_15 0 6)) (C := RX10) (T := TX10) (N := 8) hx hb hts i_X10 hown hK hP 0 rfl rfl 6 (by decide) (hts _ qw0) (fun _ h9 => h9) rfl dX10_readWord_56 ?_
        refine lv_iconst (v := 1) hx hb dX10_readWord_59 (by decide) ?_
        refine lv_iadd hx hb dX10_readWord_60 ?_
        refine va_put (D := (dC, dI)) (ci := 0) (v := .int ((p0w_15 0 6) + 1)) (ty := .int) (C := RX10) (T := TX10) (N := 8) hx hb hts i_X10 tyX10 tyX10_ok nmX10 hown hK hP hD hS 0 rfl rfl 6 (by decide) (hts _ qw0) (fun _ h9 => h9) rfl (by decide +kernel) rfl rfl (Nat.le_of_ble_eq_true rfl) dX10_readWord_61 (fun H locs hP hD hS => ?_)
        have hP : va_P (dC, dI) cls (List.flatten ([(oX10 (p0a 0) p0a p0k (upw p0w_15 0 6 ((p0w_15 0 6) + 1)) l3)] : List va_W)) H := hP
        have hD : va_D A (List.flatten ([(oX10 (p0a 0) p0a p0k (upw p0w_15 0 6 ((p0w_15 0 6) + 1)) l3)] : List va_W)) := hD
        obtain ⟨w4, ew4, hrun⟩ := let9 hrun
        rw [← ew4] at hP hD
        refine lv_aload_n hx hb dX10_readWord_64 rfl (lv_at hl 0 rfl) ?_
        refine va_get (D := (dC, dI)) (ci := 0) (v := .int (w4 0 6)) (C := RX10) (T := TX10) (N := 8) hx hb hts i_X10 hown hK hP 0 rfl rfl 6 (by decide) (hts _ qw0) (fun _ h9 => h9) rfl dX10_readWord_65 ?_
        refine lv_aload_n hx hb dX10_readWord_68 rfl (lv_at hl 0 rfl) ?_
        refine va_get (D := (dC, dI)) (ci := 0) (v := .int (w4 0 1)) (C := RX10) (T := TX10) (N := 8) hx hb hts i_X10 hown hK hP 0 rfl rfl 1 (by decide) (hts _ qw1) (fun _ h9 => h9) rfl dX10_readWord_69 ?_
        have J88 : ∀ (y0_88 : Int32) (H : Heap) (locs : List Loc) (ls : Array Slot), (fX10_readWord_J88 (fX10_readWord_L15 n_15) l3 w4 y0_88) = some o15 → va_P (dC, dI) cls (List.flatten ([(oX10 (p0a 0) p0a p0k w4 l3)] : List va_W)) H → va_D A (List.flatten ([(oX10 (p0a 0) p0a p0k w4 l3)] : List va_W)) → va_K (dC, dI) cls (List.flatten ([(tX10 p0k)] : List (List (ClassId × FieldType)))) s → va_S A s.heap H locs → lv_has ls 2 [(0, .ref (p0a 0))] → W p l e ({ frames := 0, cells := 0, slots := 0, locals := 0 } : Room) s m ([.ref (p0a 0)] : List Value).toArray below meth c H locs 0 0 Q (F0 m 88 ls [.int y0_88]) := by
          intro y0_88 H locs ls hrun hP hD hK hS hl 
          unfold fX10_readWord_J88 at hrun
          refine lv_istore_n (lv' := [(1, .int y0_88), (0, .ref (p0a 0))]) hx hb dX10_readWord_88 rfl hl (by decide) rfl (fun ls hl => ?_)
          refine lv_goto (tgt := 15) hx hb dX10_readWord_89 (by decide) ?_
          exact IH15 y0_88 w4 l3 o15 _ _ _ hrun hP hD hK hS (lv_sub hl [1, 0] rfl) hk15
        rcases br9 hrun with ⟨hc5, hrun⟩ | ⟨hc5, hrun⟩
        · refine lv_icmp_ge (tgt := 87) hx hb dX10_readWord_72 (by decide) (fun _ => ?_) (fun c => absurd hc5 c)
          refine lv_iconst (v := 0) hx hb dX10_readWord_87 (by decide) ?_
          exact J88 0 _ _ _ hrun hP hD hK hS (lv_sub hl [0] rfl)
        · refine lv_icmp_ge (tgt := 87) hx hb dX10_readWord_72 (by decide) (fun c => absurd c hc5) (fun _ => ?_)
          refine lv_aload_n hx hb dX10_readWord_75 rfl (lv_at hl 0 rfl) ?_
          refine va_get (D := (dC, dI)) (ci := 0) (v := .ref (p0a 1)) (C := RX10) (T := TX10) (N := 8) hx hb hts i_X10 hown hK hP 0 rfl rfl 0 (by decide) (hts _ qw2) (fun _ h9 => h9) rfl dX10_readWord_76 ?_
          refine lv_aload_n hx hb dX10_readWord_79 rfl (lv_at hl 0 rfl) ?_
          refine va_get (D := (dC, dI)) (ci := 0) (v := .int (w4 0 6)) (C := RX10) (T := TX10) (N := 8) hx hb hts i_X10 hown hK hP 0 rfl rfl 6 (by decide) (hts _ qw0) (fun _ h9 => h9) rfl dX10_readWord_80 ?_
          obtain ⟨hq6, hrun⟩ := chk9 hrun
          refine va_iald hx hb hK hP 1 0 rfl rfl (ixb_in hq6) dX10_readWord_83 ?_
          refine lv_goto (tgt := 88) hx hb dX10_readWord_84 (by decide) ?_
          exact J88 (w4 1 (nn (w4 0 6))) _ _ _ hrun hP hD hK hS (lv_sub hl [0] rfl)
      have J27 : ∀ (H : Heap) (locs : List Loc) (ls : Array Slot), (fX10_readWord_J27 (fX10_readWord_L15 n_15) v1_15 p0w_15 p0l_15) = some o15 → va_P (dC, dI) cls (List.flatten ([(oX10 (p0a 0) p0a p0k p0w_15 p0l_15)] : List va_W)) H → va_D A (List.flatten ([(oX10 (p0a 0) p0a p0k p0w_15 p0l_15)] : List va_W)) → va_K (dC, dI) cls (List.flatten ([(tX10 p0k)] : List (List (ClassId × FieldType)))) s → va_S A s.heap H locs → lv_has ls 2 [(0, .ref (p0a 0)), (1, .int v1_15)] → W p l e ({ frames := 0, cells := 0, slots := 0, locals := 0 } : Room) s m ([.ref (p0a 0)] : List Value).toArray below meth c H locs 0 0 Q (F0 m 27 ls []) := by
        intro  H locs ls hrun hP hD hK hS hl 
        unfold fX10_readWord_J27 at hrun
        refine lv_iload_n hx hb dX10_readWord_27 rfl (lv_at hl 1 rfl) ?_
        refine lv_bipush (v := 48) hx hb dX10_readWord_28 (by decide) ?_
        rcases br9 hrun with ⟨hc7, hrun⟩ | ⟨hc7, hrun⟩
        · refine lv_icmp_lt (tgt := 92) hx hb dX10_readWord_30 (by decide) (fun _ => ?_) (fun c => absurd hc7 c)
          obtain rfl := (Option.some.inj hrun)
          exact hk15 _ _ _ hP hD hK hS (lv_sub hl [] rfl)
        · refine lv_icmp_lt (tgt := 92) hx hb dX10_readWord_30 (by decide) (fun c => absurd c hc7) (fun _ => ?_)
          refine lv_iload_n hx hb dX10_readWord_33 rfl (lv_at hl 1 rfl) ?_
          refine lv_bipush (v := 57) hx hb dX10_readWord_34 (by decide) ?_
          rcases br9 hrun with ⟨hc8, hrun⟩ | ⟨hc8, hrun⟩
          · refine lv_icmp_gt (tgt := 92) hx hb dX10_readWord_36 (by decide) (fun _ => ?_) (fun c => absurd hc8 c)
            obtain rfl := (Option.some.inj hrun)
            exact hk15 _ _ _ hP hD hK hS (lv_sub hl [] rfl)
          · refine lv_icmp_gt (tgt := 92) hx hb dX10_readWord_36 (by decide) (fun c => absurd c hc8) (fun _ => ?_)
            exact J39 _ _ _ hrun hP hD hK hS (lv_sub hl [0, 1] rfl)
      rcases br9 hrun with ⟨hc9, hrun⟩ | ⟨hc9, hrun⟩
      · refine lv_icmp_lt (tgt := 27) hx hb dX10_readWord_18 (by decide) (fun _ => ?_) (fun c => absurd hc9 c)
        exact J27 _ _ _ hrun hP hD hK hS (lv_sub hl [0, 1] rfl)
      · refine lv_icmp_lt (tgt := 27) hx hb dX10_readWord_18 (by decide) (fun c => absurd c hc9) (fun _ => ?_)
        refine lv_iload_n hx hb dX10_readWord_21 rfl (lv_at hl 1 rfl) ?_
        refine lv_bipush (v := 122) hx hb dX10_readWord_22 (by decide) ?_
        rcases br9 hrun with ⟨hc10, hrun⟩ | ⟨hc10, hrun⟩
        · refine lv_icmp_le (tgt := 39) hx hb dX10_readWord_24 (by decide) (fun _ => ?_) (fun c => absurd hc10 c)
          exact J39 _ _ _ hrun hP hD hK hS (lv_sub hl [0, 1] rfl)
        · refine lv_icmp_le (tgt := 39) hx hb dX10_readWord_24 (by decide) (fun c => absurd c hc10) (fun _ => ?_)
          exact J27 _ _ _ hrun hP hD hK hS (lv_sub hl [0, 1] rfl)
  obtain ⟨o15, hc15, hrun⟩ := bnd9 hrun
  refine L15 NF (p0w 1 (nn (p0w 0 6))) p0w l1 o15 _ _ _ hc15 hP hD hK hS (lv_sub hl [1, 0] rfl) ?_
  intro H locs ls hP hD hK hS hl
  have hl := hl
  have ho9 : ((o15.1), (o15.2)) = o := Option.some.inj hrun
  have hP9 : va_P (dC, dI) cls (List.flatten ([(oX10 (p0a 0) p0a p0k (o.1) (o.2))] : List va_W)) H := by first | exact hP | (rw [← ho9]; exact hP)
  have hD9 : va_D A (List.flatten ([(oX10 (p0a 0) p0a p0k (o.1) (o.2))] : List va_W)) := by first | exact hD | (rw [← ho9]; exact hD)
  subst hQ
  exact W.vret hx hb hr (fun t ht hW => ⟨⟨(), rfl, trivial, ⟨by rw [ht]; exact hP9, va_K.moved hW.alike hK, hD9⟩⟩, hS.F ht⟩) hS.2.2 dX10_readWord_92
def fX7_blame_J41 (p0w_41 : ST) : Option ST := some p0w_41
def fX7_blame_J31 (p0w : ST) (p1 : Int32) (p2 : Int32) : Option ST := (lt9 (upw p0w 0 6 p1) fun (w1 : ST) => (lt9 (upw w1 0 0 p2) fun (w2 : ST) => (fX7_blame_J41 w2)))
def fX7_blame (p0w : ST) (p1 : Int32) (p2 : Int32) : Option ST := (if (p0w 0 6) = 0 then (fX7_blame_J31 p0w p1 p2) else (if p2 < (p0w 0 0) then (fX7_blame_J31 p0w p1 p2) else (if p2 = (p0w 0 0) then (if (p0w 0 6) ≤ p1 then (fX7_blame_J41 p0w) else (fX7_blame_J31 p0w p1 p2)) else (fX7_blame_J41 p0w))))
set_option maxHeartbeats 16000000 in
set_option maxRecDepth 100000 in
theorem kX7_blame {zs : ZS} (l : Launch) (dC : Nat → ClassId) (dI : Nat → Nat → Nat) (p0a : Nat → Nat) (p0k : Nat → ClassId) (p0w : ST) (p0l : SL) (p1 : Int32) (p2 : Int32) (sz : Nat) (o : ST) (hrun : fX7_blame p0w p1 p2 = some o) : Met l yX7_blame (wz yX7_blame cX7_blame 3 (Option.none : Option Jvm.ClassFile.FieldType)) ({ frames := 0, cells := 0, slots := 0, locals := 0 } : Room) (va_Pc [.ref (p0a 0), .int p1, .int p2] (PRE zs dC dI (List.flatten ([(oX7 (p0a 0) p0a p0k p0w p0l)] : List va_W)) (List.flatten ([(tX7 p0k)] : List (List (ClassId × FieldType)))) sz)) (va_Qv (fun (_ : Unit) => True) (fun _ t => POST dC dI (List.flatten ([(oX7 (p0a 0) p0a p0k o p0l)] : List va_W)) (List.flatten ([(tX7 p0k)] : List (List (ClassId × FieldType)))) (va_A (List.flatten ([(oX7 (p0a 0) p0a p0k p0w p0l)] : List va_W)) sz) t) (va_A (List.flatten ([(oX7 (p0a 0) p0a p0k p0w p0l)] : List va_W)) sz)) 0 0 (va_A (List.flatten ([(oX7 (p0a 0) p0a p0k p0w p0l)] : List va_W)) sz) := by
  refine Met.ofW (cc := cX7_blame) (maxL := 3) (ret := (Option.none : Option Jvm.ClassFile.FieldType)) (by decide) rfl ?_
  intro p e s m args below meth c s₁ B hml hv
  obtain ⟨rfl, hsz, hP, hK, hD0, hE⟩ := hv
  have hx := B.exec
  have hb := B.bytes
  have hr := B.returns
  have hts0 := atoms_spec (ws := wz yX7_blame cX7_blame 3 (Option.none : Option Jvm.ClassFile.FieldType)) B.pre
  have hts : ∀ w ∈ gw, w.before _ s = true := fun w h => hts0 w (List.mem_cons_of_mem _ h)
  have hown : s.vm.findClass RX7 = some m.cls := findClass_of_methodNamed B.named
  have hlocks := B.notSynchronized
  subst hsz
  have hD := hD0.self (sz := s.heap.size)
  refine gQ9 ?_
  intro Q hQ
  generalize hAe : va_A (List.flatten ([(oX7 (p0a 0) p0a p0k p0w p0l)] : List va_W)) s.heap.size = A at hD hE hQ
  have hA : ∀ q : Nat, s.heap.size ≤ q → A q := fun q h => by rw [← hAe]; exact Or.inr h
  have hS : va_S A s.heap s.heap [] := va_S.rf
  have hP : va_P (dC, dI) cls (List.flatten ([(oX7 (p0a 0) p0a p0k p0w p0l)] : List va_W)) s.heap := hP
  have hl := lv_entry ([.ref (p0a 0), .int p1, .int p2]) (n := 3) (Nat.le_of_ble_eq_true rfl)
  rw [lg_entry_eq]
  generalize (lg_sl ([.ref (p0a 0), .int p1, .int p2]) ++ List.replicate (3 - (lg_sl ([.ref (p0a 0), .int p1, .int p2])).length) Slot.unset).toArray = ls at hl ⊢
  have hl : lv_has ls 3 [(0, .ref (p0a 0)), (1, .int p1), (2, .int p2)] := hl
  obtain ⟨H, hHe⟩ : ∃ H, H = s.heap := ⟨_, rfl⟩
  obtain ⟨locs, hle⟩ : ∃ locs : List Loc, locs = [] := ⟨_, rfl⟩
  rw [← hHe] at hP
  have hS : va_S A s.heap H locs := by rw [hHe, hle]; exact hS
  show W p l e ({ frames := 0, cells := 0, slots := 0, locals := 0 } : Room) s m ([.ref (p0a 0), .int p1, .int p2] : List Value).toArray below meth c s.heap [] 0 0 Q (F0 m 0 ls [])
  rw [← hle]
  refine wH9 hHe ?_
  unfold fX7_blame at hrun
  refine lv_aload_n hx hb dX7_blame_0 rfl (lv_at hl 0 rfl) ?_
  refine va_get (D := (dC, dI)) (ci := 1) (v := .int (p0w 0 6)) (C := RX7) (T := TX7) (N := 18) hx hb hts i_X7 hown hK hP 0 rfl rfl 6 (by decide) (hts _ qw24) (fun _ h9 => h9) rfl dX7_blame_1 ?_
  have J41 : ∀ (p0w_41 : ST) (H : Heap) (locs : List Loc) (ls : Array Slot), (fX7_blame_J41 p0w_41) = some o → va_P (dC, dI) cls (List.flatten ([(oX7 (p0a 0) p0a p0k p0w_41 p0l)] : List va_W)) H → va_D A (List.flatten ([(oX7 (p0a 0) p0a p0k p0w_41 p0l)] : List va_W)) → va_K (dC, dI) cls (List.flatten ([(tX7 p0k)] : List (List (ClassId × FieldType)))) s → va_S A s.heap H locs → lv_has ls 3 [] → W p l e ({ frames := 0, cells := 0, slots := 0, locals := 0 } : Room) s m ([.ref (p0a 0), .int p1, .int p2] : List Value).toArray below meth c H locs 0 0 Q (F0 m 41 ls []) := by
    intro p0w_41 H locs ls hrun hP hD hK hS hl 
    unfold fX7_blame_J41 at hrun
    have ho9 : p0w_41 = o := Option.some.inj hrun
    have hP9 : va_P (dC, dI) cls (List.flatten ([(oX7 (p0a 0) p0a p0k o p0l)] : List va_W)) H := by first | exact hP | (rw [← ho9]; exact hP)
    have hD9 : va_D A (List.flatten ([(oX7 (p0a 0) p0a p0k o p0l)] : List va_W)) := by first | exact hD | (rw [← ho9]; exact hD)
    subst hQ
    exact W.vret hx hb hr (fun t ht hW => ⟨⟨(), rfl, trivial, ⟨by rw [ht]; exact hP9, va_K.moved hW.alike hK, hD9⟩⟩, hS.F ht⟩) hS.2.2 dX7_blame_41
  have J31 : ∀ (H : Heap) (locs : List Loc) (ls : Array Slot), (fX7_blame_J31 p0w p1 p2) = some o → va_P (dC, dI) cls (List.flatten ([(oX7 (p0a 0) p0a p0k p0w p0l)] : List va_W)) H → va_D A (List.flatten ([(oX7 (p0a 0) p0a p0k p0w p0l)] : List va_W)) → va_K (dC, dI) cls (List.flatten ([(tX7 p0k)] : List (List (ClassId × FieldType)))) s → va_S A s.heap H locs → lv_has ls 3 [(0, .ref (p0a 0)), (1, .int p1), (2, .int p2)] → W p l e ({ frames := 0, cells := 0, slots := 0, locals := 0 } : Room) s m ([.ref (p0a 0), .int p1, .int p2] : List Value).toArray below meth c H locs 0 0 Q (F0 m 31 ls []) := by
    intro  H locs ls hrun hP hD hK hS hl 
    unfold fX7_blame_J31 at hrun
    refine lv_aload_n hx hb dX7_blame_31 rfl (lv_at hl 0 rfl) ?_
    refine lv_iload_n hx hb dX7_blame_32 rfl (lv_at hl 1 rfl) ?_
    refine va_put (D := (dC, dI)) (ci := 1) (v := .int p1) (ty := .int) (C := RX7) (T := TX7) (N := 18) hx hb hts i_X7 tyX7 tyX7_ok nmX7 hown hK hP hD hS 0 rfl rfl 6 (by decide) (hts _ qw24) (fun _ h9 => h9) rfl (by decide +kernel) rfl rfl (Nat.le_of_ble_eq_true rfl) dX7_blame_33 (fun H locs hP hD hS => ?_)
    have hP : va_P (dC, dI) cls (List.flatten ([(oX7 (p0a 0) p0a p0k (upw p0w 0 6 p1) p0l)] : List va_W)) H := hP
    have hD : va_D A (List.flatten ([(oX7 (p0a 0) p0a p0k (upw p0w 0 6 p1) p0l)] : List va_W)) := hD
    obtain ⟨w1, ew1, hrun⟩ := let9 hrun
    rw [← ew1] at hP hD
    refine lv_aload_n hx hb dX7_blame_36 rfl (lv_at hl 0 rfl) ?_
    refine lv_iload_n hx hb dX7_blame_37 rfl (lv_at hl 2 rfl) ?_
    refine va_put (D := (dC, dI)) (ci := 1) (v := .int p2) (ty := .int) (C := RX7) (T := TX7) (N := 18) hx hb hts i_X7 tyX7 tyX7_ok nmX7 hown hK hP hD hS 0 rfl rfl 0 (by decide) (hts _ qw25) (fun _ h9 => h9) rfl (by decide +kernel) rfl rfl (Nat.le_of_ble_eq_true rfl) dX7_blame_38 (fun H locs hP hD hS => ?_)
    have hP : va_P (dC, dI) cls (List.flatten ([(oX7 (p0a 0) p0a p0k (upw w1 0 0 p2) p0l)] : List va_W)) H := hP
    have hD : va_D A (List.flatten ([(oX7 (p0a 0) p0a p0k (upw w1 0 0 p2) p0l)] : List va_W)) := hD
    obtain ⟨w2, ew2, hrun⟩ := let9 hrun
    rw [← ew2] at hP hD
    exact J41 w2 _ _ _ hrun hP hD hK hS (lv_sub hl [] rfl)
  rcases br9 hrun with ⟨hc3, hrun⟩ | ⟨hc3, hrun⟩
  · refine lv_if_eq (tgt := 31) hx hb dX7_blame_4 (by decide) (fun _ => ?_) (fun c => absurd hc3 c)
    exact J31 _ _ _ hrun hP hD hK hS (lv_sub hl [0, 1, 2] rfl)
  · refine lv_if_eq (tgt := 31) hx hb dX7_blame_4 (by decide) (fun c => absurd c hc3) (fun _ => ?_)
    refine lv_iload_n hx hb dX7_blame_7 rfl (lv_at hl 2 rfl) ?_
    refine lv_aload_n hx hb dX7_blame_8 rfl (lv_at hl 0 rfl) ?_
    refine va_get (D := (dC, dI)) (ci := 1) (v := .int (p0w 0 0)) (C := RX7) (T := TX7) (N := 18) hx hb hts i_X7 hown hK hP 0 rfl rfl 0 (by decide) (hts _ qw25) (fun _ h9 => h9) rfl dX7_blame_9 ?_
    rcases br9 hrun with ⟨hc4, hrun⟩ | ⟨hc4, hrun⟩
    · refine lv_icmp_lt (tgt := 31) hx hb dX7_blame_12 (by decide) (fun _ => ?_) (fun c => absurd hc4 c)
      exact J31 _ _ _ hrun hP hD hK hS (lv_sub hl [0, 1, 2] rfl)
    · refine lv_icmp_lt (tgt := 31) hx hb dX7_blame_12 (by decide) (fun c => absurd c hc4) (fun _ => ?_)
      refine lv_iload_n hx hb dX7_blame_15 rfl (lv_at hl 2 rfl) ?_
      refine lv_aload_n hx hb dX7_blame_16 rfl (lv_at hl 0 rfl) ?_
      refine va_get (D := (dC, dI)) (ci := 1) (v := .int (p0w 0 0)) (C := RX7) (T := TX7) (N := 18) hx hb hts i_X7 hown hK hP 0 rfl rfl 0 (by decide) (hts _ qw25) (fun _ h9 => h9) rfl dX7_blame_17 ?_
      rcases br9 hrun with ⟨hc5, hrun⟩ | ⟨hc5, hrun⟩
      · refine lv_icmp_ne (tgt := 41) hx hb dX7_blame_20 (by decide) (fun c => absurd hc5 c) (fun _ => ?_)
        refine lv_iload_n hx hb dX7_blame_23 rfl (lv_at hl 1 rfl) ?_
        refine lv_aload_n hx hb dX7_blame_24 rfl (lv_at hl 0 rfl) ?_
        refine va_get (D := (dC, dI)) (ci := 1) (v := .int (p0w 0 6)) (C := RX7) (T := TX7) (N := 18) hx hb hts i_X7 hown hK hP 0 rfl rfl 6 (by decide) (hts _ qw24) (fun _ h9 => h9) rfl dX7_blame_25 ?_
        rcases br9 hrun with ⟨hc6, hrun⟩ | ⟨hc6, hrun⟩
        · refine lv_icmp_ge (tgt := 41) hx hb dX7_blame_28 (by decide) (fun _ => ?_) (fun c => absurd hc6 c)
          exact J41 p0w _ _ _ hrun hP hD hK hS (lv_sub hl [] rfl)
        · refine lv_icmp_ge (tgt := 41) hx hb dX7_blame_28 (by decide) (fun c => absurd c hc6) (fun _ => ?_)
          exact J31 _ _ _ hrun hP hD hK hS (lv_sub hl [0, 1, 2] rfl)
      · refine lv_icmp_ne (tgt := 41) hx hb dX7_blame_20 (by decide) (fun _ => ?_) (fun c => absurd c hc5)
        exact J41 p0w _ _ _ hrun hP hD hK hS (lv_sub hl [] rfl)
def fX6_newVariable_J22 (p1 : Int32) (p0w_22 : ST) : Option (Int32 × ST) := (if ixb p1 6 = true then some (((p0w_22 5 (nn p1)) - 1), p0w_22) else none)
def fX6_newVariable (p0w : ST) (p1 : Int32) : Option (Int32 × ST) := (if ixb p1 6 = true then (if 320 ≤ (p0w 5 (nn p1)) then (fX6_newVariable_J22 p1 p0w) else (if ixb p1 6 = true then (if ixb p1 6 = true then (lt9 (upw p0w 5 (nn p1) ((p0w 5 (nn p1)) + 1)) fun (w6 : ST) => (fX6_newVariable_J22 p1 w6)) else none) else none)) else none)
set_option maxHeartbeats 16000000 in
set_option maxRecDepth 100000 in
theorem kX6_newVariable {zs : ZS} (l : Launch) (dC : Nat → ClassId) (dI : Nat → Nat → Nat) (p0a : Nat → Nat) (p0k : Nat → ClassId) (p0w : ST) (p0l : SL) (p1 : Int32) (sz : Nat) (o : Int32 × ST) (hrun : fX6_newVariable p0w p1 = some o) : Met l yX6_newVariable (wz yX6_newVariable cX6_newVariable 2 (Option.some Jvm.ClassFile.FieldType.int)) ({ frames := 0, cells := 0, slots := 0, locals := 0 } : Room) (va_Pc [.ref (p0a 0), .int p1] (PRE zs dC dI (List.flatten ([(oX6 (p0a 0) p0a p0k p0w p0l)] : List va_W)) (List.flatten ([(tX6 p0k)] : List (List (ClassId × FieldType)))) sz)) (va_Qi (fun (r : Int32) (_ : Unit) => r = (o.1)) (fun _ t => POST dC dI (List.flatten ([(oX6 (p0a 0) p0a p0k (o.2) p0l)] : List va_W)) (List.flatten ([(tX6 p0k)] : List (List (ClassId × FieldType)))) (va_A (List.flatten ([(oX6 (p0a 0) p0a p0k p0w p0l)] : List va_W)) sz) t) (va_A (List.flatten ([(oX6 (p0a 0) p0a p0k p0w p0l)] : List va_W)) sz)) 0 0 (va_A (List.flatten ([(oX6 (p0a 0) p0a p0k p0w p0l)] : List va_W)) sz) := by
  refine Met.ofW (cc := cX6_newVariable) (maxL := 2) (ret := (Option.some Jvm.ClassFile.FieldType.int)) (by decide) rfl ?_
  intro p e s m args below meth c s₁ B hml hv
  obtain ⟨rfl, hsz, hP, hK, hD0, hE⟩ := hv
  have hx := B.exec
  have hb := B.bytes
  have hr := B.returns
  have hts0 := atoms_spec (ws := wz yX6_newVariable cX6_newVariable 2 (Option.some Jvm.ClassFile.FieldType.int)) B.pre
  have hts : ∀ w ∈ gw, w.before _ s = true := fun w h => hts0 w (List.mem_cons_of_mem _ h)
  have hown : s.vm.findClass RX6 = some m.cls := findClass_of_methodNamed B.named
  have hlocks := B.notSynchronized
  subst hsz
  have hD := hD0.self (sz := s.heap.size)
  refine gQ9 ?_
  intro Q hQ
  generalize hAe : va_A (List.flatten ([(oX6 (p0a 0) p0a p0k p0w p0l)] : List va_W)) s.heap.size = A at hD hE hQ
  have hA : ∀ q : Nat, s.heap.size ≤ q → A q := fun q h => by rw [← hAe]; exact Or.inr h
  have hS : va_S A s.heap s.heap [] := va_S.rf
  have hP : va_P (dC, dI) cls (List.flatten ([(oX6 (p0a 0) p0a p0k p0w p0l)] : List va_W)) s.heap := hP
  have hl := lv_entry ([.ref (p0a 0), .int p1]) (n := 2) (Nat.le_of_ble_eq_true rfl)
  rw [lg_entry_eq]
  generalize (lg_sl ([.ref (p0a 0), .int p1]) ++ List.replicate (2 - (lg_sl ([.ref (p0a 0), .int p1])).length) Slot.unset).toArray = ls at hl ⊢
  have hl : lv_has ls 2 [(0, .ref (p0a 0)), (1, .int p1)] := hl
  obtain ⟨H, hHe⟩ : ∃ H, H = s.heap := ⟨_, rfl⟩
  obtain ⟨locs, hle⟩ : ∃ locs : List Loc, locs = [] := ⟨_, rfl⟩
  rw [← hHe] at hP
  have hS : va_S A s.heap H locs := by rw [hHe, hle]; exact hS
  show W p l e ({ frames := 0, cells := 0, slots := 0, locals := 0 } : Room) s m ([.ref (p0a 0), .int p1] : List Value).toArray below meth c s.heap [] 0 0 Q (F0 m 0 ls [])
  rw [← hle]
  refine wH9 hHe ?_
  unfold fX6_newVariable at hrun
  refine lv_aload_n hx hb dX6_newVariable_0 rfl (lv_at hl 0 rfl) ?_
  refine va_get (D := (dC, dI)) (ci := 2) (v := .ref (p0a 5)) (C := RX6) (T := TX6) (N := 13) hx hb hts i_X6 hown hK hP 0 rfl rfl 4 (by decide) (hts _ qw28) (fun _ h9 => h9) rfl dX6_newVariable_1 ?_
  refine lv_iload_n hx hb dX6_newVariable_4 rfl (lv_at hl 1 rfl) ?_
  obtain ⟨hq1, hrun⟩ := chk9 hrun
  refine va_iald hx hb hK hP 4 3 rfl rfl (ixb_in hq1) dX6_newVariable_5 ?_
  refine lv_sipush (v := 320) hx hb dX6_newVariable_6 (by decide) ?_
  have J22 : ∀ (p0w_22 : ST) (H : Heap) (locs : List Loc) (ls : Array Slot), (fX6_newVariable_J22 p1 p0w_22) = some o → va_P (dC, dI) cls (List.flatten ([(oX6 (p0a 0) p0a p0k p0w_22 p0l)] : List va_W)) H → va_D A (List.flatten ([(oX6 (p0a 0) p0a p0k p0w_22 p0l)] : List va_W)) → va_K (dC, dI) cls (List.flatten ([(tX6 p0k)] : List (List (ClassId × FieldType)))) s → va_S A s.heap H locs → lv_has ls 2 [(0, .ref (p0a 0)), (1, .int p1)] → W p l e ({ frames := 0, cells := 0, slots := 0, locals := 0 } : Room) s m ([.ref (p0a 0), .int p1] : List Value).toArray below meth c H locs 0 0 Q (F0 m 22 ls []) := by
    intro p0w_22 H locs ls hrun hP hD hK hS hl 
    unfold fX6_newVariable_J22 at hrun
    refine lv_aload_n hx hb dX6_newVariable_22 rfl (lv_at hl 0 rfl) ?_
    refine va_get (D := (dC, dI)) (ci := 2) (v := .ref (p0a 5)) (C := RX6) (T := TX6) (N := 13) hx hb hts i_X6 hown hK hP 0 rfl rfl 4 (by decide) (hts _ qw28) (fun _ h9 => h9) rfl dX6_newVariable_23 ?_
    refine lv_iload_n hx hb dX6_newVariable_26 rfl (lv_at hl 1 rfl) ?_
    obtain ⟨hq2, hrun⟩ := chk9 hrun
    refine va_iald hx hb hK hP 4 3 rfl rfl (ixb_in hq2) dX6_newVariable_27 ?_
    refine lv_iconst (v := 1) hx hb dX6_newVariable_28 (by decide) ?_
    refine lv_isub hx hb dX6_newVariable_29 ?_
    have ho9 : (((p0w_22 5 (nn p1)) - 1), p0w_22) = o := Option.some.inj hrun
    have hP9 : va_P (dC, dI) cls (List.flatten ([(oX6 (p0a 0) p0a p0k (o.2) p0l)] : List va_W)) H := by first | exact hP | (rw [← ho9]; exact hP)
    have hD9 : va_D A (List.flatten ([(oX6 (p0a 0) p0a p0k (o.2) p0l)] : List va_W)) := by first | exact hD | (rw [← ho9]; exact hD)
    subst hQ
    exact W.iret (v := ((p0w_22 5 (nn p1)) - 1)) hx hb hr (fun t ht hW => ⟨⟨((p0w_22 5 (nn p1)) - 1), (), rfl, (by rw [← ho9]), ⟨by rw [ht]; exact hP9, va_K.moved hW.alike hK, hD9⟩⟩, hS.F ht⟩) hS.2.2 dX6_newVariable_30
  rcases br9 hrun with ⟨hc3, hrun⟩ | ⟨hc3, hrun⟩
  · refine lv_icmp_ge (tgt := 22) hx hb dX6_newVariable_9 (by decide) (fun _ => ?_) (fun c => absurd hc3 c)
    exact J22 p0w _ _ _ hrun hP hD hK hS (lv_sub hl [0, 1] rfl)
  · refine lv_icmp_ge (tgt := 22) hx hb dX6_newVariable_9 (by decide) (fun c => absurd c hc3) (fun _ => ?_)
    refine lv_aload_n hx hb dX6_newVariable_12 rfl (lv_at hl 0 rfl) ?_
    refine va_get (D := (dC, dI)) (ci := 2) (v := .ref (p0a 5)) (C := RX6) (T := TX6) (N := 13) hx hb hts i_X6 hown hK hP 0 rfl rfl 4 (by decide) (hts _ qw28) (fun _ h9 => h9) rfl dX6_newVariable_13 ?_
    refine lv_iload_n hx hb dX6_newVariable_16 rfl (lv_at hl 1 rfl) ?_
    refine lv_dup2_11 hx hb dX6_newVariable_17 rfl rfl ?_
    obtain ⟨hq4, hrun⟩ := chk9 hrun
    refine va_iald hx hb hK hP 4 3 rfl rfl (ixb_in hq4) dX6_newVariable_18 ?_
    refine lv_iconst (v := 1) hx hb dX6_newVariable_19 (by decide) ?_
    refine lv_iadd hx hb dX6_newVariable_20 ?_
    obtain ⟨hq5, hrun⟩ := chk9 hrun
    refine va_iast hx hb hK hP hD hS 4 3 rfl rfl (ixb_in hq5) dX6_newVariable_21 (fun H locs hP hD hS => ?_)
    have hP : va_P (dC, dI) cls (List.flatten ([(oX6 (p0a 0) p0a p0k (upw p0w 5 (nn p1) ((p0w 5 (nn p1)) + 1)) p0l)] : List va_W)) H := hP
    have hD : va_D A (List.flatten ([(oX6 (p0a 0) p0a p0k (upw p0w 5 (nn p1) ((p0w 5 (nn p1)) + 1)) p0l)] : List va_W)) := hD
    obtain ⟨w6, ew6, hrun⟩ := let9 hrun
    rw [← ew6] at hP hD
    exact J22 w6 _ _ _ hrun hP hD hK hS (lv_sub hl [0, 1] rfl)
def fX7_declare_J52 (o_1 : Int32 × ST) (p0w_52 : ST) (p0l_52 : SL) : Option (Int32 × ST × SL × ST) := some ((o_1.1), p0w_52, p0l_52, (o_1.2))
def fX7_declare (p0w : ST) (p0l : SL) (p1 : Int64) (p0_2w : ST) : Option (Int32 × ST × SL × ST) := ((fX6_newVariable p0_2w (p0w 0 3)).bind fun (o_1 : Int32 × ST) => (if 320 ≤ (p0w 0 9) then (fX7_declare_J52 o_1 p0w p0l) else (if ixb (p0w 0 9) 320 = true then (lt9 (upl p0l 8 (nn (p0w 0 9)) p1) fun (l5 : SL) => (if ixb (p0w 0 9) 320 = true then (lt9 (upw p0w 9 (nn (p0w 0 9)) (o_1.1)) fun (w7 : ST) => (lt9 (upw w7 0 9 ((w7 0 9) + 1)) fun (w8 : ST) => (fX7_declare_J52 o_1 w8 l5))) else none)) else none)))
set_option maxHeartbeats 16000000 in
set_option maxRecDepth 100000 in
theorem kX7_declare {zs : ZS} (l : Launch) (dC : Nat → ClassId) (dI : Nat → Nat → Nat) (p0a : Nat → Nat) (p0k : Nat → ClassId) (p0w : ST) (p0l : SL) (p1 : Int64) (p0_2a : Nat → Nat) (p0_2k : Nat → ClassId) (p0_2w : ST) (p0_2l : SL) (sz : Nat) (o : Int32 × ST × SL × ST) (hrun : fX7_declare p0w p0l p1 p0_2w = some o) : Met l yX7_declare (wz yX7_declare cX7_declare 4 (Option.some Jvm.ClassFile.FieldType.int)) ({ frames := 1, cells := 0, slots := 0, locals := 21 } : Room) (va_Pc [.ref (p0a 0), .long p1] (PRE zs dC dI (List.flatten ([(oX7 (p0a 0) p0a p0k p0w p0l), (oX6 (p0a 3) p0_2a p0_2k p0_2w p0_2l)] : List va_W)) (List.flatten ([(tX7 p0k), (tX6 p0_2k)] : List (List (ClassId × FieldType)))) sz)) (va_Qi (fun (r : Int32) (_ : Unit) => r = (o.1)) (fun _ t => POST dC dI (List.flatten ([(oX7 (p0a 0) p0a p0k (o.2.1) (o.2.2.1)), (oX6 (p0a 3) p0_2a p0_2k (o.2.2.2) p0_2l)] : List va_W)) (List.flatten ([(tX7 p0k), (tX6 p0_2k)] : List (List (ClassId × FieldType)))) (va_A (List.flatten ([(oX7 (p0a 0) p0a p0k p0w p0l), (oX6 (p0a 3) p0_2a p0_2k p0_2w p0_2l)] : List va_W)) sz) t) (va_A (List.flatten ([(oX7 (p0a 0) p0a p0k p0w p0l), (oX6 (p0a 3) p0_2a p0_2k p0_2w p0_2l)] : List va_W)) sz)) 0 0 (va_A (List.flatten ([(oX7 (p0a 0) p0a p0k p0w p0l), (oX6 (p0a 3) p0_2a p0_2k p0_2w p0_2l)] : List va_W)) sz) := by
  refine Met.ofW (cc := cX7_declare) (maxL := 4) (ret := (Option.some Jvm.ClassFile.FieldType.int)) (by decide) rfl ?_
  intro p e s m args below meth c s₁ B hml hv
  obtain ⟨rfl, hsz, hP, hK, hD0, hE⟩ := hv
  have hx := B.exec
  have hb := B.bytes
  have hr := B.returns
  have hts0 := atoms_spec (ws := wz yX7_declare cX7_declare 4 (Option.some Jvm.ClassFile.FieldType.int)) B.pre
  have hts : ∀ w ∈ gw, w.before _ s = true := fun w h => hts0 w (List.mem_cons_of_mem _ h)
  have hown : s.vm.findClass RX7 = some m.cls := findClass_of_methodNamed B.named
  have hlocks := B.notSynchronized
  subst hsz
  have hD := hD0.self (sz := s.heap.size)
  refine gQ9 ?_
  intro Q hQ
  generalize hAe : va_A (List.flatten ([(oX7 (p0a 0) p0a p0k p0w p0l), (oX6 (p0a 3) p0_2a p0_2k p0_2w p0_2l)] : List va_W)) s.heap.size = A at hD hE hQ
  have hA : ∀ q : Nat, s.heap.size ≤ q → A q := fun q h => by rw [← hAe]; exact Or.inr h
  have hS : va_S A s.heap s.heap [] := va_S.rf
  have hP : va_P (dC, dI) cls (List.flatten ([(oX7 (p0a 0) p0a p0k p0w p0l), (oX6 (p0a 3) p0_2a p0_2k p0_2w p0_2l)] : List va_W)) s.heap := hP
  have hl := lv_entry ([.ref (p0a 0), .long p1]) (n := 4) (Nat.le_of_ble_eq_true rfl)
  rw [lg_entry_eq]
  generalize (lg_sl ([.ref (p0a 0), .long p1]) ++ List.replicate (4 - (lg_sl ([.ref (p0a 0), .long p1])).length) Slot.unset).toArray = ls at hl ⊢
  have hl : lv_has ls 4 [(0, .ref (p0a 0)), (1, .long p1)] := hl
  obtain ⟨H, hHe⟩ : ∃ H, H = s.heap := ⟨_, rfl⟩
  obtain ⟨locs, hle⟩ : ∃ locs : List Loc, locs = [] := ⟨_, rfl⟩
  rw [← hHe] at hP
  have hS : va_S A s.heap H locs := by rw [hHe, hle]; exact hS
  show W p l e ({ frames := 1, cells := 0, slots := 0, locals := 21 } : Room) s m ([.ref (p0a 0), .long p1] : List Value).toArray below meth c s.heap [] 0 0 Q (F0 m 0 ls [])
  rw [← hle]
  refine wH9 hHe ?_
  unfold fX7_declare at hrun
  refine lv_aload_n hx hb dX7_declare_0 rfl (lv_at hl 0 rfl) ?_
  refine va_get (D := (dC, dI)) (ci := 1) (v := .ref (p0a 3)) (C := RX7) (T := TX7) (N := 18) hx hb hts i_X7 hown hK hP 0 rfl rfl 2 (by decide) (hts _ qw26) (fun _ h9 => h9) rfl dX7_declare_1 ?_
  refine lv_aload_n hx hb dX7_declare_4 rfl (lv_at hl 0 rfl) ?_
  refine va_get (D := (dC, dI)) (ci := 1) (v := .int (p0w 0 3)) (C := RX7) (T := TX7) (N := 18) hx hb hts i_X7 hown hK hP 0 rfl rfl 3 (by decide) (hts _ qw27) (fun _ h9 => h9) rfl dX7_declare_5 ?_
  obtain ⟨o_1, hc_1, hrun⟩ := bnd9 hrun
  have hPx : va_P (dC, dI) cls ((List.flatten ([(oX6 (p0a 3) p0_2a p0_2k p0_2w p0_2l)] : List va_W)) ++ (List.flatten ([(oX7 (p0a 0) p0a p0k p0w p0l)] : List va_W))) H := vP_fa (vP_perm hP (bP ((((List.Perm.refl _)).cons _).trans (List.Perm.swap _ _ _))))
  have hDx : va_D A ((List.flatten ([(oX6 (p0a 3) p0_2a p0_2k p0_2w p0_2l)] : List va_W)) ++ (List.flatten ([(oX7 (p0a 0) p0a p0k p0w p0l)] : List va_W))) := vD_fa (vD_perm hD (bP ((((List.Perm.refl _)).cons _).trans (List.Perm.swap _ _ _))))
  have hKx : va_K (dC, dI) cls ((List.flatten ([(tX6 p0_2k)] : List (List (ClassId × FieldType)))) ++ (List.flatten ([(tX7 p0k)] : List (List (ClassId × FieldType))))) s := vK_fa (vK_perm hK (bP ((((List.Perm.refl _)).cons _).trans (List.Perm.swap _ _ _))))
  have hPc := vP_l hPx
  have hDc := vD_l hDx
  have hKc := vK_l hKx
  have hFc := vfree hDx hS hA
  refine va_calli (va_runV (As := [.int (p0w 0 3)]) (rest := []) ⟨hx, hb, hml, hown, hts⟩ (kX6_newVariable l dC dI (p0a := (st0 (p0a 3) p0_2a)) (p0k := p0_2k) (p0w := p0_2w) (p0l := p0_2l) (p1 := (p0w 0 3)) (sz := _) (o := o_1) (hrun := hc_1)) (cwV 1 hts (gi_V qw30 qw31 qw32 qw33 (gi_z qw29)) rfl rfl rfl (by decide +kernel) ⟨Nat.le_of_ble_eq_true rfl, Nat.le_of_ble_eq_true rfl⟩) ⟨PRE.blind, va_recv hKc hPc (ci := 2) (q0 := 0) rfl rfl, PRE.of hE hS hFc hPc hKc hDc⟩ rfl rfl hl.1 rfl (lv_room (Nat.le_of_ble_eq_true rfl)) dX7_declare_8 ⟨(Nat.le_of_ble_eq_true rfl), (Nat.le_of_ble_eq_true rfl)⟩) hS (fun q _ h => hFc q h) hFc (fun r2 u t H locs ht hvm hw hB hz1 hk1 hS => ?_)
  obtain ⟨b1, b2, b3⟩ := hB
  rw [ht] at b1
  obtain ⟨hP, hD, hK⟩ := JOINC (wc := (List.flatten ([(oX6 (p0a 3) p0_2a p0_2k p0_2w p0_2l)] : List va_W))) (wr := (List.flatten ([(oX7 (p0a 0) p0a p0k p0w p0l)] : List va_W))) (w1 := (List.flatten ([(oX6 (p0a 3) p0_2a p0_2k (o_1.2) p0_2l)] : List va_W))) (t1 := (List.flatten ([(tX6 p0_2k)] : List (List (ClassId × FieldType))))) hPx hDx hKx hk1 hFc b1 (va_K.moved hvm.symm b2) b3
  have hP : va_P (dC, dI) cls (List.flatten ([(oX7 (p0a 0) p0a p0k p0w p0l), (oX6 (p0a 3) p0_2a p0_2k (o_1.2) p0_2l)] : List va_W)) H := vP_perm (vP_fb hP) (bP ((((List.Perm.refl _)).cons _).trans (List.Perm.swap _ _ _)))
  have hD : va_D A (List.flatten ([(oX7 (p0a 0) p0a p0k p0w p0l), (oX6 (p0a 3) p0_2a p0_2k (o_1.2) p0_2l)] : List va_W)) := vD_perm (vD_fb hD) (bP ((((List.Perm.refl _)).cons _).trans (List.Perm.swap _ _ _)))
  have hK : va_K (dC, dI) cls (List.flatten ([(tX7 p0k), (tX6 p0_2k)] : List (List (ClassId × FieldType)))) s := vK_perm (vK_fb hK) (bP ((((List.Perm.refl _)).cons _).trans (List.Perm.swap _ _ _)))
  obtain rfl : r2 = (o_1.1) := hw
  refine lv_istore_n (lv' := [(3, .int (o_1.1)), (0, .ref (p0a 0)), (1, .long p1)]) hx hb dX7_declare_11 rfl hl (by decide) rfl (fun ls hl => ?_)
  refine lv_aload_n hx hb dX7_declare_12 rfl (lv_at hl 1 rfl) ?_
  refine va_get (D := (dC, dI)) (ci := 1) (v := .int (p0w 0 9)) (C := RX7) (T := TX7) (N := 18) hx hb hts i_X7 hown hK hP 0 rfl rfl 9 (by decide) (hts _ qw34) (fun _ h9 => h9) rfl dX7_declare_13 ?_
  refine lv_sipush (v := 320) hx hb dX7_declare_16 (by decide) ?_
  have J52 : ∀ (p0w_52 : ST) (p0l_52 : SL) (H : Heap) (locs : List Loc) (ls : Array Slot), (fX7_declare_J52 o_1 p0w_52 p0l_52) = some o → va_P (dC, dI) cls (List.flatten ([(oX7 (p0a 0) p0a p0k p0w_52 p0l_52), (oX6 (p0a 3) p0_2a p0_2k (o_1.2) p0_2l)] : List va_W)) H → va_D A (List.flatten ([(oX7 (p0a 0) p0a p0k p0w_52 p0l_52), (oX6 (p0a 3) p0_2a p0_2k (o_1.2) p0_2l)] : List va_W)) → va_K (dC, dI) cls (List.flatten ([(tX7 p0k), (tX6 p0_2k)] : List (List (ClassId × FieldType)))) s → va_S A s.heap H locs → lv_has ls 4 [(3, .int (o_1.1))] → W p l e ({ frames := 1, cells := 0, slots := 0, locals := 21 } : Room) s m ([.ref (p0a 0), .long p1] : List Value).toArray below meth c H locs 0 0 Q (F0 m 52 ls []) := by
    intro p0w_52 p0l_52 H locs ls hrun hP hD hK hS hl 
    unfold fX7_declare_J52 at hrun
    refine lv_iload_n hx hb dX7_declare_52 rfl (lv_at hl 0 rfl) ?_
    have ho9 : ((o_1.1), p0w_52, p0l_52, (o_1.2)) = o := Option.some.inj hrun
    have hP9 : va_P (dC, dI) cls (List.flatten ([(oX7 (p0a 0) p0a p0k (o.2.1) (o.2.2.1)), (oX6 (p0a 3) p0_2a p0_2k (o.2.2.2) p0_2l)] : List va_W)) H := by first | exact hP | (rw [← ho9]; exact hP)
    have hD9 : va_D A (List.flatten ([(oX7 (p0a 0) p0a p0k (o.2.1) (o.2.2.1)), (oX6 (p0a 3) p0_2a p0_2k (o.2.2.2) p0_2l)] : List va_W)) := by first | exact hD | (rw [← ho9]; exact hD)
    subst hQ
    exact W.iret (v := (o_1.1)) hx hb hr (fun t ht hW => ⟨⟨(o_1.1), (), rfl, (by rw [← ho9]), ⟨by rw [ht]; exact hP9, va_K.moved hW.alike hK, hD9⟩⟩, hS.F ht⟩) hS.2.2 dX7_declare_53
  rcases br9 hrun with ⟨hc3, hrun⟩ | ⟨hc3, hrun⟩
  · refine lv_icmp_ge (tgt := 52) hx hb dX7_declare_19 (by decide) (fun _ => ?_) (fun c => absurd hc3 c)
    exact J52 p0w p0l _ _ _ hrun hP hD hK hS (lv_sub hl [0] rfl)
  · refine lv_icmp_ge (tgt := 52) hx hb dX7_declare_19 (by decide) (fun c => absurd c hc3) (fun _ => ?_)
    refine lv_aload_n hx hb dX7_declare_22 rfl (lv_at hl 1 rfl) ?_
    refine va_get (D := (dC, dI)) (ci := 1) (v := .ref (p0a 8)) (C := RX7) (T := TX7) (N := 18) hx hb hts i_X7 hown hK hP 0 rfl rfl 7 (by decide) (hts _ qw35) (fun _ h9 => h9) rfl dX7_declare_23 ?_
    refine lv_aload_n hx hb dX7_declare_26 rfl (lv_at hl 1 rfl) ?_
    refine va_get (D := (dC, dI)) (ci := 1) (v := .int (p0w 0 9)) (C := RX7) (T := TX7) (N := 18) hx hb hts i_X7 hown hK hP 0 rfl rfl 9 (by decide) (hts _ qw34) (fun _ h9 => h9) rfl dX7_declare_27 ?_
    refine lv_lload_n hx hb dX7_declare_30 rfl (lv_at hl 2 rfl) ?_
    obtain ⟨hq4, hrun⟩ := chk9 hrun
    refine va_last hx hb hK hP hD hS 1 0 rfl rfl (ixb_in hq4) dX7_declare_31 (fun H locs hP hD hS => ?_)
    have hP : va_P (dC, dI) cls (List.flatten ([(oX7 (p0a 0) p0a p0k p0w (upl p0l 8 (nn (p0w 0 9)) p1)), (oX6 (p0a 3) p0_2a p0_2k (o_1.2) p0_2l)] : List va_W)) H := hP
    have hD : va_D A (List.flatten ([(oX7 (p0a 0) p0a p0k p0w (upl p0l 8 (nn (p0w 0 9)) p1)), (oX6 (p0a 3) p0_2a p0_2k (o_1.2) p0_2l)] : List va_W)) := hD
    obtain ⟨l5, el5, hrun⟩ := let9 hrun
    rw [← el5] at hP hD
    refine lv_aload_n hx hb dX7_declare_32 rfl (lv_at hl 1 rfl) ?_
    refine va_get (D := (dC, dI)) (ci := 1) (v := .ref (p0a 9)) (C := RX7) (T := TX7) (N := 18) hx hb hts i_X7 hown hK hP 0 rfl rfl 8 (by decide) (hts _ qw36) (fun _ h9 => h9) rfl dX7_declare_33 ?_
    refine lv_aload_n hx hb dX7_declare_36 rfl (lv_at hl 1 rfl) ?_
    refine va_get (D := (dC, dI)) (ci := 1) (v := .int (p0w 0 9)) (C := RX7) (T := TX7) (N := 18) hx hb hts i_X7 hown hK hP 0 rfl rfl 9 (by decide) (hts _ qw34) (fun _ h9 => h9) rfl dX7_declare_37 ?_
    refine lv_iload_n hx hb dX7_declare_40 rfl (lv_at hl 0 rfl) ?_
    obtain ⟨hq6, hrun⟩ := chk9 hrun
    refine va_iast hx hb hK hP hD hS 2 1 rfl rfl (ixb_in hq6) dX7_declare_41 (fun H locs hP hD hS => ?_)
    have hP : va_P (dC, dI) cls (List.flatten ([(oX7 (p0a 0) p0a p0k (upw p0w 9 (nn (p0w 0 9)) (o_1.1)) l5), (oX6 (p0a 3) p0_2a p0_2k (o_1.2) p0_2l)] : List va_W)) H := hP
    have hD : va_D A (List.flatten ([(oX7 (p0a 0) p0a p0k (upw p0w 9 (nn (p0w 0 9)) (o_1.1)) l5), (oX6 (p0a 3) p0_2a p0_2k (o_1.2) p0_2l)] : List va_W)) := hD
    obtain ⟨w7, ew7, hrun⟩ := let9 hrun
    rw [← ew7] at hP hD
    refine lv_aload_n hx hb dX7_declare_42 rfl (lv_at hl 1 rfl) ?_
    refine lv_dup hx hb dX7_declare_43 rfl ?_
    refine va_get (D := (dC, dI)) (ci := 1) (v := .int (w7 0 9)) (C := RX7) (T := TX7) (N := 18) hx hb hts i_X7 hown hK hP 0 rfl rfl 9 (by decide) (hts _ qw34) (fun _ h9 => h9) rfl dX7_declare_44 ?_
    refine lv_iconst (v := 1) hx hb dX7_declare_47 (by decide) ?_
    refine lv_iadd hx hb dX7_declare_48 ?_
    refine va_put (D := (dC, dI)) (ci := 1) (v := .int ((w7 0 9) + 1)) (ty := .int) (C := RX7) (T := TX7) (N := 18) hx hb hts i_X7 tyX7 tyX7_ok nmX7 hown hK hP hD hS 0 rfl rfl 9 (by decide) (hts _ qw34) (fun _ h9 => h9) rfl (by decide +kernel) rfl rfl (Nat.le_of_ble_eq_true rfl) dX7_declare_49 (fun H locs hP hD hS => ?_)
    have hP : va_P (dC, dI) cls (List.flatten ([(oX7 (p0a 0) p0a p0k (upw w7 0 9 ((w7 0 9) + 1)) l5), (oX6 (p0a 3) p0_2a p0_2k (o_1.2) p0_2l)] : List va_W)) H := hP
    have hD : va_D A (List.flatten ([(oX7 (p0a 0) p0a p0k (upw w7 0 9 ((w7 0 9) + 1)) l5), (oX6 (p0a 3) p0_2a p0_2k (o_1.2) p0_2l)] : List va_W)) := hD
    obtain ⟨w8, ew8, hrun⟩ := let9 hrun
    rw [← ew8] at hP hD
    exact J52 w8 l5 _ _ _ hrun hP hD hK hS (lv_sub hl [0] rfl)
def fX6_emit_J50 (p0w_50 : ST) : Option ST := some p0w_50
def fX6_emit (p0w : ST) (p1 : Int32) (p2 : Int32) (p3 : Int32) : Option ST := (if 3200 ≤ (p0w 0 7) then (fX6_emit_J50 p0w) else (if ixb (p0w 0 7) 3200 = true then (lt9 (upw p0w 9 (nn (p0w 0 7)) p1) fun (w3 : ST) => (if ixb (w3 0 7) 3200 = true then (lt9 (upw w3 10 (nn (w3 0 7)) p2) fun (w5 : ST) => (if ixb (w5 0 7) 3200 = true then (lt9 (upw w5 11 (nn (w5 0 7)) p3) fun (w7 : ST) => (lt9 (upw w7 0 7 ((w7 0 7) + 1)) fun (w8 : ST) => (fX6_emit_J50 w8))) else none)) else none)) else none))
set_option maxHeartbeats 16000000 in
set_option maxRecDepth 100000 in
theorem kX6_emit {zs : ZS} (l : Launch) (dC : Nat → ClassId) (dI : Nat → Nat → Nat) (p0a : Nat → Nat) (p0k : Nat → ClassId) (p0w : ST) (p0l : SL) (p1 : Int32) (p2 : Int32) (p3 : Int32) (sz : Nat) (o : ST) (hrun : fX6_emit p0w p1 p2 p3 = some o) : Met l yX6_emit (wz yX6_emit cX6_emit 4 (Option.none : Option Jvm.ClassFile.FieldType)) ({ frames := 0, cells := 0, slots := 0, locals := 0 } : Room) (va_Pc [.ref (p0a 0), .int p1, .int p2, .int p3] (PRE zs dC dI (List.flatten ([(oX6 (p0a 0) p0a p0k p0w p0l)] : List va_W)) (List.flatten ([(tX6 p0k)] : List (List (ClassId × FieldType)))) sz)) (va_Qv (fun (_ : Unit) => True) (fun _ t => POST dC dI (List.flatten ([(oX6 (p0a 0) p0a p0k o p0l)] : List va_W)) (List.flatten ([(tX6 p0k)] : List (List (ClassId × FieldType)))) (va_A (List.flatten ([(oX6 (p0a 0) p0a p0k p0w p0l)] : List va_W)) sz) t) (va_A (List.flatten ([(oX6 (p0a 0) p0a p0k p0w p0l)] : List va_W)) sz)) 0 0 (va_A (List.flatten ([(oX6 (p0a 0) p0a p0k p0w p0l)] : List va_W)) sz) := by
  refine Met.ofW (cc := cX6_emit) (maxL := 4) (ret := (Option.none : Option Jvm.ClassFile.FieldType)) (by decide) rfl ?_
  intro p e s m args below meth c s₁ B hml hv
  obtain ⟨rfl, hsz, hP, hK, hD0, hE⟩ := hv
  have hx := B.exec
  have hb := B.bytes
  have hr := B.returns
  have hts0 := atoms_spec (ws := wz yX6_emit cX6_emit 4 (Option.none : Option Jvm.ClassFile.FieldType)) B.pre
  have hts : ∀ w ∈ gw, w.before _ s = true := fun w h => hts0 w (List.mem_cons_of_mem _ h)
  have hown : s.vm.findClass RX6 = some m.cls := findClass_of_methodNamed B.named
  have hlocks := B.notSynchronized
  subst hsz
  have hD := hD0.self (sz := s.heap.size)
  refine gQ9 ?_
  intro Q hQ
  generalize hAe : va_A (List.flatten ([(oX6 (p0a 0) p0a p0k p0w p0l)] : List va_W)) s.heap.size = A at hD hE hQ
  have hA : ∀ q : Nat, s.heap.size ≤ q → A q := fun q h => by rw [← hAe]; exact Or.inr h
  have hS : va_S A s.heap s.heap [] := va_S.rf
  have hP : va_P (dC, dI) cls (List.flatten ([(oX6 (p0a 0) p0a p0k p0w p0l)] : List va_W)) s.heap := hP
  have hl := lv_entry ([.ref (p0a 0), .int p1, .int p2, .int p3]) (n := 4) (Nat.le_of_ble_eq_true rfl)
  rw [lg_entry_eq]
  generalize (lg_sl ([.ref (p0a 0), .int p1, .int p2, .int p3]) ++ List.replicate (4 - (lg_sl ([.ref (p0a 0), .int p1, .int p2, .int p3])).length) Slot.unset).toArray = ls at hl ⊢
  have hl : lv_has ls 4 [(0, .ref (p0a 0)), (1, .int p1), (2, .int p2), (3, .int p3)] := hl
  obtain ⟨H, hHe⟩ : ∃ H, H = s.heap := ⟨_, rfl⟩
  obtain ⟨locs, hle⟩ : ∃ locs : List Loc, locs = [] := ⟨_, rfl⟩
  rw [← hHe] at hP
  have hS : va_S A s.heap H locs := by rw [hHe, hle]; exact hS
  show W p l e ({ frames := 0, cells := 0, slots := 0, locals := 0 } : Room) s m ([.ref (p0a 0), .int p1, .int p2, .int p3] : List Value).toArray below meth c s.heap [] 0 0 Q (F0 m 0 ls [])
  rw [← hle]
  refine wH9 hHe ?_
  unfold fX6_emit at hrun
  refine lv_aload_n hx hb dX6_emit_0 rfl (lv_at hl 0 rfl) ?_
  refine va_get (D := (dC, dI)) (ci := 2) (v := .int (p0w 0 7)) (C := RX6) (T := TX6) (N := 13) hx hb hts i_X6 hown hK hP 0 rfl rfl 7 (by decide) (hts _ qw37) (fun _ h9 => h9) rfl dX6_emit_1 ?_
  refine lv_sipush (v := 3200) hx hb dX6_emit_4 (by decide) ?_
  have J50 : ∀ (p0w_50 : ST) (H : Heap) (locs : List Loc) (ls : Array Slot), (fX6_emit_J50 p0w_50) = some o → va_P (dC, dI) cls (List.flatten ([(oX6 (p0a 0) p0a p0k p0w_50 p0l)] : List va_W)) H → va_D A (List.flatten ([(oX6 (p0a 0) p0a p0k p0w_50 p0l)] : List va_W)) → va_K (dC, dI) cls (List.flatten ([(tX6 p0k)] : List (List (ClassId × FieldType)))) s → va_S A s.heap H locs → lv_has ls 4 [] → W p l e ({ frames := 0, cells := 0, slots := 0, locals := 0 } : Room) s m ([.ref (p0a 0), .int p1, .int p2, .int p3] : List Value).toArray below meth c H locs 0 0 Q (F0 m 50 ls []) := by
    intro p0w_50 H locs ls hrun hP hD hK hS hl 
    unfold fX6_emit_J50 at hrun
    have ho9 : p0w_50 = o := Option.some.inj hrun
    have hP9 : va_P (dC, dI) cls (List.flatten ([(oX6 (p0a 0) p0a p0k o p0l)] : List va_W)) H := by first | exact hP | (rw [← ho9]; exact hP)
    have hD9 : va_D A (List.flatten ([(oX6 (p0a 0) p0a p0k o p0l)] : List va_W)) := by first | exact hD | (rw [← ho9]; exact hD)
    subst hQ
    exact W.vret hx hb hr (fun t ht hW => ⟨⟨(), rfl, trivial, ⟨by rw [ht]; exact hP9, va_K.moved hW.alike hK, hD9⟩⟩, hS.F ht⟩) hS.2.2 dX6_emit_50
  rcases br9 hrun with ⟨hc1, hrun⟩ | ⟨hc1, hrun⟩
  · refine lv_icmp_ge (tgt := 50) hx hb dX6_emit_7 (by decide) (fun _ => ?_) (fun c => absurd hc1 c)
    exact J50 p0w _ _ _ hrun hP hD hK hS (lv_sub hl [] rfl)
  · refine lv_icmp_ge (tgt := 50) hx hb dX6_emit_7 (by decide) (fun c => absurd c hc1) (fun _ => ?_)
    refine lv_aload_n hx hb dX6_emit_10 rfl (lv_at hl 0 rfl) ?_
    refine va_get (D := (dC, dI)) (ci := 2) (v := .ref (p0a 9)) (C := RX6) (T := TX6) (N := 13) hx hb hts i_X6 hown hK hP 0 rfl rfl 8 (by decide) (hts _ qw38) (fun _ h9 => h9) rfl dX6_emit_11 ?_
    refine lv_aload_n hx hb dX6_emit_14 rfl (lv_at hl 0 rfl) ?_
    refine va_get (D := (dC, dI)) (ci := 2) (v := .int (p0w 0 7)) (C := RX6) (T := TX6) (N := 13) hx hb hts i_X6 hown hK hP 0 rfl rfl 7 (by decide) (hts _ qw37) (fun _ h9 => h9) rfl dX6_emit_15 ?_
    refine lv_iload_n hx hb dX6_emit_18 rfl (lv_at hl 1 rfl) ?_
    obtain ⟨hq2, hrun⟩ := chk9 hrun
    refine va_iast hx hb hK hP hD hS 7 6 rfl rfl (ixb_in hq2) dX6_emit_19 (fun H locs hP hD hS => ?_)
    have hP : va_P (dC, dI) cls (List.flatten ([(oX6 (p0a 0) p0a p0k (upw p0w 9 (nn (p0w 0 7)) p1) p0l)] : List va_W)) H := hP
    have hD : va_D A (List.flatten ([(oX6 (p0a 0) p0a p0k (upw p0w 9 (nn (p0w 0 7)) p1) p0l)] : List va_W)) := hD
    obtain ⟨w3, ew3, hrun⟩ := let9 hrun
    rw [← ew3] at hP hD
    refine lv_aload_n hx hb dX6_emit_20 rfl (lv_at hl 0 rfl) ?_
    refine va_get (D := (dC, dI)) (ci := 2) (v := .ref (p0a 10)) (C := RX6) (T := TX6) (N := 13) hx hb hts i_X6 hown hK hP 0 rfl rfl 9 (by decide) (hts _ qw39) (fun _ h9 => h9) rfl dX6_emit_21 ?_
    refine lv_aload_n hx hb dX6_emit_24 rfl (lv_at hl 0 rfl) ?_
    refine va_get (D := (dC, dI)) (ci := 2) (v := .int (w3 0 7)) (C := RX6) (T := TX6) (N := 13) hx hb hts i_X6 hown hK hP 0 rfl rfl 7 (by decide) (hts _ qw37) (fun _ h9 => h9) rfl dX6_emit_25 ?_
    refine lv_iload_n hx hb dX6_emit_28 rfl (lv_at hl 2 rfl) ?_
    obtain ⟨hq4, hrun⟩ := chk9 hrun
    refine va_iast hx hb hK hP hD hS 8 7 rfl rfl (ixb_in hq4) dX6_emit_29 (fun H locs hP hD hS => ?_)
    have hP : va_P (dC, dI) cls (List.flatten ([(oX6 (p0a 0) p0a p0k (upw w3 10 (nn (w3 0 7)) p2) p0l)] : List va_W)) H := hP
    have hD : va_D A (List.flatten ([(oX6 (p0a 0) p0a p0k (upw w3 10 (nn (w3 0 7)) p2) p0l)] : List va_W)) := hD
    obtain ⟨w5, ew5, hrun⟩ := let9 hrun
    rw [← ew5] at hP hD
    refine lv_aload_n hx hb dX6_emit_30 rfl (lv_at hl 0 rfl) ?_
    refine va_get (D := (dC, dI)) (ci := 2) (v := .ref (p0a 11)) (C := RX6) (T := TX6) (N := 13) hx hb hts i_X6 hown hK hP 0 rfl rfl 10 (by decide) (hts _ qw40) (fun _ h9 => h9) rfl dX6_emit_31 ?_
    refine lv_aload_n hx hb dX6_emit_34 rfl (lv_at hl 0 rfl) ?_
    refine va_get (D := (dC, dI)) (ci := 2) (v := .int (w5 0 7)) (C := RX6) (T := TX6) (N := 13) hx hb hts i_X6 hown hK hP 0 rfl rfl 7 (by decide) (hts _ qw37) (fun _ h9 => h9) rfl dX6_emit_35 ?_
    refine lv_iload_n hx hb dX6_emit_38 rfl (lv_at hl 3 rfl) ?_
    obtain ⟨hq6, hrun⟩ := chk9 hrun
    refine va_iast hx hb hK hP hD hS 9 8 rfl rfl (ixb_in hq6) dX6_emit_39 (fun H locs hP hD hS => ?_)
    have hP : va_P (dC, dI) cls (List.flatten ([(oX6 (p0a 0) p0a p0k (upw w5 11 (nn (w5 0 7)) p3) p0l)] : List va_W)) H := hP
    have hD : va_D A (List.flatten ([(oX6 (p0a 0) p0a p0k (upw w5 11 (nn (w5 0 7)) p3) p0l)] : List va_W)) := hD
    obtain ⟨w7, ew7, hrun⟩ := let9 hrun
    rw [← ew7] at hP hD
    refine lv_aload_n hx hb dX6_emit_40 rfl (lv_at hl 0 rfl) ?_
    refine lv_dup hx hb dX6_emit_41 rfl ?_
    refine va_get (D := (dC, dI)) (ci := 2) (v := .int (w7 0 7)) (C := RX6) (T := TX6) (N := 13) hx hb hts i_X6 hown hK hP 0 rfl rfl 7 (by decide) (hts _ qw37) (fun _ h9 => h9) rfl dX6_emit_42 ?_
    refine lv_iconst (v := 1) hx hb dX6_emit_45 (by decide) ?_
    refine lv_iadd hx hb dX6_emit_46 ?_
    refine va_put (D := (dC, dI)) (ci := 2) (v := .int ((w7 0 7) + 1)) (ty := .int) (C := RX6) (T := TX6) (N := 13) hx hb hts i_X6 tyX6 tyX6_ok nmX6 hown hK hP hD hS 0 rfl rfl 7 (by decide) (hts _ qw37) (fun _ h9 => h9) rfl (by decide +kernel) rfl rfl (Nat.le_of_ble_eq_true rfl) dX6_emit_47 (fun H locs hP hD hS => ?_)
    have hP : va_P (dC, dI) cls (List.flatten ([(oX6 (p0a 0) p0a p0k (upw w7 0 7 ((w7 0 7) + 1)) p0l)] : List va_W)) H := hP
    have hD : va_D A (List.flatten ([(oX6 (p0a 0) p0a p0k (upw w7 0 7 ((w7 0 7) + 1)) p0l)] : List va_W)) := hD
    obtain ⟨w8, ew8, hrun⟩ := let9 hrun
    rw [← ew8] at hP hD
    exact J50 w8 _ _ _ hrun hP hD hK hS (lv_sub hl [] rfl)
def fX7_emitTruth (p0_2w : ST) : Option ST := ((fX6_emit p0_2w 0 0 0).bind fun (o_1 : ST) => ((fX6_emit o_1 16 0 0).bind fun (o_2 : ST) => some o_2))
set_option maxHeartbeats 16000000 in
set_option maxRecDepth 100000 in
theorem kX7_emitTruth {zs : ZS} (l : Launch) (dC : Nat → ClassId) (dI : Nat → Nat → Nat) (p0a : Nat → Nat) (p0k : Nat → ClassId) (p0w : ST) (p0l : SL) (p0_2a : Nat → Nat) (p0_2k : Nat → ClassId) (p0_2w : ST) (p0_2l : SL) (sz : Nat) (o : ST) (hrun : fX7_emitTruth p0_2w = some o) : Met l yX7_emitTruth (wz yX7_emitTruth cX7_emitTruth 1 (Option.none : Option Jvm.ClassFile.FieldType)) ({ frames := 1, cells := 0, slots := 0, locals := 23 } : Room) (va_Pc [.ref (p0a 0)] (PRE zs dC dI (List.flatten ([(oX7 (p0a 0) p0a p0k p0w p0l), (oX6 (p0a 3) p0_2a p0_2k p0_2w p0_2l)] : List va_W)) (List.flatten ([(tX7 p0k), (tX6 p0_2k)] : List (List (ClassId × FieldType)))) sz)) (va_Qv (fun (_ : Unit) => True) (fun _ t => POST dC dI (List.flatten ([(oX7 (p0a 0) p0a p0k p0w p0l), (oX6 (p0a 3) p0_2a p0_2k o p0_2l)] : List va_W)) (List.flatten ([(tX7 p0k), (tX6 p0_2k)] : List (List (ClassId × FieldType)))) (va_A (List.flatten ([(oX7 (p0a 0) p0a p0k p0w p0l), (oX6 (p0a 3) p0_2a p0_2k p0_2w p0_2l)] : List va_W)) sz) t) (va_A (List.flatten ([(oX7 (p0a 0) p0a p0k p0w p0l), (oX6 (p0a 3) p0_2a p0_2k p0_2w p0_2l)] : List va_W)) sz)) 0 0 (va_A (List.flatten ([(oX7 (p0a 0) p0a p0k p0w p0l), (oX6 (p0a 3) p0_2a p0_2k p0_2w p0_2l)] : List va_W)) sz) := by
  refine Met.ofW (cc := cX7_emitTruth) (maxL := 1) (ret := (Option.none : Option Jvm.ClassFile.FieldType)) (by decide) rfl ?_
  intro p e s m args below meth c s₁ B hml hv
  obtain ⟨rfl, hsz, hP, hK, hD0, hE⟩ := hv
  have hx := B.exec
  have hb := B.bytes
  have hr := B.returns
  have hts0 := atoms_spec (ws := wz yX7_emitTruth cX7_emitTruth 1 (Option.none : Option Jvm.ClassFile.FieldType)) B.pre
  have hts : ∀ w ∈ gw, w.before _ s = true := fun w h => hts0 w (List.mem_cons_of_mem _ h)
  have hown : s.vm.findClass RX7 = some m.cls := findClass_of_methodNamed B.named
  have hlocks := B.notSynchronized
  subst hsz
  have hD := hD0.self (sz := s.heap.size)
  refine gQ9 ?_
  intro Q hQ
  generalize hAe : va_A (List.flatten ([(oX7 (p0a 0) p0a p0k p0w p0l), (oX6 (p0a 3) p0_2a p0_2k p0_2w p0_2l)] : List va_W)) s.heap.size = A at hD hE hQ
  have hA : ∀ q : Nat, s.heap.size ≤ q → A q := fun q h => by rw [← hAe]; exact Or.inr h
  have hS : va_S A s.heap s.heap [] := va_S.rf
  have hP : va_P (dC, dI) cls (List.flatten ([(oX7 (p0a 0) p0a p0k p0w p0l), (oX6 (p0a 3) p0_2a p0_2k p0_2w p0_2l)] : List va_W)) s.heap := hP
  have hl := lv_entry ([.ref (p0a 0)]) (n := 1) (Nat.le_of_ble_eq_true rfl)
  rw [lg_entry_eq]
  generalize (lg_sl ([.ref (p0a 0)]) ++ List.replicate (1 - (lg_sl ([.ref (p0a 0)])).length) Slot.unset).toArray = ls at hl ⊢
  have hl : lv_has ls 1 [(0, .ref (p0a 0))] := hl
  obtain ⟨H, hHe⟩ : ∃ H, H = s.heap := ⟨_, rfl⟩
  obtain ⟨locs, hle⟩ : ∃ locs : List Loc, locs = [] := ⟨_, rfl⟩
  rw [← hHe] at hP
  have hS : va_S A s.heap H locs := by rw [hHe, hle]; exact hS
  show W p l e ({ frames := 1, cells := 0, slots := 0, locals := 23 } : Room) s m ([.ref (p0a 0)] : List Value).toArray below meth c s.heap [] 0 0 Q (F0 m 0 ls [])
  rw [← hle]
  refine wH9 hHe ?_
  unfold fX7_emitTruth at hrun
  refine lv_aload_n hx hb dX7_emitTruth_0 rfl (lv_at hl 0 rfl) ?_
  refine va_get (D := (dC, dI)) (ci := 1) (v := .ref (p0a 3)) (C := RX7) (T := TX7) (N := 18) hx hb hts i_X7 hown hK hP 0 rfl rfl 2 (by decide) (hts _ qw26) (fun _ h9 => h9) rfl dX7_emitTruth_1 ?_
  refine lv_iconst (v := 0) hx hb dX7_emitTruth_4 (by decide) ?_
  refine lv_iconst (v := 0) hx hb dX7_emitTruth_5 (by decide) ?_
  refine lv_iconst (v := 0) hx hb dX7_emitTruth_6 (by decide) ?_
  obtain ⟨o_1, hc_1, hrun⟩ := bnd9 hrun
  have hPx : va_P (dC, dI) cls ((List.flatten ([(oX6 (p0a 3) p0_2a p0_2k p0_2w p0_2l)] : List va_W)) ++ (List.flatten ([(oX7 (p0a 0) p0a p0k p0w p0l)] : List va_W))) H := vP_fa (vP_perm hP (bP ((((List.Perm.refl _)).cons _).trans (List.Perm.swap _ _ _))))
  have hDx : va_D A ((List.flatten ([(oX6 (p0a 3) p0_2a p0_2k p0_2w p0_2l)] : List va_W)) ++ (List.flatten ([(oX7 (p0a 0) p0a p0k p0w p0l)] : List va_W))) := vD_fa (vD_perm hD (bP ((((List.Perm.refl _)).cons _).trans (List.Perm.swap _ _ _))))
  have hKx : va_K (dC, dI) cls ((List.flatten ([(tX6 p0_2k)] : List (List (ClassId × FieldType)))) ++ (List.flatten ([(tX7 p0k)] : List (List (ClassId × FieldType))))) s := vK_fa (vK_perm hK (bP ((((List.Perm.refl _)).cons _).trans (List.Perm.swap _ _ _))))
  have hPc := vP_l hPx
  have hDc := vD_l hDx
  have hKc := vK_l hKx
  have hFc := vfree hDx hS hA
  refine va_callv (va_runV (As := [.int 0, .int 0, .int 0]) (rest := []) ⟨hx, hb, hml, hown, hts⟩ (kX6_emit l dC dI (p0a := (st0 (p0a 3) p0_2a)) (p0k := p0_2k) (p0w := p0_2w) (p0l := p0_2l) (p1 := 0) (p2 := 0) (p3 := 0) (sz := _) (o := o_1) (hrun := hc_1)) (cwV 3 hts (gi_V qw42 qw43 qw44 qw33 (gi_z qw41)) rfl rfl rfl (by decide +kernel) ⟨Nat.le_of_ble_eq_true rfl, Nat.le_of_ble_eq_true rfl⟩) ⟨PRE.blind, va_recv hKc hPc (ci := 2) (q0 := 0) rfl rfl, PRE.of hE hS hFc hPc hKc hDc⟩ rfl rfl hl.1 rfl (lv_room (Nat.le_of_ble_eq_true rfl)) dX7_emitTruth_7 ⟨(Nat.le_of_ble_eq_true rfl), (Nat.le_of_ble_eq_true rfl)⟩) hS (fun q _ h => hFc q h) hFc (fun u t H locs ht hvm hw hB hz1 hk1 hS => ?_)
  obtain ⟨b1, b2, b3⟩ := hB
  rw [ht] at b1
  obtain ⟨hP, hD, hK⟩ := JOINC (wc := (List.flatten ([(oX6 (p0a 3) p0_2a p0_2k p0_2w p0_2l)] : List va_W))) (wr := (List.flatten ([(oX7 (p0a 0) p0a p0k p0w p0l)] : List va_W))) (w1 := (List.flatten ([(oX6 (p0a 3) p0_2a p0_2k o_1 p0_2l)] : List va_W))) (t1 := (List.flatten ([(tX6 p0_2k)] : List (List (ClassId × FieldType))))) hPx hDx hKx hk1 hFc b1 (va_K.moved hvm.symm b2) b3
  have hP : va_P (dC, dI) cls (List.flatten ([(oX7 (p0a 0) p0a p0k p0w p0l), (oX6 (p0a 3) p0_2a p0_2k o_1 p0_2l)] : List va_W)) H := vP_perm (vP_fb hP) (bP ((((List.Perm.refl _)).cons _).trans (List.Perm.swap _ _ _)))
  have hD : va_D A (List.flatten ([(oX7 (p0a 0) p0a p0k p0w p0l), (oX6 (p0a 3) p0_2a p0_2k o_1 p0_2l)] : List va_W)) := vD_perm (vD_fb hD) (bP ((((List.Perm.refl _)).cons _).trans (List.Perm.swap _ _ _)))
  have hK : va_K (dC, dI) cls (List.flatten ([(tX7 p0k), (tX6 p0_2k)] : List (List (ClassId × FieldType)))) s := vK_perm (vK_fb hK) (bP ((((List.Perm.refl _)).cons _).trans (List.Perm.swap _ _ _)))
  refine lv_aload_n hx hb dX7_emitTruth_10 rfl (lv_at hl 0 rfl) ?_
  refine va_get (D := (dC, dI)) (ci := 1) (v := .ref (p0a 3)) (C := RX7) (T := TX7) (N := 18) hx hb hts i_X7 hown hK hP 0 rfl rfl 2 (by decide) (hts _ qw26) (fun _ h9 => h9) rfl dX7_emitTruth_11 ?_
  refine lv_bipush (v := 16) hx hb dX7_emitTruth_14 (by decide) ?_
  refine lv_iconst (v := 0) hx hb dX7_emitTruth_16 (by decide) ?_
  refine lv_iconst (v := 0) hx hb dX7_emitTruth_17 (by decide) ?_
  obtain ⟨o_2, hc_2, hrun⟩ := bnd9 hrun
  have hPx : va_P (dC, dI) cls ((List.flatten ([(oX6 (p0a 3) p0_2a p0_2k o_1 p0_2l)] : List va_W)) ++ (List.flatten ([(oX7 (p0a 0) p0a p0k p0w p0l)] : List va_W))) H := vP_fa (vP_perm hP (bP ((((List.Perm.refl _)).cons _).trans (List.Perm.swap _ _ _))))
  have hDx : va_D A ((List.flatten ([(oX6 (p0a 3) p0_2a p0_2k o_1 p0_2l)] : List va_W)) ++ (List.flatten ([(oX7 (p0a 0) p0a p0k p0w p0l)] : List va_W))) := vD_fa (vD_perm hD (bP ((((List.Perm.refl _)).cons _).trans (List.Perm.swap _ _ _))))
  have hKx : va_K (dC, dI) cls ((List.flatten ([(tX6 p0_2k)] : List (List (ClassId × FieldType)))) ++ (List.flatten ([(tX7 p0k)] : List (List (ClassId × FieldType))))) s := vK_fa (vK_perm hK (bP ((((List.Perm.refl _)).cons _).trans (List.Perm.swap _ _ _))))
  have hPc := vP_l hPx
  have hDc := vD_l hDx
  have hKc := vK_l hKx
  have hFc := vfree hDx hS hA
  refine va_callv (va_runV (As := [.int 16, .int 0, .int 0]) (rest := []) ⟨hx, hb, hml, hown, hts⟩ (kX6_emit l dC dI (p0a := (st0 (p0a 3) p0_2a)) (p0k := p0_2k) (p0w := o_1) (p0l := p0_2l) (p1 := 16) (p2 := 0) (p3 := 0) (sz := _) (o := o_2) (hrun := hc_2)) (cwV 3 hts (gi_V qw42 qw43 qw44 qw33 (gi_z qw41)) rfl rfl rfl (by decide +kernel) ⟨Nat.le_of_ble_eq_true rfl, Nat.le_of_ble_eq_true rfl⟩) ⟨PRE.blind, va_recv hKc hPc (ci := 2) (q0 := 0) rfl rfl, PRE.of hE hS hFc hPc hKc hDc⟩ rfl rfl hl.1 rfl (lv_room (Nat.le_of_ble_eq_true rfl)) dX7_emitTruth_18 ⟨(Nat.le_of_ble_eq_true rfl), (Nat.le_of_ble_eq_true rfl)⟩) hS (fun q _ h => hFc q h) hFc (fun u t H locs ht hvm hw hB hz1 hk1 hS => ?_)
  obtain ⟨b1, b2, b3⟩ := hB
  rw [ht] at b1
  obtain ⟨hP, hD, hK⟩ := JOINC (wc := (List.flatten ([(oX6 (p0a 3) p0_2a p0_2k o_1 p0_2l)] : List va_W))) (wr := (List.flatten ([(oX7 (p0a 0) p0a p0k p0w p0l)] : List va_W))) (w1 := (List.flatten ([(oX6 (p0a 3) p0_2a p0_2k o_2 p0_2l)] : List va_W))) (t1 := (List.flatten ([(tX6 p0_2k)] : List (List (ClassId × FieldType))))) hPx hDx hKx hk1 hFc b1 (va_K.moved hvm.symm b2) b3
  have hP : va_P (dC, dI) cls (List.flatten ([(oX7 (p0a 0) p0a p0k p0w p0l), (oX6 (p0a 3) p0_2a p0_2k o_2 p0_2l)] : List va_W)) H := vP_perm (vP_fb hP) (bP ((((List.Perm.refl _)).cons _).trans (List.Perm.swap _ _ _)))
  have hD : va_D A (List.flatten ([(oX7 (p0a 0) p0a p0k p0w p0l), (oX6 (p0a 3) p0_2a p0_2k o_2 p0_2l)] : List va_W)) := vD_perm (vD_fb hD) (bP ((((List.Perm.refl _)).cons _).trans (List.Perm.swap _ _ _)))
  have hK : va_K (dC, dI) cls (List.flatten ([(tX7 p0k), (tX6 p0_2k)] : List (List (ClassId × FieldType)))) s := vK_perm (vK_fb hK) (bP ((((List.Perm.refl _)).cons _).trans (List.Perm.swap _ _ _)))
  have ho9 : o_2 = o := Option.some.inj hrun
  have hP9 : va_P (dC, dI) cls (List.flatten ([(oX7 (p0a 0) p0a p0k p0w p0l), (oX6 (p0a 3) p0_2a p0_2k o p0_2l)] : List va_W)) H := by first | exact hP | (rw [← ho9]; exact hP)
  have hD9 : va_D A (List.flatten ([(oX7 (p0a 0) p0a p0k p0w p0l), (oX6 (p0a 3) p0_2a p0_2k o p0_2l)] : List va_W)) := by first | exact hD | (rw [← ho9]; exact hD)
  subst hQ
  exact W.vret hx hb hr (fun t ht hW => ⟨⟨(), rfl, trivial, ⟨by rw [ht]; exact hP9, va_K.moved hW.alike hK, hD9⟩⟩, hS.F ht⟩) hS.2.2 dX7_emitTruth_21
def fX7_kindOfSign (p0 : Int32) : Option Int32 := (if p0 = 37 then some 5 else (if p0 = 38 then some 6 else (if p0 = 42 then some 3 else (if p0 = 43 then some 1 else (if p0 = 45 then some 2 else (if p0 = 47 then some 4 else (if p0 = 60 then some 11 else (if p0 = 62 then some 13 else (if p0 = 94 then some 8 else (if p0 = 124 then some 7 else (if p0 = 316 then some 9 else (if p0 = 318 then some 10 else (if p0 = 545 then some 16 else (if p0 = 572 then some 12 else (if p0 = 573 then some 15 else (if p0 = 574 then some 14 else some (-1)))))))))))))))))
set_option maxHeartbeats 16000000 in
set_option maxRecDepth 100000 in
theorem kX7_kindOfSign {zs : ZS} (l : Launch) (dC : Nat → ClassId) (dI : Nat → Nat → Nat) (p0 : Int32) (sz : Nat) (o : Int32) (hrun : fX7_kindOfSign p0 = some o) : Met l yX7_kindOfSign (wz yX7_kindOfSign cX7_kindOfSign 1 (Option.some Jvm.ClassFile.FieldType.int)) ({ frames := 0, cells := 0, slots := 0, locals := 0 } : Room) (va_Pc [.int p0] (PRE zs dC dI (List.flatten ([] : List va_W)) (List.flatten ([] : List (List (ClassId × FieldType)))) sz)) (va_Qi (fun (r : Int32) (_ : Unit) => r = o) (fun _ t => POST dC dI (List.flatten ([] : List va_W)) (List.flatten ([] : List (List (ClassId × FieldType)))) (va_A (List.flatten ([] : List va_W)) sz) t) (va_A (List.flatten ([] : List va_W)) sz)) 0 0 (va_A (List.flatten ([] : List va_W)) sz) := by
  refine Met.ofW (cc := cX7_kindOfSign) (maxL := 1) (ret := (Option.some Jvm.ClassFile.FieldType.int)) (by decide) rfl ?_
  intro p e s m args below meth c s₁ B hml hv
  obtain ⟨rfl, hsz, hP, hK, hD0, hE⟩ := hv
  have hx := B.exec
  have hb := B.bytes
  have hr := B.returns
  have hts0 := atoms_spec (ws := wz yX7_kindOfSign cX7_kindOfSign 1 (Option.some Jvm.ClassFile.FieldType.int)) B.pre
  have hts : ∀ w ∈ gw, w.before _ s = true := fun w h => hts0 w (List.mem_cons_of_mem _ h)
  have hown : s.vm.findClass RX7 = some m.cls := findClass_of_methodNamed B.named
  have hlocks := B.notSynchronized
  subst hsz
  have hD := hD0.self (sz := s.heap.size)
  refine gQ9 ?_
  intro Q hQ
  generalize hAe : va_A (List.flatten ([] : List va_W)) s.heap.size = A at hD hE hQ
  have hA : ∀ q : Nat, s.heap.size ≤ q → A q := fun q h => by rw [← hAe]; exact Or.inr h
  have hS : va_S A s.heap s.heap [] := va_S.rf
  have hP : va_P (dC, dI) cls (List.flatten ([] : List va_W)) s.heap := hP
  have hl := lv_entry ([.int p0]) (n := 1) (Nat.le_of_ble_eq_true rfl)
  rw [lg_entry_eq]
  generalize (lg_sl ([.int p0]) ++ List.replicate (1 - (lg_sl ([.int p0])).length) Slot.unset).toArray = ls at hl ⊢
  have hl : lv_has ls 1 [(0, .int p0)] := hl
  obtain ⟨H, hHe⟩ : ∃ H, H = s.heap := ⟨_, rfl⟩
  obtain ⟨locs, hle⟩ : ∃ locs : List Loc, locs = [] := ⟨_, rfl⟩
  rw [← hHe] at hP
  have hS : va_S A s.heap H locs := by rw [hHe, hle]; exact hS
  show W p l e ({ frames := 0, cells := 0, slots := 0, locals := 0 } : Room) s m ([.int p0] : List Value).toArray below meth c s.heap [] 0 0 Q (F0 m 0 ls [])
  rw [← hle]
  refine wH9 hHe ?_
  unfold fX7_kindOfSign at hrun
  refine lv_iload_n hx hb dX7_kindOfSign_0 rfl (lv_at hl 0 rfl) ?_
  rcases br9 hrun with ⟨hc1, hrun⟩ | ⟨hc1, hrun⟩
  · refine lv_lookup (off := 147) (tgt := 148) hx hb dX7_kindOfSign_1 (by decide) (by rw [hc1]; decide) (by decide) ?_
    refine lv_iconst (v := 5) hx hb dX7_kindOfSign_148 (by decide) ?_
    have ho9 : 5 = o := Option.some.inj hrun
    have hP9 : va_P (dC, dI) cls (List.flatten ([] : List va_W)) H := by first | exact hP | (rw [← ho9]; exact hP)
    have hD9 : va_D A (List.flatten ([] : List va_W)) := by first | exact hD | (rw [← ho9]; exact hD)
    subst hQ
    exact W.iret (v := 5) hx hb hr (fun t ht hW => ⟨⟨5, (), rfl, (by rw [← ho9]), ⟨by rw [ht]; exact hP9, va_K.moved hW.alike hK, hD9⟩⟩, hS.F ht⟩) hS.2.2 dX7_kindOfSign_149
  rcases br9 hrun with ⟨hc2, hrun⟩ | ⟨hc2, hrun⟩
  · refine lv_lookup (off := 149) (tgt := 150) hx hb dX7_kindOfSign_1 (by decide) (by rw [hc2]; decide) (by decide) ?_
    refine lv_bipush (v := 6) hx hb dX7_kindOfSign_150 (by decide) ?_
    have ho9 : 6 = o := Option.some.inj hrun
    have hP9 : va_P (dC, dI) cls (List.flatten ([] : List va_W)) H := by first | exact hP | (rw [← ho9]; exact hP)
    have hD9 : va_D A (List.flatten ([] : List va_W)) := by first | exact hD | (rw [← ho9]; exact hD)
    subst hQ
    exact W.iret (v := 6) hx hb hr (fun t ht hW => ⟨⟨6, (), rfl, (by rw [← ho9]), ⟨by rw [ht]; exact hP9, va_K.moved hW.alike hK, hD9⟩⟩, hS.F ht⟩) hS.2.2 dX7_kindOfSign_152
  rcases br9 hrun with ⟨hc3, hrun⟩ | ⟨hc3, hrun⟩
  · refine lv_lookup (off := 143) (tgt := 144) hx hb dX7_kindOfSign_1 (by decide) (by rw [hc3]; decide) (by decide) ?_
    refine lv_iconst (v := 3) hx hb dX7_kindOfSign_144 (by decide) ?_
    have ho9 : 3 = o := Option.some.inj hrun
    have hP9 : va_P (dC, dI) cls (List.flatten ([] : List va_W)) H := by first | exact hP | (rw [← ho9]; exact hP)
    have hD9 : va_D A (List.flatten ([] : List va_W)) := by first | exact hD | (rw [← ho9]; exact hD)
    subst hQ
    exact W.iret (v := 3) hx hb hr (fun t ht hW => ⟨⟨3, (), rfl, (by rw [← ho9]), ⟨by rw [ht]; exact hP9, va_K.moved hW.alike hK, hD9⟩⟩, hS.F ht⟩) hS.2.2 dX7_kindOfSign_145
  rcases br9 hrun with ⟨hc4, hrun⟩ | ⟨hc4, hrun⟩
  · refine lv_lookup (off := 139) (tgt := 140) hx hb dX7_kindOfSign_1 (by decide) (by rw [hc4]; decide) (by decide) ?_
    refine lv_iconst (v := 1) hx hb dX7_kindOfSign_140 (by decide) ?_
    have ho9 : 1 = o := Option.some.inj hrun
    have hP9 : va_P (dC, dI) cls (List.flatten ([] : List va_W)) H := by first | exact hP | (rw [← ho9]; exact hP)
    have hD9 : va_D A (List.flatten ([] : List va_W)) := by first | exact hD | (rw [← ho9]; exact hD)
    subst hQ
    exact W.iret (v := 1) hx hb hr (fun t ht hW => ⟨⟨1, (), rfl, (by rw [← ho9]), ⟨by rw [ht]; exact hP9, va_K.moved hW.alike hK, hD9⟩⟩, hS.F ht⟩) hS.2.2 dX7_kindOfSign_141
  rcases br9 hrun with ⟨hc5, hrun⟩ | ⟨hc5, hrun⟩
  · refine lv_lookup (off := 141) (tgt := 142) hx hb dX7_kindOfSign_1 (by decide) (by rw [hc5]; decide) (by decide) ?_
    refine lv_iconst (v := 2) hx hb dX7_kindOfSign_142 (by decide) ?_
    have ho9 : 2 = o := Option.some.inj hrun
    have hP9 : va_P (dC, dI) cls (List.flatten ([] : List va_W)) H := by first | exact hP | (rw [← ho9]; exact hP)
    have hD9 : va_D A (List.flatten ([] : List va_W)) := by first | exact hD | (rw [← ho9]; exact hD)
    subst hQ
    exact W.iret (v := 2) hx hb hr (fun t ht hW => ⟨⟨2, (), rfl, (by rw [← ho9]), ⟨by rw [ht]; exact hP9, va_K.moved hW.alike hK, hD9⟩⟩, hS.F ht⟩) hS.2.2 dX7_kindOfSign_143
  rcases br9 hrun with ⟨hc6, hrun⟩ | ⟨hc6, hrun⟩
  · refine lv_lookup (off := 145) (tgt := 146) hx hb dX7_kindOfSign_1 (by decide) (by rw [hc6]; decide) (by decide) ?_
    refine lv_iconst (v := 4) hx hb dX7_kindOfSign_146 (by decide) ?_
    have ho9 : 4 = o := Option.some.inj hrun
    have hP9 : va_P (dC, dI) cls (List.flatten ([] : List va_W)) H := by first | exact hP | (rw [← ho9]; exact hP)
    have hD9 : va_D A (List.flatten ([] : List va_W)) := by first | exact hD | (rw [← ho9]; exact hD)
    subst hQ
    exact W.iret (v := 4) hx hb hr (fun t ht hW => ⟨⟨4, (), rfl, (by rw [← ho9]), ⟨by rw [ht]; exact hP9, va_K.moved hW.alike hK, hD9⟩⟩, hS.F ht⟩) hS.2.2 dX7_kindOfSign_147
  rcases br9 hrun with ⟨hc7, hrun⟩ | ⟨hc7, hrun⟩
  · refine lv_lookup (off := 164) (tgt := 165) hx hb dX7_kindOfSign_1 (by decide) (by rw [hc7]; decide) (by decide) ?_
    refine lv_bipush (v := 11) hx hb dX7_kindOfSign_165 (by decide) ?_
    have ho9 : 11 = o := Option.some.inj hrun
    have hP9 : va_P (dC, dI) cls (List.flatten ([] : List va_W)) H := by first | exact hP | (rw [← ho9]; exact hP)
    have hD9 : va_D A (List.flatten ([] : List va_W)) := by first | exact hD | (rw [← ho9]; exact hD)
    subst hQ
    exact W.iret (v := 11) hx hb hr (fun t ht hW => ⟨⟨11, (), rfl, (by rw [← ho9]), ⟨by rw [ht]; exact hP9, va_K.moved hW.alike hK, hD9⟩⟩, hS.F ht⟩) hS.2.2 dX7_kindOfSign_167
  rcases br9 hrun with ⟨hc8, hrun⟩ | ⟨hc8, hrun⟩
  · refine lv_lookup (off := 170) (tgt := 171) hx hb dX7_kindOfSign_1 (by decide) (by rw [hc8]; decide) (by decide) ?_
    refine lv_bipush (v := 13) hx hb dX7_kindOfSign_171 (by decide) ?_
    have ho9 : 13 = o := Option.some.inj hrun
    have hP9 : va_P (dC, dI) cls (List.flatten ([] : List va_W)) H := by first | exact hP | (rw [← ho9]; exact hP)
    have hD9 : va_D A (List.flatten ([] : List va_W)) := by first | exact hD | (rw [← ho9]; exact hD)
    subst hQ
    exact W.iret (v := 13) hx hb hr (fun t ht hW => ⟨⟨13, (), rfl, (by rw [← ho9]), ⟨by rw [ht]; exact hP9, va_K.moved hW.alike hK, hD9⟩⟩, hS.F ht⟩) hS.2.2 dX7_kindOfSign_173
  rcases br9 hrun with ⟨hc9, hrun⟩ | ⟨hc9, hrun⟩
  · refine lv_lookup (off := 155) (tgt := 156) hx hb dX7_kindOfSign_1 (by decide) (by rw [hc9]; decide) (by decide) ?_
    refine lv_bipush (v := 8) hx hb dX7_kindOfSign_156 (by decide) ?_
    have ho9 : 8 = o := Option.some.inj hrun
    have hP9 : va_P (dC, dI) cls (List.flatten ([] : List va_W)) H := by first | exact hP | (rw [← ho9]; exact hP)
    have hD9 : va_D A (List.flatten ([] : List va_W)) := by first | exact hD | (rw [← ho9]; exact hD)
    subst hQ
    exact W.iret (v := 8) hx hb hr (fun t ht hW => ⟨⟨8, (), rfl, (by rw [← ho9]), ⟨by rw [ht]; exact hP9, va_K.moved hW.alike hK, hD9⟩⟩, hS.F ht⟩) hS.2.2 dX7_kindOfSign_158
  rcases br9 hrun with ⟨hc10, hrun⟩ | ⟨hc10, hrun⟩
  · refine lv_lookup (off := 152) (tgt := 153) hx hb dX7_kindOfSign_1 (by decide) (by rw [hc10]; decide) (by decide) ?_
    refine lv_bipush (v := 7) hx hb dX7_kindOfSign_153 (by decide) ?_
    have ho9 : 7 = o := Option.some.inj hrun
    have hP9 : va_P (dC, dI) cls (List.flatten ([] : List va_W)) H := by first | exact hP | (rw [← ho9]; exact hP)
    have hD9 : va_D A (List.flatten ([] : List va_W)) := by first | exact hD | (rw [← ho9]; exact hD)
    subst hQ
    exact W.iret (v := 7) hx hb hr (fun t ht hW => ⟨⟨7, (), rfl, (by rw [← ho9]), ⟨by rw [ht]; exact hP9, va_K.moved hW.alike hK, hD9⟩⟩, hS.F ht⟩) hS.2.2 dX7_kindOfSign_155
  rcases br9 hrun with ⟨hc11, hrun⟩ | ⟨hc11, hrun⟩
  · refine lv_lookup (off := 158) (tgt := 159) hx hb dX7_kindOfSign_1 (by decide) (by rw [hc11]; decide) (by decide) ?_
    refine lv_bipush (v := 9) hx hb dX7_kindOfSign_159 (by decide) ?_
    have ho9 : 9 = o := Option.some.inj hrun
    have hP9 : va_P (dC, dI) cls (List.flatten ([] : List va_W)) H := by first | exact hP | (rw [← ho9]; exact hP)
    have hD9 : va_D A (List.flatten ([] : List va_W)) := by first | exact hD | (rw [← ho9]; exact hD)
    subst hQ
    exact W.iret (v := 9) hx hb hr (fun t ht hW => ⟨⟨9, (), rfl, (by rw [← ho9]), ⟨by rw [ht]; exact hP9, va_K.moved hW.alike hK, hD9⟩⟩, hS.F ht⟩) hS.2.2 dX7_kindOfSign_161
  rcases br9 hrun with ⟨hc12, hrun⟩ | ⟨hc12, hrun⟩
  · refine lv_lookup (off := 161) (tgt := 162) hx hb dX7_kindOfSign_1 (by decide) (by rw [hc12]; decide) (by decide) ?_
    refine lv_bipush (v := 10) hx hb dX7_kindOfSign_162 (by decide) ?_
    have ho9 : 10 = o := Option.some.inj hrun
    have hP9 : va_P (dC, dI) cls (List.flatten ([] : List va_W)) H := by first | exact hP | (rw [← ho9]; exact hP)
    have hD9 : va_D A (List.flatten ([] : List va_W)) := by first | exact hD | (rw [← ho9]; exact hD)
    subst hQ
    exact W.iret (v := 10) hx hb hr (fun t ht hW => ⟨⟨10, (), rfl, (by rw [← ho9]), ⟨by rw [ht]; exact hP9, va_K.moved hW.alike hK, hD9⟩⟩, hS.F ht⟩) hS.2.2 dX7_kindOfSign_164
  rcases br9 hrun with ⟨hc13, hrun⟩ | ⟨hc13, hrun⟩
  · refine lv_lookup (off := 179) (tgt := 180) hx hb dX7_kindOfSign_1 (by decide) (by rw [hc13]; decide) (by decide) ?_
    refine lv_bipush (v := 16) hx hb dX7_kindOfSign_180 (by decide) ?_
    have ho9 : 16 = o := Option.some.inj hrun
    have hP9 : va_P (dC, dI) cls (List.flatten ([] : List va_W)) H := by first | exact hP | (rw [← ho9]; exact hP)
    have hD9 : va_D A (List.flatten ([] : List va_W)) := by first | exact hD | (rw [← ho9]; exact hD)
    subst hQ
    exact W.iret (v := 16) hx hb hr (fun t ht hW => ⟨⟨16, (), rfl, (by rw [← ho9]), ⟨by rw [ht]; exact hP9, va_K.moved hW.alike hK, hD9⟩⟩, hS.F ht⟩) hS.2.2 dX7_kindOfSign_182
  rcases br9 hrun with ⟨hc14, hrun⟩ | ⟨hc14, hrun⟩
  · refine lv_lookup (off := 167) (tgt := 168) hx hb dX7_kindOfSign_1 (by decide) (by rw [hc14]; decide) (by decide) ?_
    refine lv_bipush (v := 12) hx hb dX7_kindOfSign_168 (by decide) ?_
    have ho9 : 12 = o := Option.some.inj hrun
    have hP9 : va_P (dC, dI) cls (List.flatten ([] : List va_W)) H := by first | exact hP | (rw [← ho9]; exact hP)
    have hD9 : va_D A (List.flatten ([] : List va_W)) := by first | exact hD | (rw [← ho9]; exact hD)
    subst hQ
    exact W.iret (v := 12) hx hb hr (fun t ht hW => ⟨⟨12, (), rfl, (by rw [← ho9]), ⟨by rw [ht]; exact hP9, va_K.moved hW.alike hK, hD9⟩⟩, hS.F ht⟩) hS.2.2 dX7_kindOfSign_170
  rcases br9 hrun with ⟨hc15, hrun⟩ | ⟨hc15, hrun⟩
  · refine lv_lookup (off := 176) (tgt := 177) hx hb dX7_kindOfSign_1 (by decide) (by rw [hc15]; decide) (by decide) ?_
    refine lv_bipush (v := 15) hx hb dX7_kindOfSign_177 (by decide) ?_
    have ho9 : 15 = o := Option.some.inj hrun
    have hP9 : va_P (dC, dI) cls (List.flatten ([] : List va_W)) H := by first | exact hP | (rw [← ho9]; exact hP)
    have hD9 : va_D A (List.flatten ([] : List va_W)) := by first | exact hD | (rw [← ho9]; exact hD)
    subst hQ
    exact W.iret (v := 15) hx hb hr (fun t ht hW => ⟨⟨15, (), rfl, (by rw [← ho9]), ⟨by rw [ht]; exact hP9, va_K.moved hW.alike hK, hD9⟩⟩, hS.F ht⟩) hS.2.2 dX7_kindOfSign_179
  rcases br9 hrun with ⟨hc16, hrun⟩ | ⟨hc16, hrun⟩
  · refine lv_lookup (off := 173) (tgt := 174) hx hb dX7_kindOfSign_1 (by decide) (by rw [hc16]; decide) (by decide) ?_
    refine lv_bipush (v := 14) hx hb dX7_kindOfSign_174 (by decide) ?_
    have ho9 : 14 = o := Option.some.inj hrun
    have hP9 : va_P (dC, dI) cls (List.flatten ([] : List va_W)) H := by first | exact hP | (rw [← ho9]; exact hP)
    have hD9 : va_D A (List.flatten ([] : List va_W)) := by first | exact hD | (rw [← ho9]; exact hD)
    subst hQ
    exact W.iret (v := 14) hx hb hr (fun t ht hW => ⟨⟨14, (), rfl, (by rw [← ho9]), ⟨by rw [ht]; exact hP9, va_K.moved hW.alike hK, hD9⟩⟩, hS.F ht⟩) hS.2.2 dX7_kindOfSign_176
  refine lv_lookup (off := 182) (tgt := 183) hx hb dX7_kindOfSign_1 (by decide) (by rw [lv_osw hc1 (by decide), lv_osw hc2 (by decide), lv_osw hc3 (by decide), lv_osw hc4 (by decide), lv_osw hc5 (by decide), lv_osw hc6 (by decide), lv_osw hc7 (by decide), lv_osw hc8 (by decide), lv_osw hc9 (by decide), lv_osw hc10 (by decide), lv_osw hc11 (by decide), lv_osw hc12 (by decide), lv_osw hc13 (by decide), lv_osw hc14 (by decide), lv_osw hc15 (by decide), lv_osw hc16 (by decide)]; rfl) (by decide) ?_
  refine lv_iconst (v := (-1)) hx hb dX7_kindOfSign_183 (by decide) ?_
  have ho9 : (-1) = o := Option.some.inj hrun
  have hP9 : va_P (dC, dI) cls (List.flatten ([] : List va_W)) H := by first | exact hP | (rw [← ho9]; exact hP)
  have hD9 : va_D A (List.flatten ([] : List va_W)) := by first | exact hD | (rw [← ho9]; exact hD)
  subst hQ
  exact W.iret (v := (-1)) hx hb hr (fun t ht hW => ⟨⟨(-1), (), rfl, (by rw [← ho9]), ⟨by rw [ht]; exact hP9, va_K.moved hW.alike hK, hD9⟩⟩, hS.F ht⟩) hS.2.2 dX7_kindOfSign_184
def fX6_find_L3 (p0l : SL) (p1 : Int64) (p2 : Int32) : Nat → Int32 → Option (Sum Int32 Unit)
  | 0 => fun _ => none
  | n_3 + 1 => fun v4_3 => (if p2 ≤ v4_3 then some (Sum.inr ()) else (if ixb v4_3 6 = true then (if (lg_cmp (p0l 2 (nn v4_3)) p1) = 0 then some (Sum.inl v4_3) else ((fX6_find_L3 p0l p1 p2 n_3) (v4_3 + 1))) else none))
def fX6_find (p0l : SL) (p1 : Int64) (p2 : Int32) : Option Int32 := ((fX6_find_L3 p0l p1 p2 NF 0).bind fun (o3 : (Sum Int32 Unit)) => Sum.elim (fun r => some r) (fun (t3 : Unit) => some (-1)) o3)
set_option maxHeartbeats 16000000 in
set_option maxRecDepth 100000 in
theorem kX6_find {zs : ZS} (l : Launch) (dC : Nat → ClassId) (dI : Nat → Nat → Nat) (p0a : Nat → Nat) (p0k : Nat → ClassId) (p0w : ST) (p0l : SL) (p1 : Int64) (p2 : Int32) (sz : Nat) (o : Int32) (hrun : fX6_find p0l p1 p2 = some o) : Met l yX6_find (wz yX6_find cX6_find 5 (Option.some Jvm.ClassFile.FieldType.int)) ({ frames := 0, cells := 0, slots := 0, locals := 0 } : Room) (va_Pc [.ref (p0a 0), .long p1, .int p2] (PRE zs dC dI (List.flatten ([(oX6 (p0a 0) p0a p0k p0w p0l)] : List va_W)) (List.flatten ([(tX6 p0k)] : List (List (ClassId × FieldType)))) sz)) (va_Qi (fun (r : Int32) (_ : Unit) => r = o) (fun _ t => POST dC dI (List.flatten ([(oX6 (p0a 0) p0a p0k p0w p0l)] : List va_W)) (List.flatten ([(tX6 p0k)] : List (List (ClassId × FieldType)))) (va_A (List.flatten ([(oX6 (p0a 0) p0a p0k p0w p0l)] : List va_W)) sz) t) (va_A (List.flatten ([(oX6 (p0a 0) p0a p0k p0w p0l)] : List va_W)) sz)) 0 0 (va_A (List.flatten ([(oX6 (p0a 0) p0a p0k p0w p0l)] : List va_W)) sz) := by
  refine Met.ofW (cc := cX6_find) (maxL := 5) (ret := (Option.some Jvm.ClassFile.FieldType.int)) (by decide) rfl ?_
  intro p e s m args below meth c s₁ B hml hv
  obtain ⟨rfl, hsz, hP, hK, hD0, hE⟩ := hv
  have hx := B.exec
  have hb := B.bytes
  have hr := B.returns
  have hts0 := atoms_spec (ws := wz yX6_find cX6_find 5 (Option.some Jvm.ClassFile.FieldType.int)) B.pre
  have hts : ∀ w ∈ gw, w.before _ s = true := fun w h => hts0 w (List.mem_cons_of_mem _ h)
  have hown : s.vm.findClass RX6 = some m.cls := findClass_of_methodNamed B.named
  have hlocks := B.notSynchronized
  subst hsz
  have hD := hD0.self (sz := s.heap.size)
  refine gQ9 ?_
  intro Q hQ
  generalize hAe : va_A (List.flatten ([(oX6 (p0a 0) p0a p0k p0w p0l)] : List va_W)) s.heap.size = A at hD hE hQ
  have hA : ∀ q : Nat, s.heap.size ≤ q → A q := fun q h => by rw [← hAe]; exact Or.inr h
  have hS : va_S A s.heap s.heap [] := va_S.rf
  have hP : va_P (dC, dI) cls (List.flatten ([(oX6 (p0a 0) p0a p0k p0w p0l)] : List va_W)) s.heap := hP
  have hl := lv_entry ([.ref (p0a 0), .long p1, .int p2]) (n := 5) (Nat.le_of_ble_eq_true rfl)
  rw [lg_entry_eq]
  generalize (lg_sl ([.ref (p0a 0), .long p1, .int p2]) ++ List.replicate (5 - (lg_sl ([.ref (p0a 0), .long p1, .int p2])).length) Slot.unset).toArray = ls at hl ⊢
  have hl : lv_has ls 5 [(0, .ref (p0a 0)), (1, .long p1), (3, .int p2)] := hl
  obtain ⟨H, hHe⟩ : ∃ H, H = s.heap := ⟨_, rfl⟩
  obtain ⟨locs, hle⟩ : ∃ locs : List Loc, locs = [] := ⟨_, rfl⟩
  rw [← hHe] at hP
  have hS : va_S A s.heap H locs := by rw [hHe, hle]; exact hS
  show W p l e ({ frames := 0, cells := 0, slots := 0, locals := 0 } : Room) s m ([.ref (p0a 0), .long p1, .int p2] : List Value).toArray below meth c s.heap [] 0 0 Q (F0 m 0 ls [])
  rw [← hle]
  refine wH9 hHe ?_
  unfold fX6_find at hrun
  refine lv_iconst (v := 0) hx hb dX6_find_0 (by decide) ?_
  refine lv_istore (lv' := [(4, .int 0), (0, .ref (p0a 0)), (1, .long p1), (3, .int p2)]) hx hb dX6_find_1 hl (by decide) rfl (fun ls hl => ?_)
  have L3 : ∀ (n_3 : Nat) (v4_3 : Int32) (o3 : (Sum Int32 Unit)) (H : Heap) (locs : List Loc) (ls : Array Slot), (fX6_find_L3 p0l p1 p2 n_3) v4_3 = some o3 → va_P (dC, dI) cls (List.flatten ([(oX6 (p0a 0) p0a p0k p0w p0l)] : List va_W)) H → va_D A (List.flatten ([(oX6 (p0a 0) p0a p0k p0w p0l)] : List va_W)) → va_K (dC, dI) cls (List.flatten ([(tX6 p0k)] : List (List (ClassId × FieldType)))) s → va_S A s.heap H locs → lv_has ls 5 [(0, .ref (p0a 0)), (1, .long p1), (3, .int p2), (4, .int v4_3)] → (∀ r, o3 = Sum.inl r → r = o) → (∀ (t3 : Unit), o3 = Sum.inr t3 → ∀ (H : Heap) (locs : List Loc) (ls : Array Slot), va_P (dC, dI) cls (List.flatten ([(oX6 (p0a 0) p0a p0k p0w p0l)] : List va_W)) H → va_D A (List.flatten ([(oX6 (p0a 0) p0a p0k p0w p0l)] : List va_W)) → va_K (dC, dI) cls (List.flatten ([(tX6 p0k)] : List (List (ClassId × FieldType)))) s → va_S A s.heap H locs → lv_has ls 5 [] → W p l e ({ frames := 0, cells := 0, slots := 0, locals := 0 } : Room) s m ([.ref (p0a 0), .long p1, .int p2] : List Value).toArray below meth c H locs 0 0 Q (F0 m 30 ls [])) → W p l e ({ frames := 0, cells := 0, slots := 0, locals := 0 } : Room) s m ([.ref (p0a 0), .long p1, .int p2] : List Value).toArray below meth c H locs 0 0 Q (F0 m 3 ls []) := by
    intro n_3
    induction n_3 with
    | zero => intro v4_3 o3 H locs ls hrun; exact (no9 rfl hrun).elim
    | succ n_3 IH3 =>
      intro v4_3 o3 H locs ls hrun hP hD hK hS hl hr3 hk3
      unfold fX6_find_L3 at hrun
      refine lv_iload hx hb dX6_find_3 (lv_at hl 3 rfl) ?_
      refine lv_iload_n hx hb dX6_find_5 rfl (lv_at hl 2 rfl) ?_
      rcases br9 hrun with ⟨hc1, hrun⟩ | ⟨hc1, hrun⟩
      · refine lv_icmp_ge (tgt := 30) hx hb dX6_find_6 (by decide) (fun _ => ?_) (fun c => absurd hc1 c)
        obtain rfl := (Option.some.inj hrun)
        exact hk3 _ rfl _ _ _ hP hD hK hS (lv_sub hl [] rfl)
      · refine lv_icmp_ge (tgt := 30) hx hb dX6_find_6 (by decide) (fun c => absurd c hc1) (fun _ => ?_)
        refine lv_aload_n hx hb dX6_find_9 rfl (lv_at hl 0 rfl) ?_
        refine va_get (D := (dC, dI)) (ci := 2) (v := .ref (p0a 2)) (C := RX6) (T := TX6) (N := 13) hx hb hts i_X6 hown hK hP 0 rfl rfl 1 (by decide) (hts _ qw51) (fun _ h9 => h9) rfl dX6_find_10 ?_
        refine lv_iload hx hb dX6_find_13 (lv_at hl 3 rfl) ?_
        obtain ⟨hq2, hrun⟩ := chk9 hrun
        refine va_lald hx hb hK hP 1 0 rfl rfl (ixb_in hq2) dX6_find_15 ?_
        refine lv_lload_n hx hb dX6_find_16 rfl (lv_at hl 1 rfl) ?_
        refine W.lcmp hx hb dX6_find_17 ?_
        rcases br9 hrun with ⟨hc3, hrun⟩ | ⟨hc3, hrun⟩
        · refine lv_if_ne (tgt := 24) hx hb dX6_find_18 (by decide) (fun c => absurd hc3 c) (fun _ => ?_)
          refine lv_iload hx hb dX6_find_21 (lv_at hl 3 rfl) ?_
          have ho9 : v4_3 = o := hr3 _ (Option.some.inj hrun).symm
          have hP9 : va_P (dC, dI) cls (List.flatten ([(oX6 (p0a 0) p0a p0k p0w p0l)] : List va_W)) H := by first | exact hP | (rw [← ho9]; exact hP)
          have hD9 : va_D A (List.flatten ([(oX6 (p0a 0) p0a p0k p0w p0l)] : List va_W)) := by first | exact hD | (rw [← ho9]; exact hD)
          subst hQ
          exact W.iret (v := v4_3) hx hb hr (fun t ht hW => ⟨⟨v4_3, (), rfl, (by rw [← ho9]), ⟨by rw [ht]; exact hP9, va_K.moved hW.alike hK, hD9⟩⟩, hS.F ht⟩) hS.2.2 dX6_find_23
        · refine lv_if_ne (tgt := 24) hx hb dX6_find_18 (by decide) (fun _ => ?_) (fun c => absurd c hc3)
          refine lv_iinc (v := (v4_3 + 1)) (lv' := [(4, .int (v4_3 + 1)), (0, .ref (p0a 0)), (1, .long p1), (3, .int p2)]) hx hb dX6_find_24 hl (k := 3) rfl rfl (by decide) rfl (fun ls hl => ?_)
          refine lv_goto (tgt := 3) hx hb dX6_find_27 (by decide) ?_
          exact IH3 (v4_3 + 1) o3 _ _ _ hrun hP hD hK hS (lv_sub hl [1, 2, 3, 0] rfl) hr3 hk3
  obtain ⟨o3, hc3, hrun⟩ := bnd9 hrun
  refine L3 NF 0 o3 _ _ _ hc3 hP hD hK hS (lv_sub hl [1, 2, 3, 0] rfl) (fun r e9 => by subst e9; exact Option.some.inj hrun) ?_
  intro t3 e9
  subst e9
  replace hrun := el9 hrun
  intro H locs ls hP hD hK hS hl
  have hl := hl
  refine lv_iconst (v := (-1)) hx hb dX6_find_30 (by decide) ?_
  have ho9 : (-1) = o := Option.some.inj hrun
  have hP9 : va_P (dC, dI) cls (List.flatten ([(oX6 (p0a 0) p0a p0k p0w p0l)] : List va_W)) H := by first | exact hP | (rw [← ho9]; exact hP)
  have hD9 : va_D A (List.flatten ([(oX6 (p0a 0) p0a p0k p0w p0l)] : List va_W)) := by first | exact hD | (rw [← ho9]; exact hD)
  subst hQ
  exact W.iret (v := (-1)) hx hb hr (fun t ht hW => ⟨⟨(-1), (), rfl, (by rw [← ho9]), ⟨by rw [ht]; exact hP9, va_K.moved hW.alike hK, hD9⟩⟩, hS.F ht⟩) hS.2.2 dX6_find_31
def fX7_linkCalls_J108 (kk2 : Int32 → ST → ST → Option (ST × ST)) (v1_2 : Int32) (p0w_108 : ST) (p0_2w_108 : ST) : Option (ST × ST) := (kk2 (v1_2 + 1) p0w_108 p0_2w_108)
def fX7_linkCalls_L2 (p0l : SL) (p0_2l : SL) : Nat → Int32 → ST → ST → Option (ST × ST)
  | 0 => fun _ _ _ => none
  | n_2 + 1 => fun v1_2 p0w_2 p0_2w_2 => (if (p0w_2 0 17) ≤ v1_2 then some (p0w_2, p0_2w_2) else (if ixb v1_2 600 = true then ((fX6_find p0_2l (p0l 14 (nn v1_2)) (p0_2w_2 0 0)).bind fun (o_3 : Int32) => (if 0 ≤ o_3 then (if ixb v1_2 600 = true then (if ixb o_3 6 = true then (if (p0w_2 17 (nn v1_2)) = (p0_2w_2 4 (nn o_3)) then (if ixb v1_2 600 = true then (if 3200 ≤ (p0w_2 15 (nn v1_2)) then (fX7_linkCalls_J108 (fX7_linkCalls_L2 p0l p0_2l n_2) v1_2 p0w_2 p0_2w_2) else (if ixb v1_2 600 = true then (if ixb (p0w_2 15 (nn v1_2)) 3200 = true then (lt9 (upw p0_2w_2 10 (nn (p0w_2 15 (nn v1_2))) o_3) fun (w13 : ST) => (fX7_linkCalls_J108 (fX7_linkCalls_L2 p0l p0_2l n_2) v1_2 p0w_2 w13)) else none) else none)) else none) else (if ixb v1_2 600 = true then ((fX7_blame p0w_2 4 (p0w_2 16 (nn v1_2))).bind fun (o_15 : ST) => (fX7_linkCalls_J108 (fX7_linkCalls_L2 p0l p0_2l n_2) v1_2 o_15 p0_2w_2)) else none)) else none) else none) else (if ixb v1_2 600 = true then ((fX7_blame p0w_2 3 (p0w_2 16 (nn v1_2))).bind fun (o_17 : ST) => (fX7_linkCalls_J108 (fX7_linkCalls_L2 p0l p0_2l n_2) v1_2 o_17 p0_2w_2)) else none))) else none))
def fX7_linkCalls (p0w : ST) (p0l : SL) (p0_2w : ST) (p0_2l : SL) : Option (ST × ST) := ((fX7_linkCalls_L2 p0l p0_2l NF 0 p0w p0_2w).bind fun (o2 : ST × ST) => some ((o2.1), (o2.2)))
set_option maxHeartbeats 16000000 in
set_option maxRecDepth 100000 in
theorem kX7_linkCalls {zs : ZS} (l : Launch) (dC : Nat → ClassId) (dI : Nat → Nat → Nat) (p0a : Nat → Nat) (p0k : Nat → ClassId) (p0w : ST) (p0l : SL) (p0_2a : Nat → Nat) (p0_2k : Nat → ClassId) (p0_2w : ST) (p0_2l : SL) (sz : Nat) (o : ST × ST) (hrun : fX7_linkCalls p0w p0l p0_2w p0_2l = some o) : Met l yX7_linkCalls (wz yX7_linkCalls cX7_linkCalls 3 (Option.none : Option Jvm.ClassFile.FieldType)) ({ frames := 1, cells := 0, slots := 0, locals := 24 } : Room) (va_Pc [.ref (p0a 0)] (PRE zs dC dI (List.flatten ([(oX7 (p0a 0) p0a p0k p0w p0l), (oX6 (p0a 3) p0_2a p0_2k p0_2w p0_2l)] : List va_W)) (List.flatten ([(tX7 p0k), (tX6 p0_2k)] : List (List (ClassId × FieldType)))) sz)) (va_Qv (fun (_ : Unit) => True) (fun _ t => POST dC dI (List.flatten ([(oX7 (p0a 0) p0a p0k (o.1) p0l), (oX6 (p0a 3) p0_2a p0_2k (o.2) p0_2l)] : List va_W)) (List.flatten ([(tX7 p0k), (tX6 p0_2k)] : List (List (ClassId × FieldType)))) (va_A (List.flatten ([(oX7 (p0a 0) p0a p0k p0w p0l), (oX6 (p0a 3) p0_2a p0_2k p0_2w p0_2l)] : List va_W)) sz) t) (va_A (List.flatten ([(oX7 (p0a 0) p0a p0k p0w p0l), (oX6 (p0a 3) p0_2a p0_2k p0_2w p0_2l)] : List va_W)) sz)) 0 0 (va_A (List.flatten ([(oX7 (p0a 0) p0a p0k p0w p0l), (oX6 (p0a 3) p0_2a p0_2k p0_2w p0_2l)] : List va_W)) sz) := by
  refine Met.ofW (cc := cX7_linkCalls) (maxL := 3) (ret := (Option.none : Option Jvm.ClassFile.FieldType)) (by decide) rfl ?_
  intro p e s m args below meth c s₁ B hml hv
  obtain ⟨rfl, hsz, hP, hK, hD0, hE⟩ := hv
  have hx := B.exec
  have hb := B.bytes
  have hr := B.returns
  have hts0 := atoms_spec (ws := wz yX7_linkCalls cX7_linkCalls 3 (Option.none : Option Jvm.ClassFile.FieldType)) B.pre
  have hts : ∀ w ∈ gw, w.before _ s = true := fun w h => hts0 w (List.mem_cons_of_mem _ h)
  have hown : s.vm.findClass RX7 = some m.cls := findClass_of_methodNamed B.named
  have hlocks := B.notSynchronized
  subst hsz
  have hD := hD0.self (sz := s.heap.size)
  refine gQ9 ?_
  intro Q hQ
  generalize hAe : va_A (List.flatten ([(oX7 (p0a 0) p0a p0k p0w p0l), (oX6 (p0a 3) p0_2a p0_2k p0_2w p0_2l)] : List va_W)) s.heap.size = A at hD hE hQ
  have hA : ∀ q : Nat, s.heap.size ≤ q → A q := fun q h => by rw [← hAe]; exact Or.inr h
  have hS : va_S A s.heap s.heap [] := va_S.rf
  have hP : va_P (dC, dI) cls (List.flatten ([(oX7 (p0a 0) p0a p0k p0w p0l), (oX6 (p0a 3) p0_2a p0_2k p0_2w p0_2l)] : List va_W)) s.heap := hP
  have hl := lv_entry ([.ref (p0a 0)]) (n := 3) (Nat.le_of_ble_eq_true rfl)
  rw [lg_entry_eq]
  generalize (lg_sl ([.ref (p0a 0)]) ++ List.replicate (3 - (lg_sl ([.ref (p0a 0)])).length) Slot.unset).toArray = ls at hl ⊢
  have hl : lv_has ls 3 [(0, .ref (p0a 0))] := hl
  obtain ⟨H, hHe⟩ : ∃ H, H = s.heap := ⟨_, rfl⟩
  obtain ⟨locs, hle⟩ : ∃ locs : List Loc, locs = [] := ⟨_, rfl⟩
  rw [← hHe] at hP
  have hS : va_S A s.heap H locs := by rw [hHe, hle]; exact hS
  show W p l e ({ frames := 1, cells := 0, slots := 0, locals := 24 } : Room) s m ([.ref (p0a 0)] : List Value).toArray below meth c s.heap [] 0 0 Q (F0 m 0 ls [])
  rw [← hle]
  refine wH9 hHe ?_
  unfold fX7_linkCalls at hrun
  refine lv_iconst (v := 0) hx hb dX7_linkCalls_0 (by decide) ?_
  refine lv_istore_n (lv' := [(1, .int 0), (0, .ref (p0a 0))]) hx hb dX7_linkCalls_1 rfl hl (by decide) rfl (fun ls hl => ?_)
  have L2 : ∀ (n_2 : Nat) (v1_2 : Int32) (p0w_2 : ST) (p0_2w_2 : ST) (o2 : ST × ST) (H : Heap) (locs : List Loc) (ls : Array Slot), (fX7_linkCalls_L2 p0l p0_2l n_2) v1_2 p0w_2 p0_2w_2 = some o2 → va_P (dC, dI) cls (List.flatten ([(oX7 (p0a 0) p0a p0k p0w_2 p0l), (oX6 (p0a 3) p0_2a p0_2k p0_2w_2 p0_2l)] : List va_W)) H → va_D A (List.flatten ([(oX7 (p0a 0) p0a p0k p0w_2 p0l), (oX6 (p0a 3) p0_2a p0_2k p0_2w_2 p0_2l)] : List va_W)) → va_K (dC, dI) cls (List.flatten ([(tX7 p0k), (tX6 p0_2k)] : List (List (ClassId × FieldType)))) s → va_S A s.heap H locs → lv_has ls 3 [(0, .ref (p0a 0)), (1, .int v1_2)] → (∀ (H : Heap) (locs : List Loc) (ls : Array Slot), va_P (dC, dI) cls (List.flatten ([(oX7 (p0a 0) p0a p0k (o2.1) p0l), (oX6 (p0a 3) p0_2a p0_2k (o2.2) p0_2l)] : List va_W)) H → va_D A (List.flatten ([(oX7 (p0a 0) p0a p0k (o2.1) p0l), (oX6 (p0a 3) p0_2a p0_2k (o2.2) p0_2l)] : List va_W)) → va_K (dC, dI) cls (List.flatten ([(tX7 p0k), (tX6 p0_2k)] : List (List (ClassId × FieldType)))) s → va_S A s.heap H locs → lv_has ls 3 [] → W p l e ({ frames := 1, cells := 0, slots := 0, locals := 24 } : Room) s m ([.ref (p0a 0)] : List Value).toArray below meth c H locs 0 0 Q (F0 m 114 ls [])) → W p l e ({ frames := 1, cells := 0, slots := 0, locals := 24 } : Room) s m ([.ref (p0a 0)] : List Value).toArray below meth c H locs 0 0 Q (F0 m 2 ls []) := by
    intro n_2
    induction n_2 with
    | zero => intro v1_2 p0w_2 p0_2w_2 o2 H locs ls hrun; exact (no9 rfl hrun).elim
    | succ n_2 IH2 =>
      intro v1_2 p0w_2 p0_2w_2 o2 H locs ls hrun hP hD hK hS hl hk2
      unfold fX7_linkCalls_L2 at hrun
      refine lv_iload_n hx hb dX7_linkCalls_2 rfl (lv_at hl 1 rfl) ?_
      refine lv_aload_n hx hb dX7_linkCalls_3 rfl (lv_at hl 0 rfl) ?_
      refine va_get (D := (dC, dI)) (ci := 1) (v := .int (p0w_2 0 17)) (C := RX7) (T := TX7) (N := 18) hx hb hts i_X7 hown hK hP 0 rfl rfl 17 (by decide) (hts _ qw48) (fun _ h9 => h9) rfl dX7_linkCalls_4 ?_
      rcases br9 hrun with ⟨hc1, hrun⟩ | ⟨hc1, hrun⟩
      · refine lv_icmp_ge (tgt := 114) hx hb dX7_linkCalls_7 (by decide) (fun _ => ?_) (fun c => absurd hc1 c)
        obtain rfl := (Option.some.inj hrun)
        exact hk2 _ _ _ hP hD hK hS (lv_sub hl [] rfl)
      · refine lv_icmp_ge (tgt := 114) hx hb dX7_linkCalls_7 (by decide) (fun c => absurd c hc1) (fun _ => ?_)
        refine lv_aload_n hx hb dX7_linkCalls_10 rfl (lv_at hl 0 rfl) ?_
        refine va_get (D := (dC, dI)) (ci := 1) (v := .ref (p0a 3)) (C := RX7) (T := TX7) (N := 18) hx hb hts i_X7 hown hK hP 0 rfl rfl 2 (by decide) (hts _ qw26) (fun _ h9 => h9) rfl dX7_linkCalls_11 ?_
        refine lv_aload_n hx hb dX7_linkCalls_14 rfl (lv_at hl 0 rfl) ?_
        refine va_get (D := (dC, dI)) (ci := 1) (v := .ref (p0a 14)) (C := RX7) (T := TX7) (N := 18) hx hb hts i_X7 hown hK hP 0 rfl rfl 13 (by decide) (hts _ qw49) (fun _ h9 => h9) rfl dX7_linkCalls_15 ?_
        refine lv_iload_n hx hb dX7_linkCalls_18 rfl (lv_at hl 1 rfl) ?_
        obtain ⟨hq2, hrun⟩ := chk9 hrun
        refine va_lald hx hb hK hP 5 4 rfl rfl (ixb_in hq2) dX7_linkCalls_19 ?_
        refine lv_aload_n hx hb dX7_linkCalls_20 rfl (lv_at hl 0 rfl) ?_
        refine va_get (D := (dC, dI)) (ci := 1) (v := .ref (p0a 3)) (C := RX7) (T := TX7) (N := 18) hx hb hts i_X7 hown hK hP 0 rfl rfl 2 (by decide) (hts _ qw26) (fun _ h9 => h9) rfl dX7_linkCalls_21 ?_
        refine va_get (D := (dC, dI)) (ci := 2) (v := .int (p0_2w_2 0 0)) (C := RX6) (T := TX6) (N := 13) hx hb hts i_X6 hown hK hP 9 rfl rfl 0 (by decide) (hts _ qw50) (fun _ h9 => h9) rfl dX7_linkCalls_24 ?_
        obtain ⟨o_3, hc_3, hrun⟩ := bnd9 hrun
        have hPx : va_P (dC, dI) cls ((List.flatten ([(oX6 (p0a 3) p0_2a p0_2k p0_2w_2 p0_2l)] : List va_W)) ++ (List.flatten ([(oX7 (p0a 0) p0a p0k p0w_2 p0l)] : List va_W))) H := vP_fa (vP_perm hP (bP ((((List.Perm.refl _)).cons _).trans (List.Perm.swap _ _ _))))
        have hDx : va_D A ((List.flatten ([(oX6 (p0a 3) p0_2a p0_2k p0_2w_2 p0_2l)] : List va_W)) ++ (List.flatten ([(oX7 (p0a 0) p0a p0k p0w_2 p0l)] : List va_W))) := vD_fa (vD_perm hD (bP ((((List.Perm.refl _)).cons _).trans (List.Perm.swap _ _ _))))
        have hKx : va_K (dC, dI) cls ((List.flatten ([(tX6 p0_2k)] : List (List (ClassId × FieldType)))) ++ (List.flatten ([(tX7 p0k)] : List (List (ClassId × FieldType))))) s := vK_fa (vK_perm hK (bP ((((List.Perm.refl _)).cons _).trans (List.Perm.swap _ _ _))))
        have hPc := vP_l hPx
        have hDc := vD_l hDx
        have hKc := vK_l hKx
        have hFc := vfree hDx hS hA
        refine va_calli (va_runV (As := [.long (p0l 14 (nn v1_2)), .int (p0_2w_2 0 0)]) (rest := []) ⟨hx, hb, hml, hown, hts⟩ (kX6_find l dC dI (p0a := (st0 (p0a 3) p0_2a)) (p0k := p0_2k) (p0w := p0_2w_2) (p0l := p0_2l) (p1 := (p0l 14 (nn v1_2))) (p2 := (p0_2w_2 0 0)) (sz := _) (o := o_3) (hrun := hc_3)) (cwV 2 hts (gi_V qw53 qw54 qw55 qw33 (gi_z qw52)) rfl rfl rfl (by decide +kernel) ⟨Nat.le_of_ble_eq_true rfl, Nat.le_of_ble_eq_true rfl⟩) ⟨PRE.blind, va_recv hKc hPc (ci := 2) (q0 := 0) rfl rfl, PRE.of hE hS hFc hPc hKc hDc⟩ rfl rfl hl.1 rfl (lv_room (Nat.le_of_ble_eq_true rfl)) dX7_linkCalls_27 ⟨(Nat.le_of_ble_eq_true rfl), (Nat.le_of_ble_eq_true rfl)⟩) hS (fun q _ h => hFc q h) hFc (fun r4 u t H locs ht hvm hw hB hz1 hk1 hS => ?_)
        obtain ⟨b1, b2, b3⟩ := hB
        rw [ht] at b1
        obtain ⟨hP, hD, hK⟩ := JOINC (wc := (List.flatten ([(oX6 (p0a 3) p0_2a p0_2k p0_2w_2 p0_2l)] : List va_W))) (wr := (List.flatten ([(oX7 (p0a 0) p0a p0k p0w_2 p0l)] : List va_W))) (w1 := (List.flatten ([(oX6 (p0a 3) p0_2a p0_2k p0_2w_2 p0_2l)] : List va_W))) (t1 := (List.flatten ([(tX6 p0_2k)] : List (List (ClassId × FieldType))))) hPx hDx hKx hk1 hFc b1 (va_K.moved hvm.symm b2) b3
        have hP : va_P (dC, dI) cls (List.flatten ([(oX7 (p0a 0) p0a p0k p0w_2 p0l), (oX6 (p0a 3) p0_2a p0_2k p0_2w_2 p0_2l)] : List va_W)) H := vP_perm (vP_fb hP) (bP ((((List.Perm.refl _)).cons _).trans (List.Perm.swap _ _ _)))
        have hD : va_D A (List.flatten ([(oX7 (p0a 0) p0a p0k p0w_2 p0l), (oX6 (p0a 3) p0_2a p0_2k p0_2w_2 p0_2l)] : List va_W)) := vD_perm (vD_fb hD) (bP ((((List.Perm.refl _)).cons _).trans (List.Perm.swap _ _ _)))
        have hK : va_K (dC, dI) cls (List.flatten ([(tX7 p0k), (tX6 p0_2k)] : List (List (ClassId × FieldType)))) s := vK_perm (vK_fb hK) (bP ((((List.Perm.refl _)).cons _).trans (List.Perm.swap _ _ _)))
        obtain rfl : o_3 = r4 := hw.symm
        refine lv_istore_n (lv' := [(2, .int o_3), (0, .ref (p0a 0)), (1, .int v1_2)]) hx hb dX7_linkCalls_30 rfl hl (by decide) rfl (fun ls hl => ?_)
        refine lv_iload_n hx hb dX7_linkCalls_31 rfl (lv_at hl 0 rfl) ?_
        have J108 : ∀ (p0w_108 : ST) (p0_2w_108 : ST) (H : Heap) (locs : List Loc) (ls : Array Slot), (fX7_linkCalls_J108 (fX7_linkCalls_L2 p0l p0_2l n_2) v1_2 p0w_108 p0_2w_108) = some o2 → va_P (dC, dI) cls (List.flatten ([(oX7 (p0a 0) p0a p0k p0w_108 p0l), (oX6 (p0a 3) p0_2a p0_2k p0_2w_108 p0_2l)] : List va_W)) H → va_D A (List.flatten ([(oX7 (p0a 0) p0a p0k p0w_108 p0l), (oX6 (p0a 3) p0_2a p0_2k p0_2w_108 p0_2l)] : List va_W)) → va_K (dC, dI) cls (List.flatten ([(tX7 p0k), (tX6 p0_2k)] : List (List (ClassId × FieldType)))) s → va_S A s.heap H locs → lv_has ls 3 [(0, .ref (p0a 0)), (1, .int v1_2)] → W p l e ({ frames := 1, cells := 0, slots := 0, locals := 24 } : Room) s m ([.ref (p0a 0)] : List Value).toArray below meth c H locs 0 0 Q (F0 m 108 ls []) := by
          intro p0w_108 p0_2w_108 H locs ls hrun hP hD hK hS hl 
          unfold fX7_linkCalls_J108 at hrun
          refine lv_iinc (v := (v1_2 + 1)) (lv' := [(1, .int (v1_2 + 1)), (0, .ref (p0a 0))]) hx hb dX7_linkCalls_108 hl (k := 1) rfl rfl (by decide) rfl (fun ls hl => ?_)
          refine lv_goto (tgt := 2) hx hb dX7_linkCalls_111 (by decide) ?_
          exact IH2 (v1_2 + 1) p0w_108 p0_2w_108 o2 _ _ _ hrun hP hD hK hS (lv_sub hl [1, 0] rfl) hk2
        rcases br9 hrun with ⟨hc5, hrun⟩ | ⟨hc5, hrun⟩
        · refine lv_if_ge (tgt := 49) hx hb dX7_linkCalls_32 (by decide) (fun _ => ?_) (fun c => absurd hc5 c)
          refine lv_aload_n hx hb dX7_linkCalls_49 rfl (lv_at hl 1 rfl) ?_
          refine va_get (D := (dC, dI)) (ci := 1) (v := .ref (p0a 17)) (C := RX7) (T := TX7) (N := 18) hx hb hts i_X7 hown hK hP 0 rfl rfl 16 (by decide) (hts _ qw56) (fun _ h9 => h9) rfl dX7_linkCalls_50 ?_
          refine lv_iload_n hx hb dX7_linkCalls_53 rfl (lv_at hl 2 rfl) ?_
          obtain ⟨hq6, hrun⟩ := chk9 hrun
          refine va_iald hx hb hK hP 8 7 rfl rfl (ixb_in hq6) dX7_linkCalls_54 ?_
          refine lv_aload_n hx hb dX7_linkCalls_55 rfl (lv_at hl 1 rfl) ?_
          refine va_get (D := (dC, dI)) (ci := 1) (v := .ref (p0a 3)) (C := RX7) (T := TX7) (N := 18) hx hb hts i_X7 hown hK hP 0 rfl rfl 2 (by decide) (hts _ qw26) (fun _ h9 => h9) rfl dX7_linkCalls_56 ?_
          refine va_get (D := (dC, dI)) (ci := 2) (v := .ref (p0_2a 4)) (C := RX6) (T := TX6) (N := 13) hx hb hts i_X6 hown hK hP 9 rfl rfl 3 (by decide) (hts _ qw57) (fun _ h9 => h9) rfl dX7_linkCalls_59 ?_
          refine lv_iload_n hx hb dX7_linkCalls_62 rfl (lv_at hl 0 rfl) ?_
          obtain ⟨hq7, hrun⟩ := chk9 hrun
          refine va_iald hx hb hK hP 12 10 rfl rfl (ixb_in hq7) dX7_linkCalls_63 ?_
          rcases br9 hrun with ⟨hc8, hrun⟩ | ⟨hc8, hrun⟩
          · refine lv_icmp_eq (tgt := 81) hx hb dX7_linkCalls_64 (by decide) (fun _ => ?_) (fun c => absurd hc8 c)
            refine lv_aload_n hx hb dX7_linkCalls_81 rfl (lv_at hl 1 rfl) ?_
            refine va_get (D := (dC, dI)) (ci := 1) (v := .ref (p0a 15)) (C := RX7) (T := TX7) (N := 18) hx hb hts i_X7 hown hK hP 0 rfl rfl 14 (by decide) (hts _ qw58) (fun _ h9 => h9) rfl dX7_linkCalls_82 ?_
            refine lv_iload_n hx hb dX7_linkCalls_85 rfl (lv_at hl 2 rfl) ?_
            obtain ⟨hq9, hrun⟩ := chk9 hrun
            refine va_iald hx hb hK hP 6 5 rfl rfl (ixb_in hq9) dX7_linkCalls_86 ?_
            refine lv_sipush (v := 3200) hx hb dX7_linkCalls_87 (by decide) ?_
            rcases br9 hrun with ⟨hc10, hrun⟩ | ⟨hc10, hrun⟩
            · refine lv_icmp_ge (tgt := 108) hx hb dX7_linkCalls_90 (by decide) (fun _ => ?_) (fun c => absurd hc10 c)
              exact J108 p0w_2 p0_2w_2 _ _ _ hrun hP hD hK hS (lv_sub hl [1, 2] rfl)
            · refine lv_icmp_ge (tgt := 108) hx hb dX7_linkCalls_90 (by decide) (fun c => absurd c hc10) (fun _ => ?_)
              refine lv_aload_n hx hb dX7_linkCalls_93 rfl (lv_at hl 1 rfl) ?_
              refine va_get (D := (dC, dI)) (ci := 1) (v := .ref (p0a 3)) (C := RX7) (T := TX7) (N := 18) hx hb hts i_X7 hown hK hP 0 rfl rfl 2 (by decide) (hts _ qw26) (fun _ h9 => h9) rfl dX7_linkCalls_94 ?_
              refine va_get (D := (dC, dI)) (ci := 2) (v := .ref (p0_2a 10)) (C := RX6) (T := TX6) (N := 13) hx hb hts i_X6 hown hK hP 9 rfl rfl 9 (by decide) (hts _ qw59) (fun _ h9 => h9) rfl dX7_linkCalls_97 ?_
              refine lv_aload_n hx hb dX7_linkCalls_100 rfl (lv_at hl 1 rfl) ?_
              refine va_get (D := (dC, dI)) (ci := 1) (v := .ref (p0a 15)) (C := RX7) (T := TX7) (N := 18) hx hb hts i_X7 hown hK hP 0 rfl rfl 14 (by decide) (hts _ qw58) (fun _ h9 => h9) rfl dX7_linkCalls_101 ?_
              refine lv_iload_n hx hb dX7_linkCalls_104 rfl (lv_at hl 2 rfl) ?_
              obtain ⟨hq11, hrun⟩ := chk9 hrun
              refine va_iald hx hb hK hP 6 5 rfl rfl (ixb_in hq11) dX7_linkCalls_105 ?_
              refine lv_iload_n hx hb dX7_linkCalls_106 rfl (lv_at hl 0 rfl) ?_
              obtain ⟨hq12, hrun⟩ := chk9 hrun
              refine va_iast hx hb hK hP hD hS 17 15 rfl rfl (ixb_in hq12) dX7_linkCalls_107 (fun H locs hP hD hS => ?_)
              have hP : va_P (dC, dI) cls (List.flatten ([(oX7 (p0a 0) p0a p0k p0w_2 p0l), (oX6 (p0a 3) p0_2a p0_2k (upw p0_2w_2 10 (nn (p0w_2 15 (nn v1_2))) o_3) p0_2l)] : List va_W)) H := hP
              have hD : va_D A (List.flatten ([(oX7 (p0a 0) p0a p0k p0w_2 p0l), (oX6 (p0a 3) p0_2a p0_2k (upw p0_2w_2 10 (nn (p0w_2 15 (nn v1_2))) o_3) p0_2l)] : List va_W)) := hD
              obtain ⟨w13, ew13, hrun⟩ := let9 hrun
              rw [← ew13] at hP hD
              exact J108 p0w_2 w13 _ _ _ hrun hP hD hK hS (lv_sub hl [1, 2] rfl)
          · refine lv_icmp_eq (tgt := 81) hx hb dX7_linkCalls_64 (by decide) (fun c => absurd c hc8) (fun _ => ?_)
            refine lv_aload_n hx hb dX7_linkCalls_67 rfl (lv_at hl 1 rfl) ?_
            refine lv_iconst (v := 4) hx hb dX7_linkCalls_68 (by decide) ?_
            refine lv_aload_n hx hb dX7_linkCalls_69 rfl (lv_at hl 1 rfl) ?_
            refine va_get (D := (dC, dI)) (ci := 1) (v := .ref (p0a 16)) (C := RX7) (T := TX7) (N := 18) hx hb hts i_X7 hown hK hP 0 rfl rfl 15 (by decide) (hts _ qw60) (fun _ h9 => h9) rfl dX7_linkCalls_70 ?_
            refine lv_iload_n hx hb dX7_linkCalls_73 rfl (lv_at hl 2 rfl) ?_
            obtain ⟨hq14, hrun⟩ := chk9 hrun
            refine va_iald hx hb hK hP 7 6 rfl rfl (ixb_in hq14) dX7_linkCalls_74 ?_
            obtain ⟨o_15, hc_15, hrun⟩ := bnd9 hrun
            have hPx : va_P (dC, dI) cls ((List.flatten ([(oX7 (p0a 0) p0a p0k p0w_2 p0l)] : List va_W)) ++ (List.flatten ([(oX6 (p0a 3) p0_2a p0_2k p0_2w_2 p0_2l)] : List va_W))) H := vP_fa (vP_perm hP (bP (List.Perm.refl _)))
            have hDx : va_D A ((List.flatten ([(oX7 (p0a 0) p0a p0k p0w_2 p0l)] : List va_W)) ++ (List.flatten ([(oX6 (p0a 3) p0_2a p0_2k p0_2w_2 p0_2l)] : List va_W))) := vD_fa (vD_perm hD (bP (List.Perm.refl _)))
            have hKx : va_K (dC, dI) cls ((List.flatten ([(tX7 p0k)] : List (List (ClassId × FieldType)))) ++ (List.flatten ([(tX6 p0_2k)] : List (List (ClassId × FieldType))))) s := vK_fa (vK_perm hK (bP (List.Perm.refl _)))
            have hPc := vP_l hPx
            have hDc := vD_l hDx
            have hKc := vK_l hKx
            have hFc := vfree hDx hS hA
            refine va_callv (va_runV (As := [.int 4, .int (p0w_2 16 (nn v1_2))]) (rest := []) ⟨hx, hb, hml, hown, hts⟩ (kX7_blame l dC dI (p0a := p0a) (p0k := p0k) (p0w := p0w_2) (p0l := p0l) (p1 := 4) (p2 := (p0w_2 16 (nn v1_2))) (sz := _) (o := o_15) (hrun := hc_15)) (cwV 2 hts (gi_V qw62 qw63 qw64 qw65 (gi_z qw61)) rfl rfl rfl (by decide +kernel) ⟨Nat.le_of_ble_eq_true rfl, Nat.le_of_ble_eq_true rfl⟩) ⟨PRE.blind, va_recv hKc hPc (ci := 1) (q0 := 0) rfl rfl, PRE.of hE hS hFc hPc hKc hDc⟩ rfl rfl hl.1 rfl (lv_room (Nat.le_of_ble_eq_true rfl)) dX7_linkCalls_75 ⟨(Nat.le_of_ble_eq_true rfl), (Nat.le_of_ble_eq_true rfl)⟩) hS (fun q _ h => hFc q h) hFc (fun u t H locs ht hvm hw hB hz1 hk1 hS => ?_)
            obtain ⟨b1, b2, b3⟩ := hB
            rw [ht] at b1
            obtain ⟨hP, hD, hK⟩ := JOINC (wc := (List.flatten ([(oX7 (p0a 0) p0a p0k p0w_2 p0l)] : List va_W))) (wr := (List.flatten ([(oX6 (p0a 3) p0_2a p0_2k p0_2w_2 p0_2l)] : List va_W))) (w1 := (List.flatten ([(oX7 (p0a 0) p0a p0k o_15 p0l)] : List va_W))) (t1 := (List.flatten ([(tX7 p0k)] : List (List (ClassId × FieldType))))) hPx hDx hKx hk1 hFc b1 (va_K.moved hvm.symm b2) b3
            have hP : va_P (dC, dI) cls (List.flatten ([(oX7 (p0a 0) p0a p0k o_15 p0l), (oX6 (p0a 3) p0_2a p0_2k p0_2w_2 p0_2l)] : List va_W)) H := vP_perm (vP_fb hP) (bP (List.Perm.refl _))
            have hD : va_D A (List.flatten ([(oX7 (p0a 0) p0a p0k o_15 p0l), (oX6 (p0a 3) p0_2a p0_2k p0_2w_2 p0_2l)] : List va_W)) := vD_perm (vD_fb hD) (bP (List.Perm.refl _))
            have hK : va_K (dC, dI) cls (List.flatten ([(tX7 p0k), (tX6 p0_2k)] : List (List (ClassId × FieldType)))) s := vK_perm (vK_fb hK) (bP (List.Perm.refl _))
            refine lv_goto (tgt := 108) hx hb dX7_linkCalls_78 (by decide) ?_
            exact J108 o_15 p0_2w_2 _ _ _ hrun hP hD hK hS (lv_sub hl [1, 2] rfl)
        · refine lv_if_ge (tgt := 49) hx hb dX7_linkCalls_32 (by decide) (fun c => absurd c hc5) (fun _ => ?_)
          refine lv_aload_n hx hb dX7_linkCalls_35 rfl (lv_at hl 1 rfl) ?_
          refine lv_iconst (v := 3) hx hb dX7_linkCalls_36 (by decide) ?_
          refine lv_aload_n hx hb dX7_linkCalls_37 rfl (lv_at hl 1 rfl) ?_
          refine va_get (D := (dC, dI)) (ci := 1) (v := .ref (p0a 16)) (C := RX7) (T := TX7) (N := 18) hx hb hts i_X7 hown hK hP 0 rfl rfl 15 (by decide) (hts _ qw60) (fun _ h9 => h9) rfl dX7_linkCalls_38 ?_
          refine lv_iload_n hx hb dX7_linkCalls_41 rfl (lv_at hl 2 rfl) ?_
          obtain ⟨hq16, hrun⟩ := chk9 hrun
          refine va_iald hx hb hK hP 7 6 rfl rfl (ixb_in hq16) dX7_linkCalls_42 ?_
          obtain ⟨o_17, hc_17, hrun⟩ := bnd9 hrun
          have hPx : va_P (dC, dI) cls ((List.flatten ([(oX7 (p0a 0) p0a p0k p0w_2 p0l)] : List va_W)) ++ (List.flatten ([(oX6 (p0a 3) p0_2a p0_2k p0_2w_2 p0_2l)] : List va_W))) H := vP_fa (vP_perm hP (bP (List.Perm.refl _)))
          have hDx : va_D A ((List.flatten ([(oX7 (p0a 0) p0a p0k p0w_2 p0l)] : List va_W)) ++ (List.flatten ([(oX6 (p0a 3) p0_2a p0_2k p0_2w_2 p0_2l)] : List va_W))) := vD_fa (vD_perm hD (bP (List.Perm.refl _)))
          have hKx : va_K (dC, dI) cls ((List.flatten ([(tX7 p0k)] : List (List (ClassId × FieldType)))) ++ (List.flatten ([(tX6 p0_2k)] : List (List (ClassId × FieldType))))) s := vK_fa (vK_perm hK (bP (List.Perm.refl _)))
          have hPc := vP_l hPx
          have hDc := vD_l hDx
          have hKc := vK_l hKx
          have hFc := vfree hDx hS hA
          refine va_callv (va_runV (As := [.int 3, .int (p0w_2 16 (nn v1_2))]) (rest := []) ⟨hx, hb, hml, hown, hts⟩ (kX7_blame l dC dI (p0a := p0a) (p0k := p0k) (p0w := p0w_2) (p0l := p0l) (p1 := 3) (p2 := (p0w_2 16 (nn v1_2))) (sz := _) (o := o_17) (hrun := hc_17)) (cwV 2 hts (gi_V qw62 qw63 qw64 qw65 (gi_z qw61)) rfl rfl rfl (by decide +kernel) ⟨Nat.le_of_ble_eq_true rfl, Nat.le_of_ble_eq_true rfl⟩) ⟨PRE.blind, va_recv hKc hPc (ci := 1) (q0 := 0) rfl rfl, PRE.of hE hS hFc hPc hKc hDc⟩ rfl rfl hl.1 rfl (lv_room (Nat.le_of_ble_eq_true rfl)) dX7_linkCalls_43 ⟨(Nat.le_of_ble_eq_true rfl), (Nat.le_of_ble_eq_true rfl)⟩) hS (fun q _ h => hFc q h) hFc (fun u t H locs ht hvm hw hB hz1 hk1 hS => ?_)
          obtain ⟨b1, b2, b3⟩ := hB
          rw [ht] at b1
          obtain ⟨hP, hD, hK⟩ := JOINC (wc := (List.flatten ([(oX7 (p0a 0) p0a p0k p0w_2 p0l)] : List va_W))) (wr := (List.flatten ([(oX6 (p0a 3) p0_2a p0_2k p0_2w_2 p0_2l)] : List va_W))) (w1 := (List.flatten ([(oX7 (p0a 0) p0a p0k o_17 p0l)] : List va_W))) (t1 := (List.flatten ([(tX7 p0k)] : List (List (ClassId × FieldType))))) hPx hDx hKx hk1 hFc b1 (va_K.moved hvm.symm b2) b3
          have hP : va_P (dC, dI) cls (List.flatten ([(oX7 (p0a 0) p0a p0k o_17 p0l), (oX6 (p0a 3) p0_2a p0_2k p0_2w_2 p0_2l)] : List va_W)) H := vP_perm (vP_fb hP) (bP (List.Perm.refl _))
          have hD : va_D A (List.flatten ([(oX7 (p0a 0) p0a p0k o_17 p0l), (oX6 (p0a 3) p0_2a p0_2k p0_2w_2 p0_2l)] : List va_W)) := vD_perm (vD_fb hD) (bP (List.Perm.refl _))
          have hK : va_K (dC, dI) cls (List.flatten ([(tX7 p0k), (tX6 p0_2k)] : List (List (ClassId × FieldType)))) s := vK_perm (vK_fb hK) (bP (List.Perm.refl _))
          refine lv_goto (tgt := 108) hx hb dX7_linkCalls_46 (by decide) ?_
          exact J108 o_17 p0_2w_2 _ _ _ hrun hP hD hK hS (lv_sub hl [1, 2] rfl)
  obtain ⟨o2, hc2, hrun⟩ := bnd9 hrun
  refine L2 NF 0 p0w p0_2w o2 _ _ _ hc2 hP hD hK hS (lv_sub hl [1, 0] rfl) ?_
  intro H locs ls hP hD hK hS hl
  have hl := hl
  have ho9 : ((o2.1), (o2.2)) = o := Option.some.inj hrun
  have hP9 : va_P (dC, dI) cls (List.flatten ([(oX7 (p0a 0) p0a p0k (o.1) p0l), (oX6 (p0a 3) p0_2a p0_2k (o.2) p0_2l)] : List va_W)) H := by first | exact hP | (rw [← ho9]; exact hP)
  have hD9 : va_D A (List.flatten ([(oX7 (p0a 0) p0a p0k (o.1) p0l), (oX6 (p0a 3) p0_2a p0_2k (o.2) p0_2l)] : List va_W)) := by first | exact hD | (rw [← ho9]; exact hD)
  subst hQ
  exact W.vret hx hb hr (fun t ht hW => ⟨⟨(), rfl, trivial, ⟨by rw [ht]; exact hP9, va_K.moved hW.alike hK, hD9⟩⟩, hS.F ht⟩) hS.2.2 dX7_linkCalls_114
def fX7_noteCall_J67 (p0w_67 : ST) (p0l_67 : SL) : Option (ST × SL) := some (p0w_67, p0l_67)
def fX7_noteCall (p0w : ST) (p0l : SL) (p1 : Int64) (p2 : Int32) (p3 : Int32) (p0_2w : ST) : Option (ST × SL) := (if 600 ≤ (p0w 0 17) then (fX7_noteCall_J67 p0w p0l) else (if ixb (p0w 0 17) 600 = true then (lt9 (upl p0l 14 (nn (p0w 0 17)) p1) fun (l3 : SL) => (if ixb (p0w 0 17) 600 = true then (lt9 (upw p0w 15 (nn (p0w 0 17)) (p0_2w 0 7)) fun (w5 : ST) => (if ixb (w5 0 17) 600 = true then (lt9 (upw w5 16 (nn (w5 0 17)) p2) fun (w7 : ST) => (if ixb (w7 0 17) 600 = true then (lt9 (upw w7 17 (nn (w7 0 17)) p3) fun (w9 : ST) => (lt9 (upw w9 0 17 ((w9 0 17) + 1)) fun (w10 : ST) => (fX7_noteCall_J67 w10 l3))) else none)) else none)) else none)) else none))
set_option maxHeartbeats 16000000 in
set_option maxRecDepth 100000 in
theorem kX7_noteCall {zs : ZS} (l : Launch) (dC : Nat → ClassId) (dI : Nat → Nat → Nat) (p0a : Nat → Nat) (p0k : Nat → ClassId) (p0w : ST) (p0l : SL) (p1 : Int64) (p2 : Int32) (p3 : Int32) (p0_2a : Nat → Nat) (p0_2k : Nat → ClassId) (p0_2w : ST) (p0_2l : SL) (sz : Nat) (o : ST × SL) (hrun : fX7_noteCall p0w p0l p1 p2 p3 p0_2w = some o) : Met l yX7_noteCall (wz yX7_noteCall cX7_noteCall 5 (Option.none : Option Jvm.ClassFile.FieldType)) ({ frames := 0, cells := 0, slots := 0, locals := 0 } : Room) (va_Pc [.ref (p0a 0), .long p1, .int p2, .int p3] (PRE zs dC dI (List.flatten ([(oX7 (p0a 0) p0a p0k p0w p0l), (oX6 (p0a 3) p0_2a p0_2k p0_2w p0_2l)] : List va_W)) (List.flatten ([(tX7 p0k), (tX6 p0_2k)] : List (List (ClassId × FieldType)))) sz)) (va_Qv (fun (_ : Unit) => True) (fun _ t => POST dC dI (List.flatten ([(oX7 (p0a 0) p0a p0k (o.1) (o.2)), (oX6 (p0a 3) p0_2a p0_2k p0_2w p0_2l)] : List va_W)) (List.flatten ([(tX7 p0k), (tX6 p0_2k)] : List (List (ClassId × FieldType)))) (va_A (List.flatten ([(oX7 (p0a 0) p0a p0k p0w p0l), (oX6 (p0a 3) p0_2a p0_2k p0_2w p0_2l)] : List va_W)) sz) t) (va_A (List.flatten ([(oX7 (p0a 0) p0a p0k p0w p0l), (oX6 (p0a 3) p0_2a p0_2k p0_2w p0_2l)] : List va_W)) sz)) 0 0 (va_A (List.flatten ([(oX7 (p0a 0) p0a p0k p0w p0l), (oX6 (p0a 3) p0_2a p0_2k p0_2w p0_2l)] : List va_W)) sz) := by
  refine Met.ofW (cc := cX7_noteCall) (maxL := 5) (ret := (Option.none : Option Jvm.ClassFile.FieldType)) (by decide) rfl ?_
  intro p e s m args below meth c s₁ B hml hv
  obtain ⟨rfl, hsz, hP, hK, hD0, hE⟩ := hv
  have hx := B.exec
  have hb := B.bytes
  have hr := B.returns
  have hts0 := atoms_spec (ws := wz yX7_noteCall cX7_noteCall 5 (Option.none : Option Jvm.ClassFile.FieldType)) B.pre
  have hts : ∀ w ∈ gw, w.before _ s = true := fun w h => hts0 w (List.mem_cons_of_mem _ h)
  have hown : s.vm.findClass RX7 = some m.cls := findClass_of_methodNamed B.named
  have hlocks := B.notSynchronized
  subst hsz
  have hD := hD0.self (sz := s.heap.size)
  refine gQ9 ?_
  intro Q hQ
  generalize hAe : va_A (List.flatten ([(oX7 (p0a 0) p0a p0k p0w p0l), (oX6 (p0a 3) p0_2a p0_2k p0_2w p0_2l)] : List va_W)) s.heap.size = A at hD hE hQ
  have hA : ∀ q : Nat, s.heap.size ≤ q → A q := fun q h => by rw [← hAe]; exact Or.inr h
  have hS : va_S A s.heap s.heap [] := va_S.rf
  have hP : va_P (dC, dI) cls (List.flatten ([(oX7 (p0a 0) p0a p0k p0w p0l), (oX6 (p0a 3) p0_2a p0_2k p0_2w p0_2l)] : List va_W)) s.heap := hP
  have hl := lv_entry ([.ref (p0a 0), .long p1, .int p2, .int p3]) (n := 5) (Nat.le_of_ble_eq_true rfl)
  rw [lg_entry_eq]
  generalize (lg_sl ([.ref (p0a 0), .long p1, .int p2, .int p3]) ++ List.replicate (5 - (lg_sl ([.ref (p0a 0), .long p1, .int p2, .int p3])).length) Slot.unset).toArray = ls at hl ⊢
  have hl : lv_has ls 5 [(0, .ref (p0a 0)), (1, .long p1), (3, .int p2), (4, .int p3)] := hl
  obtain ⟨H, hHe⟩ : ∃ H, H = s.heap := ⟨_, rfl⟩
  obtain ⟨locs, hle⟩ : ∃ locs : List Loc, locs = [] := ⟨_, rfl⟩
  rw [← hHe] at hP
  have hS : va_S A s.heap H locs := by rw [hHe, hle]; exact hS
  show W p l e ({ frames := 0, cells := 0, slots := 0, locals := 0 } : Room) s m ([.ref (p0a 0), .long p1, .int p2, .int p3] : List Value).toArray below meth c s.heap [] 0 0 Q (F0 m 0 ls [])
  rw [← hle]
  refine wH9 hHe ?_
  unfold fX7_noteCall at hrun
  refine lv_aload_n hx hb dX7_noteCall_0 rfl (lv_at hl 0 rfl) ?_
  refine va_get (D := (dC, dI)) (ci := 1) (v := .int (p0w 0 17)) (C := RX7) (T := TX7) (N := 18) hx hb hts i_X7 hown hK hP 0 rfl rfl 17 (by decide) (hts _ qw48) (fun _ h9 => h9) rfl dX7_noteCall_1 ?_
  refine lv_sipush (v := 600) hx hb dX7_noteCall_4 (by decide) ?_
  have J67 : ∀ (p0w_67 : ST) (p0l_67 : SL) (H : Heap) (locs : List Loc) (ls : Array Slot), (fX7_noteCall_J67 p0w_67 p0l_67) = some o → va_P (dC, dI) cls (List.flatten ([(oX7 (p0a 0) p0a p0k p0w_67 p0l_67), (oX6 (p0a 3) p0_2a p0_2k p0_2w p0_2l)] : List va_W)) H → va_D A (List.flatten ([(oX7 (p0a 0) p0a p0k p0w_67 p0l_67), (oX6 (p0a 3) p0_2a p0_2k p0_2w p0_2l)] : List va_W)) → va_K (dC, dI) cls (List.flatten ([(tX7 p0k), (tX6 p0_2k)] : List (List (ClassId × FieldType)))) s → va_S A s.heap H locs → lv_has ls 5 [] → W p l e ({ frames := 0, cells := 0, slots := 0, locals := 0 } : Room) s m ([.ref (p0a 0), .long p1, .int p2, .int p3] : List Value).toArray below meth c H locs 0 0 Q (F0 m 67 ls []) := by
    intro p0w_67 p0l_67 H locs ls hrun hP hD hK hS hl 
    unfold fX7_noteCall_J67 at hrun
    have ho9 : (p0w_67, p0l_67) = o := Option.some.inj hrun
    have hP9 : va_P (dC, dI) cls (List.flatten ([(oX7 (p0a 0) p0a p0k (o.1) (o.2)), (oX6 (p0a 3) p0_2a p0_2k p0_2w p0_2l)] : List va_W)) H := by first | exact hP | (rw [← ho9]; exact hP)
    have hD9 : va_D A (List.flatten ([(oX7 (p0a 0) p0a p0k (o.1) (o.2)), (oX6 (p0a 3) p0_2a p0_2k p0_2w p0_2l)] : List va_W)) := by first | exact hD | (rw [← ho9]; exact hD)
    subst hQ
    exact W.vret hx hb hr (fun t ht hW => ⟨⟨(), rfl, trivial, ⟨by rw [ht]; exact hP9, va_K.moved hW.alike hK, hD9⟩⟩, hS.F ht⟩) hS.2.2 dX7_noteCall_67
  rcases br9 hrun with ⟨hc1, hrun⟩ | ⟨hc1, hrun⟩
  · refine lv_icmp_ge (tgt := 67) hx hb dX7_noteCall_7 (by decide) (fun _ => ?_) (fun c => absurd hc1 c)
    exact J67 p0w p0l _ _ _ hrun hP hD hK hS (lv_sub hl [] rfl)
  · refine lv_icmp_ge (tgt := 67) hx hb dX7_noteCall_7 (by decide) (fun c => absurd c hc1) (fun _ => ?_)
    refine lv_aload_n hx hb dX7_noteCall_10 rfl (lv_at hl 0 rfl) ?_
    refine va_get (D := (dC, dI)) (ci := 1) (v := .ref (p0a 14)) (C := RX7) (T := TX7) (N := 18) hx hb hts i_X7 hown hK hP 0 rfl rfl 13 (by decide) (hts _ qw49) (fun _ h9 => h9) rfl dX7_noteCall_11 ?_
    refine lv_aload_n hx hb dX7_noteCall_14 rfl (lv_at hl 0 rfl) ?_
    refine va_get (D := (dC, dI)) (ci := 1) (v := .int (p0w 0 17)) (C := RX7) (T := TX7) (N := 18) hx hb hts i_X7 hown hK hP 0 rfl rfl 17 (by decide) (hts _ qw48) (fun _ h9 => h9) rfl dX7_noteCall_15 ?_
    refine lv_lload_n hx hb dX7_noteCall_18 rfl (lv_at hl 1 rfl) ?_
    obtain ⟨hq2, hrun⟩ := chk9 hrun
    refine va_last hx hb hK hP hD hS 5 4 rfl rfl (ixb_in hq2) dX7_noteCall_19 (fun H locs hP hD hS => ?_)
    have hP : va_P (dC, dI) cls (List.flatten ([(oX7 (p0a 0) p0a p0k p0w (upl p0l 14 (nn (p0w 0 17)) p1)), (oX6 (p0a 3) p0_2a p0_2k p0_2w p0_2l)] : List va_W)) H := hP
    have hD : va_D A (List.flatten ([(oX7 (p0a 0) p0a p0k p0w (upl p0l 14 (nn (p0w 0 17)) p1)), (oX6 (p0a 3) p0_2a p0_2k p0_2w p0_2l)] : List va_W)) := hD
    obtain ⟨l3, el3, hrun⟩ := let9 hrun
    rw [← el3] at hP hD
    refine lv_aload_n hx hb dX7_noteCall_20 rfl (lv_at hl 0 rfl) ?_
    refine va_get (D := (dC, dI)) (ci := 1) (v := .ref (p0a 15)) (C := RX7) (T := TX7) (N := 18) hx hb hts i_X7 hown hK hP 0 rfl rfl 14 (by decide) (hts _ qw58) (fun _ h9 => h9) rfl dX7_noteCall_21 ?_
    refine lv_aload_n hx hb dX7_noteCall_24 rfl (lv_at hl 0 rfl) ?_
    refine va_get (D := (dC, dI)) (ci := 1) (v := .int (p0w 0 17)) (C := RX7) (T := TX7) (N := 18) hx hb hts i_X7 hown hK hP 0 rfl rfl 17 (by decide) (hts _ qw48) (fun _ h9 => h9) rfl dX7_noteCall_25 ?_
    refine lv_aload_n hx hb dX7_noteCall_28 rfl (lv_at hl 0 rfl) ?_
    refine va_get (D := (dC, dI)) (ci := 1) (v := .ref (p0a 3)) (C := RX7) (T := TX7) (N := 18) hx hb hts i_X7 hown hK hP 0 rfl rfl 2 (by decide) (hts _ qw26) (fun _ h9 => h9) rfl dX7_noteCall_29 ?_
    refine va_get (D := (dC, dI)) (ci := 2) (v := .int (p0_2w 0 7)) (C := RX6) (T := TX6) (N := 13) hx hb hts i_X6 hown hK hP 9 rfl rfl 7 (by decide) (hts _ qw66) (fun _ h9 => h9) rfl dX7_noteCall_32 ?_
    obtain ⟨hq4, hrun⟩ := chk9 hrun
    refine va_iast hx hb hK hP hD hS 6 5 rfl rfl (ixb_in hq4) dX7_noteCall_35 (fun H locs hP hD hS => ?_)
    have hP : va_P (dC, dI) cls (List.flatten ([(oX7 (p0a 0) p0a p0k (upw p0w 15 (nn (p0w 0 17)) (p0_2w 0 7)) l3), (oX6 (p0a 3) p0_2a p0_2k p0_2w p0_2l)] : List va_W)) H := hP
    have hD : va_D A (List.flatten ([(oX7 (p0a 0) p0a p0k (upw p0w 15 (nn (p0w 0 17)) (p0_2w 0 7)) l3), (oX6 (p0a 3) p0_2a p0_2k p0_2w p0_2l)] : List va_W)) := hD
    obtain ⟨w5, ew5, hrun⟩ := let9 hrun
    rw [← ew5] at hP hD
    refine lv_aload_n hx hb dX7_noteCall_36 rfl (lv_at hl 0 rfl) ?_
    refine va_get (D := (dC, dI)) (ci := 1) (v := .ref (p0a 16)) (C := RX7) (T := TX7) (N := 18) hx hb hts i_X7 hown hK hP 0 rfl rfl 15 (by decide) (hts _ qw60) (fun _ h9 => h9) rfl dX7_noteCall_37 ?_
    refine lv_aload_n hx hb dX7_noteCall_40 rfl (lv_at hl 0 rfl) ?_
    refine va_get (D := (dC, dI)) (ci := 1) (v := .int (w5 0 17)) (C := RX7) (T := TX7) (N := 18) hx hb hts i_X7 hown hK hP 0 rfl rfl 17 (by decide) (hts _ qw48) (fun _ h9 => h9) rfl dX7_noteCall_41 ?_
    refine lv_iload_n hx hb dX7_noteCall_44 rfl (lv_at hl 2 rfl) ?_
    obtain ⟨hq6, hrun⟩ := chk9 hrun
    refine va_iast hx hb hK hP hD hS 7 6 rfl rfl (ixb_in hq6) dX7_noteCall_45 (fun H locs hP hD hS => ?_)
    have hP : va_P (dC, dI) cls (List.flatten ([(oX7 (p0a 0) p0a p0k (upw w5 16 (nn (w5 0 17)) p2) l3), (oX6 (p0a 3) p0_2a p0_2k p0_2w p0_2l)] : List va_W)) H := hP
    have hD : va_D A (List.flatten ([(oX7 (p0a 0) p0a p0k (upw w5 16 (nn (w5 0 17)) p2) l3), (oX6 (p0a 3) p0_2a p0_2k p0_2w p0_2l)] : List va_W)) := hD
    obtain ⟨w7, ew7, hrun⟩ := let9 hrun
    rw [← ew7] at hP hD
    refine lv_aload_n hx hb dX7_noteCall_46 rfl (lv_at hl 0 rfl) ?_
    refine va_get (D := (dC, dI)) (ci := 1) (v := .ref (p0a 17)) (C := RX7) (T := TX7) (N := 18) hx hb hts i_X7 hown hK hP 0 rfl rfl 16 (by decide) (hts _ qw56) (fun _ h9 => h9) rfl dX7_noteCall_47 ?_
    refine lv_aload_n hx hb dX7_noteCall_50 rfl (lv_at hl 0 rfl) ?_
    refine va_get (D := (dC, dI)) (ci := 1) (v := .int (w7 0 17)) (C := RX7) (T := TX7) (N := 18) hx hb hts i_X7 hown hK hP 0 rfl rfl 17 (by decide) (hts _ qw48) (fun _ h9 => h9) rfl dX7_noteCall_51 ?_
    refine lv_iload hx hb dX7_noteCall_54 (lv_at hl 3 rfl) ?_
    obtain ⟨hq8, hrun⟩ := chk9 hrun
    refine va_iast hx hb hK hP hD hS 8 7 rfl rfl (ixb_in hq8) dX7_noteCall_56 (fun H locs hP hD hS => ?_)
    have hP : va_P (dC, dI) cls (List.flatten ([(oX7 (p0a 0) p0a p0k (upw w7 17 (nn (w7 0 17)) p3) l3), (oX6 (p0a 3) p0_2a p0_2k p0_2w p0_2l)] : List va_W)) H := hP
    have hD : va_D A (List.flatten ([(oX7 (p0a 0) p0a p0k (upw w7 17 (nn (w7 0 17)) p3) l3), (oX6 (p0a 3) p0_2a p0_2k p0_2w p0_2l)] : List va_W)) := hD
    obtain ⟨w9, ew9, hrun⟩ := let9 hrun
    rw [← ew9] at hP hD
    refine lv_aload_n hx hb dX7_noteCall_57 rfl (lv_at hl 0 rfl) ?_
    refine lv_dup hx hb dX7_noteCall_58 rfl ?_
    refine va_get (D := (dC, dI)) (ci := 1) (v := .int (w9 0 17)) (C := RX7) (T := TX7) (N := 18) hx hb hts i_X7 hown hK hP 0 rfl rfl 17 (by decide) (hts _ qw48) (fun _ h9 => h9) rfl dX7_noteCall_59 ?_
    refine lv_iconst (v := 1) hx hb dX7_noteCall_62 (by decide) ?_
    refine lv_iadd hx hb dX7_noteCall_63 ?_
    refine va_put (D := (dC, dI)) (ci := 1) (v := .int ((w9 0 17) + 1)) (ty := .int) (C := RX7) (T := TX7) (N := 18) hx hb hts i_X7 tyX7 tyX7_ok nmX7 hown hK hP hD hS 0 rfl rfl 17 (by decide) (hts _ qw48) (fun _ h9 => h9) rfl (by decide +kernel) rfl rfl (Nat.le_of_ble_eq_true rfl) dX7_noteCall_64 (fun H locs hP hD hS => ?_)
    have hP : va_P (dC, dI) cls (List.flatten ([(oX7 (p0a 0) p0a p0k (upw w9 0 17 ((w9 0 17) + 1)) l3), (oX6 (p0a 3) p0_2a p0_2k p0_2w p0_2l)] : List va_W)) H := hP
    have hD : va_D A (List.flatten ([(oX7 (p0a 0) p0a p0k (upw w9 0 17 ((w9 0 17) + 1)) l3), (oX6 (p0a 3) p0_2a p0_2k p0_2w p0_2l)] : List va_W)) := hD
    obtain ⟨w10, ew10, hrun⟩ := let9 hrun
    rw [← ew10] at hP hD
    exact J67 w10 l3 _ _ _ hrun hP hD hK hS (lv_sub hl [] rfl)
def fX7_raise_J26 (p1 : Int32) (p0w_26 : ST) : Option (Int32 × ST) := some ((p1 + 1), p0w_26)
def fX7_raise_J21 (p0w : ST) (p1 : Int32) (p2 : Int32) : Option (Int32 × ST) := (lt9 (upw p0w 0 5 p2) fun (w2 : ST) => (fX7_raise_J26 p1 w2))
def fX7_raise (p0w : ST) (p1 : Int32) (p2 : Int32) : Option (Int32 × ST) := (if p1 < 10 then (fX7_raise_J26 p1 p0w) else (if (p0w 0 5) < 0 then (fX7_raise_J21 p0w p1 p2) else (if (p0w 0 5) ≤ p2 then (fX7_raise_J26 p1 p0w) else (fX7_raise_J21 p0w p1 p2))))
set_option maxHeartbeats 16000000 in
set_option maxRecDepth 100000 in
theorem kX7_raise {zs : ZS} (l : Launch) (dC : Nat → ClassId) (dI : Nat → Nat → Nat) (p0a : Nat → Nat) (p0k : Nat → ClassId) (p0w : ST) (p0l : SL) (p1 : Int32) (p2 : Int32) (sz : Nat) (o : Int32 × ST) (hrun : fX7_raise p0w p1 p2 = some o) : Met l yX7_raise (wz yX7_raise cX7_raise 3 (Option.some Jvm.ClassFile.FieldType.int)) ({ frames := 0, cells := 0, slots := 0, locals := 0 } : Room) (va_Pc [.ref (p0a 0), .int p1, .int p2] (PRE zs dC dI (List.flatten ([(oX7 (p0a 0) p0a p0k p0w p0l)] : List va_W)) (List.flatten ([(tX7 p0k)] : List (List (ClassId × FieldType)))) sz)) (va_Qi (fun (r : Int32) (_ : Unit) => r = (o.1)) (fun _ t => POST dC dI (List.flatten ([(oX7 (p0a 0) p0a p0k (o.2) p0l)] : List va_W)) (List.flatten ([(tX7 p0k)] : List (List (ClassId × FieldType)))) (va_A (List.flatten ([(oX7 (p0a 0) p0a p0k p0w p0l)] : List va_W)) sz) t) (va_A (List.flatten ([(oX7 (p0a 0) p0a p0k p0w p0l)] : List va_W)) sz)) 0 0 (va_A (List.flatten ([(oX7 (p0a 0) p0a p0k p0w p0l)] : List va_W)) sz) := by
  refine Met.ofW (cc := cX7_raise) (maxL := 3) (ret := (Option.some Jvm.ClassFile.FieldType.int)) (by decide) rfl ?_
  intro p e s m args below meth c s₁ B hml hv
  obtain ⟨rfl, hsz, hP, hK, hD0, hE⟩ := hv
  have hx := B.exec
  have hb := B.bytes
  have hr := B.returns
  have hts0 := atoms_spec (ws := wz yX7_raise cX7_raise 3 (Option.some Jvm.ClassFile.FieldType.int)) B.pre
  have hts : ∀ w ∈ gw, w.before _ s = true := fun w h => hts0 w (List.mem_cons_of_mem _ h)
  have hown : s.vm.findClass RX7 = some m.cls := findClass_of_methodNamed B.named
  have hlocks := B.notSynchronized
  subst hsz
  have hD := hD0.self (sz := s.heap.size)
  refine gQ9 ?_
  intro Q hQ
  generalize hAe : va_A (List.flatten ([(oX7 (p0a 0) p0a p0k p0w p0l)] : List va_W)) s.heap.size = A at hD hE hQ
  have hA : ∀ q : Nat, s.heap.size ≤ q → A q := fun q h => by rw [← hAe]; exact Or.inr h
  have hS : va_S A s.heap s.heap [] := va_S.rf
  have hP : va_P (dC, dI) cls (List.flatten ([(oX7 (p0a 0) p0a p0k p0w p0l)] : List va_W)) s.heap := hP
  have hl := lv_entry ([.ref (p0a 0), .int p1, .int p2]) (n := 3) (Nat.le_of_ble_eq_true rfl)
  rw [lg_entry_eq]
  generalize (lg_sl ([.ref (p0a 0), .int p1, .int p2]) ++ List.replicate (3 - (lg_sl ([.ref (p0a 0), .int p1, .int p2])).length) Slot.unset).toArray = ls at hl ⊢
  have hl : lv_has ls 3 [(0, .ref (p0a 0)), (1, .int p1), (2, .int p2)] := hl
  obtain ⟨H, hHe⟩ : ∃ H, H = s.heap := ⟨_, rfl⟩
  obtain ⟨locs, hle⟩ : ∃ locs : List Loc, locs = [] := ⟨_, rfl⟩
  rw [← hHe] at hP
  have hS : va_S A s.heap H locs := by rw [hHe, hle]; exact hS
  show W p l e ({ frames := 0, cells := 0, slots := 0, locals := 0 } : Room) s m ([.ref (p0a 0), .int p1, .int p2] : List Value).toArray below meth c s.heap [] 0 0 Q (F0 m 0 ls [])
  rw [← hle]
  refine wH9 hHe ?_
  unfold fX7_raise at hrun
  refine lv_iload_n hx hb dX7_raise_0 rfl (lv_at hl 1 rfl) ?_
  refine lv_bipush (v := 10) hx hb dX7_raise_1 (by decide) ?_
  have J26 : ∀ (p0w_26 : ST) (H : Heap) (locs : List Loc) (ls : Array Slot), (fX7_raise_J26 p1 p0w_26) = some o → va_P (dC, dI) cls (List.flatten ([(oX7 (p0a 0) p0a p0k p0w_26 p0l)] : List va_W)) H → va_D A (List.flatten ([(oX7 (p0a 0) p0a p0k p0w_26 p0l)] : List va_W)) → va_K (dC, dI) cls (List.flatten ([(tX7 p0k)] : List (List (ClassId × FieldType)))) s → va_S A s.heap H locs → lv_has ls 3 [(1, .int p1)] → W p l e ({ frames := 0, cells := 0, slots := 0, locals := 0 } : Room) s m ([.ref (p0a 0), .int p1, .int p2] : List Value).toArray below meth c H locs 0 0 Q (F0 m 26 ls []) := by
    intro p0w_26 H locs ls hrun hP hD hK hS hl 
    unfold fX7_raise_J26 at hrun
    refine lv_iload_n hx hb dX7_raise_26 rfl (lv_at hl 0 rfl) ?_
    refine lv_iconst (v := 1) hx hb dX7_raise_27 (by decide) ?_
    refine lv_iadd hx hb dX7_raise_28 ?_
    have ho9 : ((p1 + 1), p0w_26) = o := Option.some.inj hrun
    have hP9 : va_P (dC, dI) cls (List.flatten ([(oX7 (p0a 0) p0a p0k (o.2) p0l)] : List va_W)) H := by first | exact hP | (rw [← ho9]; exact hP)
    have hD9 : va_D A (List.flatten ([(oX7 (p0a 0) p0a p0k (o.2) p0l)] : List va_W)) := by first | exact hD | (rw [← ho9]; exact hD)
    subst hQ
    exact W.iret (v := (p1 + 1)) hx hb hr (fun t ht hW => ⟨⟨(p1 + 1), (), rfl, (by rw [← ho9]), ⟨by rw [ht]; exact hP9, va_K.moved hW.alike hK, hD9⟩⟩, hS.F ht⟩) hS.2.2 dX7_raise_29
  rcases br9 hrun with ⟨hc1, hrun⟩ | ⟨hc1, hrun⟩
  · refine lv_icmp_lt (tgt := 26) hx hb dX7_raise_3 (by decide) (fun _ => ?_) (fun c => absurd hc1 c)
    exact J26 p0w _ _ _ hrun hP hD hK hS (lv_sub hl [1] rfl)
  · refine lv_icmp_lt (tgt := 26) hx hb dX7_raise_3 (by decide) (fun c => absurd c hc1) (fun _ => ?_)
    refine lv_aload_n hx hb dX7_raise_6 rfl (lv_at hl 0 rfl) ?_
    refine va_get (D := (dC, dI)) (ci := 1) (v := .int (p0w 0 5)) (C := RX7) (T := TX7) (N := 18) hx hb hts i_X7 hown hK hP 0 rfl rfl 5 (by decide) (hts _ qw67) (fun _ h9 => h9) rfl dX7_raise_7 ?_
    have J21 : ∀ (H : Heap) (locs : List Loc) (ls : Array Slot), (fX7_raise_J21 p0w p1 p2) = some o → va_P (dC, dI) cls (List.flatten ([(oX7 (p0a 0) p0a p0k p0w p0l)] : List va_W)) H → va_D A (List.flatten ([(oX7 (p0a 0) p0a p0k p0w p0l)] : List va_W)) → va_K (dC, dI) cls (List.flatten ([(tX7 p0k)] : List (List (ClassId × FieldType)))) s → va_S A s.heap H locs → lv_has ls 3 [(0, .ref (p0a 0)), (1, .int p1), (2, .int p2)] → W p l e ({ frames := 0, cells := 0, slots := 0, locals := 0 } : Room) s m ([.ref (p0a 0), .int p1, .int p2] : List Value).toArray below meth c H locs 0 0 Q (F0 m 21 ls []) := by
      intro  H locs ls hrun hP hD hK hS hl 
      unfold fX7_raise_J21 at hrun
      refine lv_aload_n hx hb dX7_raise_21 rfl (lv_at hl 0 rfl) ?_
      refine lv_iload_n hx hb dX7_raise_22 rfl (lv_at hl 2 rfl) ?_
      refine va_put (D := (dC, dI)) (ci := 1) (v := .int p2) (ty := .int) (C := RX7) (T := TX7) (N := 18) hx hb hts i_X7 tyX7 tyX7_ok nmX7 hown hK hP hD hS 0 rfl rfl 5 (by decide) (hts _ qw67) (fun _ h9 => h9) rfl (by decide +kernel) rfl rfl (Nat.le_of_ble_eq_true rfl) dX7_raise_23 (fun H locs hP hD hS => ?_)
      have hP : va_P (dC, dI) cls (List.flatten ([(oX7 (p0a 0) p0a p0k (upw p0w 0 5 p2) p0l)] : List va_W)) H := hP
      have hD : va_D A (List.flatten ([(oX7 (p0a 0) p0a p0k (upw p0w 0 5 p2) p0l)] : List va_W)) := hD
      obtain ⟨w2, ew2, hrun⟩ := let9 hrun
      rw [← ew2] at hP hD
      exact J26 w2 _ _ _ hrun hP hD hK hS (lv_sub hl [1] rfl)
    rcases br9 hrun with ⟨hc3, hrun⟩ | ⟨hc3, hrun⟩
    · refine lv_if_lt (tgt := 21) hx hb dX7_raise_10 (by decide) (fun _ => ?_) (fun c => absurd hc3 c)
      exact J21 _ _ _ hrun hP hD hK hS (lv_sub hl [0, 1, 2] rfl)
    · refine lv_if_lt (tgt := 21) hx hb dX7_raise_10 (by decide) (fun c => absurd c hc3) (fun _ => ?_)
      refine lv_iload_n hx hb dX7_raise_13 rfl (lv_at hl 2 rfl) ?_
      refine lv_aload_n hx hb dX7_raise_14 rfl (lv_at hl 0 rfl) ?_
      refine va_get (D := (dC, dI)) (ci := 1) (v := .int (p0w 0 5)) (C := RX7) (T := TX7) (N := 18) hx hb hts i_X7 hown hK hP 0 rfl rfl 5 (by decide) (hts _ qw67) (fun _ h9 => h9) rfl dX7_raise_15 ?_
      rcases br9 hrun with ⟨hc4, hrun⟩ | ⟨hc4, hrun⟩
      · refine lv_icmp_ge (tgt := 26) hx hb dX7_raise_18 (by decide) (fun _ => ?_) (fun c => absurd hc4 c)
        exact J26 p0w _ _ _ hrun hP hD hK hS (lv_sub hl [1] rfl)
      · refine lv_icmp_ge (tgt := 26) hx hb dX7_raise_18 (by decide) (fun c => absurd c hc4) (fun _ => ?_)
        exact J21 _ _ _ hrun hP hD hK hS (lv_sub hl [0, 1, 2] rfl)
def fX6_newLabel_J20 (p0w_20 : ST) : Option (Int32 × ST) := some (((p0w_20 0 11) - 1), p0w_20)
def fX6_newLabel (p0w : ST) : Option (Int32 × ST) := (if 640 ≤ (p0w 0 11) then (fX6_newLabel_J20 p0w) else (lt9 (upw p0w 0 11 ((p0w 0 11) + 1)) fun (w2 : ST) => (fX6_newLabel_J20 w2)))
set_option maxHeartbeats 16000000 in
set_option maxRecDepth 100000 in
theorem kX6_newLabel {zs : ZS} (l : Launch) (dC : Nat → ClassId) (dI : Nat → Nat → Nat) (p0a : Nat → Nat) (p0k : Nat → ClassId) (p0w : ST) (p0l : SL) (sz : Nat) (o : Int32 × ST) (hrun : fX6_newLabel p0w = some o) : Met l yX6_newLabel (wz yX6_newLabel cX6_newLabel 1 (Option.some Jvm.ClassFile.FieldType.int)) ({ frames := 0, cells := 0, slots := 0, locals := 0 } : Room) (va_Pc [.ref (p0a 0)] (PRE zs dC dI (List.flatten ([(oX6 (p0a 0) p0a p0k p0w p0l)] : List va_W)) (List.flatten ([(tX6 p0k)] : List (List (ClassId × FieldType)))) sz)) (va_Qi (fun (r : Int32) (_ : Unit) => r = (o.1)) (fun _ t => POST dC dI (List.flatten ([(oX6 (p0a 0) p0a p0k (o.2) p0l)] : List va_W)) (List.flatten ([(tX6 p0k)] : List (List (ClassId × FieldType)))) (va_A (List.flatten ([(oX6 (p0a 0) p0a p0k p0w p0l)] : List va_W)) sz) t) (va_A (List.flatten ([(oX6 (p0a 0) p0a p0k p0w p0l)] : List va_W)) sz)) 0 0 (va_A (List.flatten ([(oX6 (p0a 0) p0a p0k p0w p0l)] : List va_W)) sz) := by
  refine Met.ofW (cc := cX6_newLabel) (maxL := 1) (ret := (Option.some Jvm.ClassFile.FieldType.int)) (by decide) rfl ?_
  intro p e s m args below meth c s₁ B hml hv
  obtain ⟨rfl, hsz, hP, hK, hD0, hE⟩ := hv
  have hx := B.exec
  have hb := B.bytes
  have hr := B.returns
  have hts0 := atoms_spec (ws := wz yX6_newLabel cX6_newLabel 1 (Option.some Jvm.ClassFile.FieldType.int)) B.pre
  have hts : ∀ w ∈ gw, w.before _ s = true := fun w h => hts0 w (List.mem_cons_of_mem _ h)
  have hown : s.vm.findClass RX6 = some m.cls := findClass_of_methodNamed B.named
  have hlocks := B.notSynchronized
  subst hsz
  have hD := hD0.self (sz := s.heap.size)
  refine gQ9 ?_
  intro Q hQ
  generalize hAe : va_A (List.flatten ([(oX6 (p0a 0) p0a p0k p0w p0l)] : List va_W)) s.heap.size = A at hD hE hQ
  have hA : ∀ q : Nat, s.heap.size ≤ q → A q := fun q h => by rw [← hAe]; exact Or.inr h
  have hS : va_S A s.heap s.heap [] := va_S.rf
  have hP : va_P (dC, dI) cls (List.flatten ([(oX6 (p0a 0) p0a p0k p0w p0l)] : List va_W)) s.heap := hP
  have hl := lv_entry ([.ref (p0a 0)]) (n := 1) (Nat.le_of_ble_eq_true rfl)
  rw [lg_entry_eq]
  generalize (lg_sl ([.ref (p0a 0)]) ++ List.replicate (1 - (lg_sl ([.ref (p0a 0)])).length) Slot.unset).toArray = ls at hl ⊢
  have hl : lv_has ls 1 [(0, .ref (p0a 0))] := hl
  obtain ⟨H, hHe⟩ : ∃ H, H = s.heap := ⟨_, rfl⟩
  obtain ⟨locs, hle⟩ : ∃ locs : List Loc, locs = [] := ⟨_, rfl⟩
  rw [← hHe] at hP
  have hS : va_S A s.heap H locs := by rw [hHe, hle]; exact hS
  show W p l e ({ frames := 0, cells := 0, slots := 0, locals := 0 } : Room) s m ([.ref (p0a 0)] : List Value).toArray below meth c s.heap [] 0 0 Q (F0 m 0 ls [])
  rw [← hle]
  refine wH9 hHe ?_
  unfold fX6_newLabel at hrun
  refine lv_aload_n hx hb dX6_newLabel_0 rfl (lv_at hl 0 rfl) ?_
  refine va_get (D := (dC, dI)) (ci := 2) (v := .int (p0w 0 11)) (C := RX6) (T := TX6) (N := 13) hx hb hts i_X6 hown hK hP 0 rfl rfl 11 (by decide) (hts _ qw71) (fun _ h9 => h9) rfl dX6_newLabel_1 ?_
  refine lv_sipush (v := 640) hx hb dX6_newLabel_4 (by decide) ?_
  have J20 : ∀ (p0w_20 : ST) (H : Heap) (locs : List Loc) (ls : Array Slot), (fX6_newLabel_J20 p0w_20) = some o → va_P (dC, dI) cls (List.flatten ([(oX6 (p0a 0) p0a p0k p0w_20 p0l)] : List va_W)) H → va_D A (List.flatten ([(oX6 (p0a 0) p0a p0k p0w_20 p0l)] : List va_W)) → va_K (dC, dI) cls (List.flatten ([(tX6 p0k)] : List (List (ClassId × FieldType)))) s → va_S A s.heap H locs → lv_has ls 1 [(0, .ref (p0a 0))] → W p l e ({ frames := 0, cells := 0, slots := 0, locals := 0 } : Room) s m ([.ref (p0a 0)] : List Value).toArray below meth c H locs 0 0 Q (F0 m 20 ls []) := by
    intro p0w_20 H locs ls hrun hP hD hK hS hl 
    unfold fX6_newLabel_J20 at hrun
    refine lv_aload_n hx hb dX6_newLabel_20 rfl (lv_at hl 0 rfl) ?_
    refine va_get (D := (dC, dI)) (ci := 2) (v := .int (p0w_20 0 11)) (C := RX6) (T := TX6) (N := 13) hx hb hts i_X6 hown hK hP 0 rfl rfl 11 (by decide) (hts _ qw71) (fun _ h9 => h9) rfl dX6_newLabel_21 ?_
    refine lv_iconst (v := 1) hx hb dX6_newLabel_24 (by decide) ?_
    refine lv_isub hx hb dX6_newLabel_25 ?_
    have ho9 : (((p0w_20 0 11) - 1), p0w_20) = o := Option.some.inj hrun
    have hP9 : va_P (dC, dI) cls (List.flatten ([(oX6 (p0a 0) p0a p0k (o.2) p0l)] : List va_W)) H := by first | exact hP | (rw [← ho9]; exact hP)
    have hD9 : va_D A (List.flatten ([(oX6 (p0a 0) p0a p0k (o.2) p0l)] : List va_W)) := by first | exact hD | (rw [← ho9]; exact hD)
    subst hQ
    exact W.iret (v := ((p0w_20 0 11) - 1)) hx hb hr (fun t ht hW => ⟨⟨((p0w_20 0 11) - 1), (), rfl, (by rw [← ho9]), ⟨by rw [ht]; exact hP9, va_K.moved hW.alike hK, hD9⟩⟩, hS.F ht⟩) hS.2.2 dX6_newLabel_26
  rcases br9 hrun with ⟨hc1, hrun⟩ | ⟨hc1, hrun⟩
  · refine lv_icmp_ge (tgt := 20) hx hb dX6_newLabel_7 (by decide) (fun _ => ?_) (fun c => absurd hc1 c)
    exact J20 p0w _ _ _ hrun hP hD hK hS (lv_sub hl [0] rfl)
  · refine lv_icmp_ge (tgt := 20) hx hb dX6_newLabel_7 (by decide) (fun c => absurd c hc1) (fun _ => ?_)
    refine lv_aload_n hx hb dX6_newLabel_10 rfl (lv_at hl 0 rfl) ?_
    refine lv_dup hx hb dX6_newLabel_11 rfl ?_
    refine va_get (D := (dC, dI)) (ci := 2) (v := .int (p0w 0 11)) (C := RX6) (T := TX6) (N := 13) hx hb hts i_X6 hown hK hP 0 rfl rfl 11 (by decide) (hts _ qw71) (fun _ h9 => h9) rfl dX6_newLabel_12 ?_
    refine lv_iconst (v := 1) hx hb dX6_newLabel_15 (by decide) ?_
    refine lv_iadd hx hb dX6_newLabel_16 ?_
    refine va_put (D := (dC, dI)) (ci := 2) (v := .int ((p0w 0 11) + 1)) (ty := .int) (C := RX6) (T := TX6) (N := 13) hx hb hts i_X6 tyX6 tyX6_ok nmX6 hown hK hP hD hS 0 rfl rfl 11 (by decide) (hts _ qw71) (fun _ h9 => h9) rfl (by decide +kernel) rfl rfl (Nat.le_of_ble_eq_true rfl) dX6_newLabel_17 (fun H locs hP hD hS => ?_)
    have hP : va_P (dC, dI) cls (List.flatten ([(oX6 (p0a 0) p0a p0k (upw p0w 0 11 ((p0w 0 11) + 1)) p0l)] : List va_W)) H := hP
    have hD : va_D A (List.flatten ([(oX6 (p0a 0) p0a p0k (upw p0w 0 11 ((p0w 0 11) + 1)) p0l)] : List va_W)) := hD
    obtain ⟨w2, ew2, hrun⟩ := let9 hrun
    rw [← ew2] at hP hD
    exact J20 w2 _ _ _ hrun hP hD hK hS (lv_sub hl [0] rfl)
def fX7_refuse  : Option Unit := none
set_option maxHeartbeats 16000000 in
set_option maxRecDepth 100000 in
theorem kX7_refuse {zs : ZS} (l : Launch) (dC : Nat → ClassId) (dI : Nat → Nat → Nat) (p0a : Nat → Nat) (p0k : Nat → ClassId) (p0w : ST) (p0l : SL) (sz : Nat) (o : Unit) (hrun : fX7_refuse = some o) : Met l yX7_refuse (wz yX7_refuse cX7_refuse 1 (Option.none : Option Jvm.ClassFile.FieldType)) ({ frames := 0, cells := 0, slots := 0, locals := 0 } : Room) (va_Pc [.ref (p0a 0)] (PRE zs dC dI (List.flatten ([(oX7 (p0a 0) p0a p0k p0w p0l)] : List va_W)) (List.flatten ([(tX7 p0k)] : List (List (ClassId × FieldType)))) sz)) (va_Qv (fun (_ : Unit) => True) (fun _ t => POST dC dI (List.flatten ([(oX7 (p0a 0) p0a p0k p0w p0l)] : List va_W)) (List.flatten ([(tX7 p0k)] : List (List (ClassId × FieldType)))) (va_A (List.flatten ([(oX7 (p0a 0) p0a p0k p0w p0l)] : List va_W)) sz) t) (va_A (List.flatten ([(oX7 (p0a 0) p0a p0k p0w p0l)] : List va_W)) sz)) 0 0 (va_A (List.flatten ([(oX7 (p0a 0) p0a p0k p0w p0l)] : List va_W)) sz) := by
  refine Met.ofW (cc := cX7_refuse) (maxL := 1) (ret := (Option.none : Option Jvm.ClassFile.FieldType)) (by decide) rfl ?_
  intro p e s m args below meth c s₁ B hml hv
  obtain ⟨rfl, hsz, hP, hK, hD0, hE⟩ := hv
  have hx := B.exec
  have hb := B.bytes
  have hr := B.returns
  have hts0 := atoms_spec (ws := wz yX7_refuse cX7_refuse 1 (Option.none : Option Jvm.ClassFile.FieldType)) B.pre
  have hts : ∀ w ∈ gw, w.before _ s = true := fun w h => hts0 w (List.mem_cons_of_mem _ h)
  have hown : s.vm.findClass RX7 = some m.cls := findClass_of_methodNamed B.named
  have hlocks := B.notSynchronized
  subst hsz
  have hD := hD0.self (sz := s.heap.size)
  refine gQ9 ?_
  intro Q hQ
  generalize hAe : va_A (List.flatten ([(oX7 (p0a 0) p0a p0k p0w p0l)] : List va_W)) s.heap.size = A at hD hE hQ
  have hA : ∀ q : Nat, s.heap.size ≤ q → A q := fun q h => by rw [← hAe]; exact Or.inr h
  have hS : va_S A s.heap s.heap [] := va_S.rf
  have hP : va_P (dC, dI) cls (List.flatten ([(oX7 (p0a 0) p0a p0k p0w p0l)] : List va_W)) s.heap := hP
  have hl := lv_entry ([.ref (p0a 0)]) (n := 1) (Nat.le_of_ble_eq_true rfl)
  rw [lg_entry_eq]
  generalize (lg_sl ([.ref (p0a 0)]) ++ List.replicate (1 - (lg_sl ([.ref (p0a 0)])).length) Slot.unset).toArray = ls at hl ⊢
  have hl : lv_has ls 1 [(0, .ref (p0a 0))] := hl
  obtain ⟨H, hHe⟩ : ∃ H, H = s.heap := ⟨_, rfl⟩
  obtain ⟨locs, hle⟩ : ∃ locs : List Loc, locs = [] := ⟨_, rfl⟩
  rw [← hHe] at hP
  have hS : va_S A s.heap H locs := by rw [hHe, hle]; exact hS
  show W p l e ({ frames := 0, cells := 0, slots := 0, locals := 0 } : Room) s m ([.ref (p0a 0)] : List Value).toArray below meth c s.heap [] 0 0 Q (F0 m 0 ls [])
  rw [← hle]
  refine wH9 hHe ?_
  unfold fX7_refuse at hrun
  cases hrun
def fX7_rowOf_J64 (y0_64 : Int32) : Option Int32 := some y0_64
def fX7_rowOf_J59  : Option Int32 := (fX7_rowOf_J64 3)
def fX7_rowOf (p0 : Int32) : Option Int32 := (if p0 = 380 then some 0 else (if p0 = 294 then some 1 else ((fX7_kindOfSign p0).bind fun (o_3 : Int32) => (if 0 ≤ o_3 then (if o_3 < 11 then (if o_3 = 1 then (fX7_rowOf_J59) else (if o_3 = 2 then (fX7_rowOf_J59) else (if o_3 = 7 then (fX7_rowOf_J59) else (if o_3 = 8 then (fX7_rowOf_J59) else (fX7_rowOf_J64 4))))) else some 2) else some (-1)))))
set_option maxHeartbeats 16000000 in
set_option maxRecDepth 100000 in
theorem kX7_rowOf {zs : ZS} (l : Launch) (dC : Nat → ClassId) (dI : Nat → Nat → Nat) (p0 : Int32) (sz : Nat) (o : Int32) (hrun : fX7_rowOf p0 = some o) : Met l yX7_rowOf (wz yX7_rowOf cX7_rowOf 2 (Option.some Jvm.ClassFile.FieldType.int)) ({ frames := 1, cells := 0, slots := 0, locals := 20 } : Room) (va_Pc [.int p0] (PRE zs dC dI (List.flatten ([] : List va_W)) (List.flatten ([] : List (List (ClassId × FieldType)))) sz)) (va_Qi (fun (r : Int32) (_ : Unit) => r = o) (fun _ t => POST dC dI (List.flatten ([] : List va_W)) (List.flatten ([] : List (List (ClassId × FieldType)))) (va_A (List.flatten ([] : List va_W)) sz) t) (va_A (List.flatten ([] : List va_W)) sz)) 0 0 (va_A (List.flatten ([] : List va_W)) sz) := by
  refine Met.ofW (cc := cX7_rowOf) (maxL := 2) (ret := (Option.some Jvm.ClassFile.FieldType.int)) (by decide) rfl ?_
  intro p e s m args below meth c s₁ B hml hv
  obtain ⟨rfl, hsz, hP, hK, hD0, hE⟩ := hv
  have hx := B.exec
  have hb := B.bytes
  have hr := B.returns
  have hts0 := atoms_spec (ws := wz yX7_rowOf cX7_rowOf 2 (Option.some Jvm.ClassFile.FieldType.int)) B.pre
  have hts : ∀ w ∈ gw, w.before _ s = true := fun w h => hts0 w (List.mem_cons_of_mem _ h)
  have hown : s.vm.findClass RX7 = some m.cls := findClass_of_methodNamed B.named
  have hlocks := B.notSynchronized
  subst hsz
  have hD := hD0.self (sz := s.heap.size)
  refine gQ9 ?_
  intro Q hQ
  generalize hAe : va_A (List.flatten ([] : List va_W)) s.heap.size = A at hD hE hQ
  have hA : ∀ q : Nat, s.heap.size ≤ q → A q := fun q h => by rw [← hAe]; exact Or.inr h
  have hS : va_S A s.heap s.heap [] := va_S.rf
  have hP : va_P (dC, dI) cls (List.flatten ([] : List va_W)) s.heap := hP
  have hl := lv_entry ([.int p0]) (n := 2) (Nat.le_of_ble_eq_true rfl)
  rw [lg_entry_eq]
  generalize (lg_sl ([.int p0]) ++ List.replicate (2 - (lg_sl ([.int p0])).length) Slot.unset).toArray = ls at hl ⊢
  have hl : lv_has ls 2 [(0, .int p0)] := hl
  obtain ⟨H, hHe⟩ : ∃ H, H = s.heap := ⟨_, rfl⟩
  obtain ⟨locs, hle⟩ : ∃ locs : List Loc, locs = [] := ⟨_, rfl⟩
  rw [← hHe] at hP
  have hS : va_S A s.heap H locs := by rw [hHe, hle]; exact hS
  show W p l e ({ frames := 1, cells := 0, slots := 0, locals := 20 } : Room) s m ([.int p0] : List Value).toArray below meth c s.heap [] 0 0 Q (F0 m 0 ls [])
  rw [← hle]
  refine wH9 hHe ?_
  unfold fX7_rowOf at hrun
  refine lv_iload_n hx hb dX7_rowOf_0 rfl (lv_at hl 0 rfl) ?_
  refine lv_sipush (v := 380) hx hb dX7_rowOf_1 (by decide) ?_
  rcases br9 hrun with ⟨hc1, hrun⟩ | ⟨hc1, hrun⟩
  · refine lv_icmp_ne (tgt := 9) hx hb dX7_rowOf_4 (by decide) (fun c => absurd hc1 c) (fun _ => ?_)
    refine lv_iconst (v := 0) hx hb dX7_rowOf_7 (by decide) ?_
    have ho9 : 0 = o := Option.some.inj hrun
    have hP9 : va_P (dC, dI) cls (List.flatten ([] : List va_W)) H := by first | exact hP | (rw [← ho9]; exact hP)
    have hD9 : va_D A (List.flatten ([] : List va_W)) := by first | exact hD | (rw [← ho9]; exact hD)
    subst hQ
    exact W.iret (v := 0) hx hb hr (fun t ht hW => ⟨⟨0, (), rfl, (by rw [← ho9]), ⟨by rw [ht]; exact hP9, va_K.moved hW.alike hK, hD9⟩⟩, hS.F ht⟩) hS.2.2 dX7_rowOf_8
  · refine lv_icmp_ne (tgt := 9) hx hb dX7_rowOf_4 (by decide) (fun _ => ?_) (fun c => absurd c hc1)
    refine lv_iload_n hx hb dX7_rowOf_9 rfl (lv_at hl 0 rfl) ?_
    refine lv_sipush (v := 294) hx hb dX7_rowOf_10 (by decide) ?_
    rcases br9 hrun with ⟨hc2, hrun⟩ | ⟨hc2, hrun⟩
    · refine lv_icmp_ne (tgt := 18) hx hb dX7_rowOf_13 (by decide) (fun c => absurd hc2 c) (fun _ => ?_)
      refine lv_iconst (v := 1) hx hb dX7_rowOf_16 (by decide) ?_
      have ho9 : 1 = o := Option.some.inj hrun
      have hP9 : va_P (dC, dI) cls (List.flatten ([] : List va_W)) H := by first | exact hP | (rw [← ho9]; exact hP)
      have hD9 : va_D A (List.flatten ([] : List va_W)) := by first | exact hD | (rw [← ho9]; exact hD)
      subst hQ
      exact W.iret (v := 1) hx hb hr (fun t ht hW => ⟨⟨1, (), rfl, (by rw [← ho9]), ⟨by rw [ht]; exact hP9, va_K.moved hW.alike hK, hD9⟩⟩, hS.F ht⟩) hS.2.2 dX7_rowOf_17
    · refine lv_icmp_ne (tgt := 18) hx hb dX7_rowOf_13 (by decide) (fun _ => ?_) (fun c => absurd c hc2)
      refine lv_iload_n hx hb dX7_rowOf_18 rfl (lv_at hl 0 rfl) ?_
      obtain ⟨o_3, hc_3, hrun⟩ := bnd9 hrun
      have hPx : va_P (dC, dI) cls ((List.flatten ([] : List va_W)) ++ (List.flatten ([] : List va_W))) H := vP_fa (vP_perm hP (bP (List.Perm.refl _)))
      have hDx : va_D A ((List.flatten ([] : List va_W)) ++ (List.flatten ([] : List va_W))) := vD_fa (vD_perm hD (bP (List.Perm.refl _)))
      have hKx : va_K (dC, dI) cls ((List.flatten ([] : List (List (ClassId × FieldType)))) ++ (List.flatten ([] : List (List (ClassId × FieldType))))) s := vK_fa (vK_perm hK (bP (List.Perm.refl _)))
      have hPc := vP_l hPx
      have hDc := vD_l hDx
      have hKc := vK_l hKx
      have hFc := vfree hDx hS hA
      refine va_calli (va_runS (As := [.int p0]) (rest := []) ⟨hx, hb, hml, hown, hts⟩ (kX7_kindOfSign l dC dI (p0 := p0) (sz := _) (o := o_3) (hrun := hc_3)) (va_cwS 1 hts (gi_S qw82 qw83 qw65 (gi_z qw81)) rfl rfl rfl (by decide +kernel) ⟨Nat.le_of_ble_eq_true rfl, Nat.le_of_ble_eq_true rfl⟩) ⟨PRE.blind, PRE.of hE hS hFc hPc hKc hDc⟩ rfl rfl hl.1 rfl (lv_room (Nat.le_of_ble_eq_true rfl)) dX7_rowOf_19 ⟨(Nat.le_of_ble_eq_true rfl), (Nat.le_of_ble_eq_true rfl)⟩) hS (fun q _ h => hFc q h) hFc (fun r4 u t H locs ht hvm hw hB hz1 hk1 hS => ?_)
      obtain ⟨b1, b2, b3⟩ := hB
      rw [ht] at b1
      obtain ⟨hP, hD, hK⟩ := JOINC (wc := (List.flatten ([] : List va_W))) (wr := (List.flatten ([] : List va_W))) (w1 := (List.flatten ([] : List va_W))) (t1 := (List.flatten ([] : List (List (ClassId × FieldType))))) hPx hDx hKx hk1 hFc b1 (va_K.moved hvm.symm b2) b3
      have hP : va_P (dC, dI) cls (List.flatten ([] : List va_W)) H := vP_perm (vP_fb hP) (bP (List.Perm.refl _))
      have hD : va_D A (List.flatten ([] : List va_W)) := vD_perm (vD_fb hD) (bP (List.Perm.refl _))
      have hK : va_K (dC, dI) cls (List.flatten ([] : List (List (ClassId × FieldType)))) s := vK_perm (vK_fb hK) (bP (List.Perm.refl _))
      obtain rfl : o_3 = r4 := hw.symm
      refine lv_istore_n (lv' := [(1, .int o_3), (0, .int p0)]) hx hb dX7_rowOf_22 rfl hl (by decide) rfl (fun ls hl => ?_)
      refine lv_iload_n hx hb dX7_rowOf_23 rfl (lv_at hl 0 rfl) ?_
      rcases br9 hrun with ⟨hc5, hrun⟩ | ⟨hc5, hrun⟩
      · refine lv_if_ge (tgt := 29) hx hb dX7_rowOf_24 (by decide) (fun _ => ?_) (fun c => absurd hc5 c)
        refine lv_iload_n hx hb dX7_rowOf_29 rfl (lv_at hl 0 rfl) ?_
        refine lv_bipush (v := 11) hx hb dX7_rowOf_30 (by decide) ?_
        rcases br9 hrun with ⟨hc6, hrun⟩ | ⟨hc6, hrun⟩
        · refine lv_icmp_lt (tgt := 37) hx hb dX7_rowOf_32 (by decide) (fun _ => ?_) (fun c => absurd hc6 c)
          refine lv_iload_n hx hb dX7_rowOf_37 rfl (lv_at hl 0 rfl) ?_
          refine lv_iconst (v := 1) hx hb dX7_rowOf_38 (by decide) ?_
          have J64 : ∀ (y0_64 : Int32) (H : Heap) (locs : List Loc) (ls : Array Slot), (fX7_rowOf_J64 y0_64) = some o → va_P (dC, dI) cls (List.flatten ([] : List va_W)) H → va_D A (List.flatten ([] : List va_W)) → va_K (dC, dI) cls (List.flatten ([] : List (List (ClassId × FieldType)))) s → va_S A s.heap H locs → lv_has ls 2 [] → W p l e ({ frames := 1, cells := 0, slots := 0, locals := 20 } : Room) s m ([.int p0] : List Value).toArray below meth c H locs 0 0 Q (F0 m 64 ls [.int y0_64]) := by
            intro y0_64 H locs ls hrun hP hD hK hS hl 
            unfold fX7_rowOf_J64 at hrun
            have ho9 : y0_64 = o := Option.some.inj hrun
            have hP9 : va_P (dC, dI) cls (List.flatten ([] : List va_W)) H := by first | exact hP | (rw [← ho9]; exact hP)
            have hD9 : va_D A (List.flatten ([] : List va_W)) := by first | exact hD | (rw [← ho9]; exact hD)
            subst hQ
            exact W.iret (v := y0_64) hx hb hr (fun t ht hW => ⟨⟨y0_64, (), rfl, (by rw [← ho9]), ⟨by rw [ht]; exact hP9, va_K.moved hW.alike hK, hD9⟩⟩, hS.F ht⟩) hS.2.2 dX7_rowOf_64
          have J59 : ∀ (H : Heap) (locs : List Loc) (ls : Array Slot), (fX7_rowOf_J59) = some o → va_P (dC, dI) cls (List.flatten ([] : List va_W)) H → va_D A (List.flatten ([] : List va_W)) → va_K (dC, dI) cls (List.flatten ([] : List (List (ClassId × FieldType)))) s → va_S A s.heap H locs → lv_has ls 2 [] → W p l e ({ frames := 1, cells := 0, slots := 0, locals := 20 } : Room) s m ([.int p0] : List Value).toArray below meth c H locs 0 0 Q (F0 m 59 ls []) := by
            intro  H locs ls hrun hP hD hK hS hl 
            unfold fX7_rowOf_J59 at hrun
            refine lv_iconst (v := 3) hx hb dX7_rowOf_59 (by decide) ?_
            refine lv_goto (tgt := 64) hx hb dX7_rowOf_60 (by decide) ?_
            exact J64 3 _ _ _ hrun hP hD hK hS (lv_sub hl [] rfl)
          rcases br9 hrun with ⟨hc7, hrun⟩ | ⟨hc7, hrun⟩
          · refine lv_icmp_eq (tgt := 59) hx hb dX7_rowOf_39 (by decide) (fun _ => ?_) (fun c => absurd hc7 c)
            exact J59 _ _ _ hrun hP hD hK hS (lv_sub hl [] rfl)
          · refine lv_icmp_eq (tgt := 59) hx hb dX7_rowOf_39 (by decide) (fun c => absurd c hc7) (fun _ => ?_)
            refine lv_iload_n hx hb dX7_rowOf_42 rfl (lv_at hl 0 rfl) ?_
            refine lv_iconst (v := 2) hx hb dX7_rowOf_43 (by decide) ?_
            rcases br9 hrun with ⟨hc8, hrun⟩ | ⟨hc8, hrun⟩
            · refine lv_icmp_eq (tgt := 59) hx hb dX7_rowOf_44 (by decide) (fun _ => ?_) (fun c => absurd hc8 c)
              exact J59 _ _ _ hrun hP hD hK hS (lv_sub hl [] rfl)
            · refine lv_icmp_eq (tgt := 59) hx hb dX7_rowOf_44 (by decide) (fun c => absurd c hc8) (fun _ => ?_)
              refine lv_iload_n hx hb dX7_rowOf_47 rfl (lv_at hl 0 rfl) ?_
              refine lv_bipush (v := 7) hx hb dX7_rowOf_48 (by decide) ?_
              rcases br9 hrun with ⟨hc9, hrun⟩ | ⟨hc9, hrun⟩
              · refine lv_icmp_eq (tgt := 59) hx hb dX7_rowOf_50 (by decide) (fun _ => ?_) (fun c => absurd hc9 c)
                exact J59 _ _ _ hrun hP hD hK hS (lv_sub hl [] rfl)
              · refine lv_icmp_eq (tgt := 59) hx hb dX7_rowOf_50 (by decide) (fun c => absurd c hc9) (fun _ => ?_)
                refine lv_iload_n hx hb dX7_rowOf_53 rfl (lv_at hl 0 rfl) ?_
                refine lv_bipush (v := 8) hx hb dX7_rowOf_54 (by decide) ?_
                rcases br9 hrun with ⟨hc10, hrun⟩ | ⟨hc10, hrun⟩
                · refine lv_icmp_ne (tgt := 63) hx hb dX7_rowOf_56 (by decide) (fun c => absurd hc10 c) (fun _ => ?_)
                  exact J59 _ _ _ hrun hP hD hK hS (lv_sub hl [] rfl)
                · refine lv_icmp_ne (tgt := 63) hx hb dX7_rowOf_56 (by decide) (fun _ => ?_) (fun c => absurd c hc10)
                  refine lv_iconst (v := 4) hx hb dX7_rowOf_63 (by decide) ?_
                  exact J64 4 _ _ _ hrun hP hD hK hS (lv_sub hl [] rfl)
        · refine lv_icmp_lt (tgt := 37) hx hb dX7_rowOf_32 (by decide) (fun c => absurd c hc6) (fun _ => ?_)
          refine lv_iconst (v := 2) hx hb dX7_rowOf_35 (by decide) ?_
          have ho9 : 2 = o := Option.some.inj hrun
          have hP9 : va_P (dC, dI) cls (List.flatten ([] : List va_W)) H := by first | exact hP | (rw [← ho9]; exact hP)
          have hD9 : va_D A (List.flatten ([] : List va_W)) := by first | exact hD | (rw [← ho9]; exact hD)
          subst hQ
          exact W.iret (v := 2) hx hb hr (fun t ht hW => ⟨⟨2, (), rfl, (by rw [← ho9]), ⟨by rw [ht]; exact hP9, va_K.moved hW.alike hK, hD9⟩⟩, hS.F ht⟩) hS.2.2 dX7_rowOf_36
      · refine lv_if_ge (tgt := 29) hx hb dX7_rowOf_24 (by decide) (fun c => absurd c hc5) (fun _ => ?_)
        refine lv_iconst (v := (-1)) hx hb dX7_rowOf_27 (by decide) ?_
        have ho9 : (-1) = o := Option.some.inj hrun
        have hP9 : va_P (dC, dI) cls (List.flatten ([] : List va_W)) H := by first | exact hP | (rw [← ho9]; exact hP)
        have hD9 : va_D A (List.flatten ([] : List va_W)) := by first | exact hD | (rw [← ho9]; exact hD)
        subst hQ
        exact W.iret (v := (-1)) hx hb hr (fun t ht hW => ⟨⟨(-1), (), rfl, (by rw [← ho9]), ⟨by rw [ht]; exact hP9, va_K.moved hW.alike hK, hD9⟩⟩, hS.F ht⟩) hS.2.2 dX7_rowOf_28
def fX7_variableOf_L2 (p0w : ST) (p0l : SL) (p1 : Int64) : Nat → Int32 → Option (Sum Int32 Unit)
  | 0 => fun _ => none
  | n_2 + 1 => fun v3_2 => (if (p0w 0 9) ≤ v3_2 then some (Sum.inr ()) else (if ixb v3_2 320 = true then (if (lg_cmp (p0l 8 (nn v3_2)) p1) = 0 then (if ixb v3_2 320 = true then some (Sum.inl (p0w 9 (nn v3_2))) else none) else ((fX7_variableOf_L2 p0w p0l p1 n_2) (v3_2 + 1))) else none))
def fX7_variableOf (p0w : ST) (p0l : SL) (p1 : Int64) : Option Int32 := ((fX7_variableOf_L2 p0w p0l p1 NF 0).bind fun (o2 : (Sum Int32 Unit)) => Sum.elim (fun r => some r) (fun (t2 : Unit) => some (-1)) o2)
set_option maxHeartbeats 16000000 in
set_option maxRecDepth 100000 in
theorem kX7_variableOf {zs : ZS} (l : Launch) (dC : Nat → ClassId) (dI : Nat → Nat → Nat) (p0a : Nat → Nat) (p0k : Nat → ClassId) (p0w : ST) (p0l : SL) (p1 : Int64) (sz : Nat) (o : Int32) (hrun : fX7_variableOf p0w p0l p1 = some o) : Met l yX7_variableOf (wz yX7_variableOf cX7_variableOf 4 (Option.some Jvm.ClassFile.FieldType.int)) ({ frames := 0, cells := 0, slots := 0, locals := 0 } : Room) (va_Pc [.ref (p0a 0), .long p1] (PRE zs dC dI (List.flatten ([(oX7 (p0a 0) p0a p0k p0w p0l)] : List va_W)) (List.flatten ([(tX7 p0k)] : List (List (ClassId × FieldType)))) sz)) (va_Qi (fun (r : Int32) (_ : Unit) => r = o) (fun _ t => POST dC dI (List.flatten ([(oX7 (p0a 0) p0a p0k p0w p0l)] : List va_W)) (List.flatten ([(tX7 p0k)] : List (List (ClassId × FieldType)))) (va_A (List.flatten ([(oX7 (p0a 0) p0a p0k p0w p0l)] : List va_W)) sz) t) (va_A (List.flatten ([(oX7 (p0a 0) p0a p0k p0w p0l)] : List va_W)) sz)) 0 0 (va_A (List.flatten ([(oX7 (p0a 0) p0a p0k p0w p0l)] : List va_W)) sz) := by
  refine Met.ofW (cc := cX7_variableOf) (maxL := 4) (ret := (Option.some Jvm.ClassFile.FieldType.int)) (by decide) rfl ?_
  intro p e s m args below meth c s₁ B hml hv
  obtain ⟨rfl, hsz, hP, hK, hD0, hE⟩ := hv
  have hx := B.exec
  have hb := B.bytes
  have hr := B.returns
  have hts0 := atoms_spec (ws := wz yX7_variableOf cX7_variableOf 4 (Option.some Jvm.ClassFile.FieldType.int)) B.pre
  have hts : ∀ w ∈ gw, w.before _ s = true := fun w h => hts0 w (List.mem_cons_of_mem _ h)
  have hown : s.vm.findClass RX7 = some m.cls := findClass_of_methodNamed B.named
  have hlocks := B.notSynchronized
  subst hsz
  have hD := hD0.self (sz := s.heap.size)
  refine gQ9 ?_
  intro Q hQ
  generalize hAe : va_A (List.flatten ([(oX7 (p0a 0) p0a p0k p0w p0l)] : List va_W)) s.heap.size = A at hD hE hQ
  have hA : ∀ q : Nat, s.heap.size ≤ q → A q := fun q h => by rw [← hAe]; exact Or.inr h
  have hS : va_S A s.heap s.heap [] := va_S.rf
  have hP : va_P (dC, dI) cls (List.flatten ([(oX7 (p0a 0) p0a p0k p0w p0l)] : List va_W)) s.heap := hP
  have hl := lv_entry ([.ref (p0a 0), .long p1]) (n := 4) (Nat.le_of_ble_eq_true rfl)
  rw [lg_entry_eq]
  generalize (lg_sl ([.ref (p0a 0), .long p1]) ++ List.replicate (4 - (lg_sl ([.ref (p0a 0), .long p1])).length) Slot.unset).toArray = ls at hl ⊢
  have hl : lv_has ls 4 [(0, .ref (p0a 0)), (1, .long p1)] := hl
  obtain ⟨H, hHe⟩ : ∃ H, H = s.heap := ⟨_, rfl⟩
  obtain ⟨locs, hle⟩ : ∃ locs : List Loc, locs = [] := ⟨_, rfl⟩
  rw [← hHe] at hP
  have hS : va_S A s.heap H locs := by rw [hHe, hle]; exact hS
  show W p l e ({ frames := 0, cells := 0, slots := 0, locals := 0 } : Room) s m ([.ref (p0a 0), .long p1] : List Value).toArray below meth c s.heap [] 0 0 Q (F0 m 0 ls [])
  rw [← hle]
  refine wH9 hHe ?_
  unfold fX7_variableOf at hrun
  refine lv_iconst (v := 0) hx hb dX7_variableOf_0 (by decide) ?_
  refine lv_istore_n (lv' := [(3, .int 0), (0, .ref (p0a 0)), (1, .long p1)]) hx hb dX7_variableOf_1 rfl hl (by decide) rfl (fun ls hl => ?_)
  have L2 : ∀ (n_2 : Nat) (v3_2 : Int32) (o2 : (Sum Int32 Unit)) (H : Heap) (locs : List Loc) (ls : Array Slot), (fX7_variableOf_L2 p0w p0l p1 n_2) v3_2 = some o2 → va_P (dC, dI) cls (List.flatten ([(oX7 (p0a 0) p0a p0k p0w p0l)] : List va_W)) H → va_D A (List.flatten ([(oX7 (p0a 0) p0a p0k p0w p0l)] : List va_W)) → va_K (dC, dI) cls (List.flatten ([(tX7 p0k)] : List (List (ClassId × FieldType)))) s → va_S A s.heap H locs → lv_has ls 4 [(0, .ref (p0a 0)), (1, .long p1), (3, .int v3_2)] → (∀ r, o2 = Sum.inl r → r = o) → (∀ (t2 : Unit), o2 = Sum.inr t2 → ∀ (H : Heap) (locs : List Loc) (ls : Array Slot), va_P (dC, dI) cls (List.flatten ([(oX7 (p0a 0) p0a p0k p0w p0l)] : List va_W)) H → va_D A (List.flatten ([(oX7 (p0a 0) p0a p0k p0w p0l)] : List va_W)) → va_K (dC, dI) cls (List.flatten ([(tX7 p0k)] : List (List (ClassId × FieldType)))) s → va_S A s.heap H locs → lv_has ls 4 [] → W p l e ({ frames := 0, cells := 0, slots := 0, locals := 0 } : Room) s m ([.ref (p0a 0), .long p1] : List Value).toArray below meth c H locs 0 0 Q (F0 m 34 ls [])) → W p l e ({ frames := 0, cells := 0, slots := 0, locals := 0 } : Room) s m ([.ref (p0a 0), .long p1] : List Value).toArray below meth c H locs 0 0 Q (F0 m 2 ls []) := by
    intro n_2
    induction n_2 with
    | zero => intro v3_2 o2 H locs ls hrun; exact (no9 rfl hrun).elim
    | succ n_2 IH2 =>
      intro v3_2 o2 H locs ls hrun hP hD hK hS hl hr2 hk2
      unfold fX7_variableOf_L2 at hrun
      refine lv_iload_n hx hb dX7_variableOf_2 rfl (lv_at hl 2 rfl) ?_
      refine lv_aload_n hx hb dX7_variableOf_3 rfl (lv_at hl 0 rfl) ?_
      refine va_get (D := (dC, dI)) (ci := 1) (v := .int (p0w 0 9)) (C := RX7) (T := TX7) (N := 18) hx hb hts i_X7 hown hK hP 0 rfl rfl 9 (by decide) (hts _ qw34) (fun _ h9 => h9) rfl dX7_variableOf_4 ?_
      rcases br9 hrun with ⟨hc1, hrun⟩ | ⟨hc1, hrun⟩
      · refine lv_icmp_ge (tgt := 34) hx hb dX7_variableOf_7 (by decide) (fun _ => ?_) (fun c => absurd hc1 c)
        obtain rfl := (Option.some.inj hrun)
        exact hk2 _ rfl _ _ _ hP hD hK hS (lv_sub hl [] rfl)
      · refine lv_icmp_ge (tgt := 34) hx hb dX7_variableOf_7 (by decide) (fun c => absurd c hc1) (fun _ => ?_)
        refine lv_aload_n hx hb dX7_variableOf_10 rfl (lv_at hl 0 rfl) ?_
        refine va_get (D := (dC, dI)) (ci := 1) (v := .ref (p0a 8)) (C := RX7) (T := TX7) (N := 18) hx hb hts i_X7 hown hK hP 0 rfl rfl 7 (by decide) (hts _ qw35) (fun _ h9 => h9) rfl dX7_variableOf_11 ?_
        refine lv_iload_n hx hb dX7_variableOf_14 rfl (lv_at hl 2 rfl) ?_
        obtain ⟨hq2, hrun⟩ := chk9 hrun
        refine va_lald hx hb hK hP 1 0 rfl rfl (ixb_in hq2) dX7_variableOf_15 ?_
        refine lv_lload_n hx hb dX7_variableOf_16 rfl (lv_at hl 1 rfl) ?_
        refine W.lcmp hx hb dX7_variableOf_17 ?_
        rcases br9 hrun with ⟨hc3, hrun⟩ | ⟨hc3, hrun⟩
        · refine lv_if_ne (tgt := 28) hx hb dX7_variableOf_18 (by decide) (fun c => absurd hc3 c) (fun _ => ?_)
          refine lv_aload_n hx hb dX7_variableOf_21 rfl (lv_at hl 0 rfl) ?_
          refine va_get (D := (dC, dI)) (ci := 1) (v := .ref (p0a 9)) (C := RX7) (T := TX7) (N := 18) hx hb hts i_X7 hown hK hP 0 rfl rfl 8 (by decide) (hts _ qw36) (fun _ h9 => h9) rfl dX7_variableOf_22 ?_
          refine lv_iload_n hx hb dX7_variableOf_25 rfl (lv_at hl 2 rfl) ?_
          obtain ⟨hq4, hrun⟩ := chk9 hrun
          refine va_iald hx hb hK hP 2 1 rfl rfl (ixb_in hq4) dX7_variableOf_26 ?_
          have ho9 : (p0w 9 (nn v3_2)) = o := hr2 _ (Option.some.inj hrun).symm
          have hP9 : va_P (dC, dI) cls (List.flatten ([(oX7 (p0a 0) p0a p0k p0w p0l)] : List va_W)) H := by first | exact hP | (rw [← ho9]; exact hP)
          have hD9 : va_D A (List.flatten ([(oX7 (p0a 0) p0a p0k p0w p0l)] : List va_W)) := by first | exact hD | (rw [← ho9]; exact hD)
          subst hQ
          exact W.iret (v := (p0w 9 (nn v3_2))) hx hb hr (fun t ht hW => ⟨⟨(p0w 9 (nn v3_2)), (), rfl, (by rw [← ho9]), ⟨by rw [ht]; exact hP9, va_K.moved hW.alike hK, hD9⟩⟩, hS.F ht⟩) hS.2.2 dX7_variableOf_27
        · refine lv_if_ne (tgt := 28) hx hb dX7_variableOf_18 (by decide) (fun _ => ?_) (fun c => absurd c hc3)
          refine lv_iinc (v := (v3_2 + 1)) (lv' := [(3, .int (v3_2 + 1)), (0, .ref (p0a 0)), (1, .long p1)]) hx hb dX7_variableOf_28 hl (k := 2) rfl rfl (by decide) rfl (fun ls hl => ?_)
          refine lv_goto (tgt := 2) hx hb dX7_variableOf_31 (by decide) ?_
          exact IH2 (v3_2 + 1) o2 _ _ _ hrun hP hD hK hS (lv_sub hl [1, 2, 0] rfl) hr2 hk2
  obtain ⟨o2, hc2, hrun⟩ := bnd9 hrun
  refine L2 NF 0 o2 _ _ _ hc2 hP hD hK hS (lv_sub hl [1, 2, 0] rfl) (fun r e9 => by subst e9; exact Option.some.inj hrun) ?_
  intro t2 e9
  subst e9
  replace hrun := el9 hrun
  intro H locs ls hP hD hK hS hl
  have hl := hl
  refine lv_iconst (v := (-1)) hx hb dX7_variableOf_34 (by decide) ?_
  have ho9 : (-1) = o := Option.some.inj hrun
  have hP9 : va_P (dC, dI) cls (List.flatten ([(oX7 (p0a 0) p0a p0k p0w p0l)] : List va_W)) H := by first | exact hP | (rw [← ho9]; exact hP)
  have hD9 : va_D A (List.flatten ([(oX7 (p0a 0) p0a p0k p0w p0l)] : List va_W)) := by first | exact hD | (rw [← ho9]; exact hD)
  subst hQ
  exact W.iret (v := (-1)) hx hb hr (fun t ht hW => ⟨⟨(-1), (), rfl, (by rw [← ho9]), ⟨by rw [ht]; exact hP9, va_K.moved hW.alike hK, hD9⟩⟩, hS.F ht⟩) hS.2.2 dX7_variableOf_35
def fX7_seenVariableOf_J18 (o_1 : Int32) (p0w_18 : ST) : Option (Int32 × ST) := some (o_1, p0w_18)
def fX7_seenVariableOf (p0w : ST) (p0l : SL) (p1 : Int64) (p2 : Int32) : Option (Int32 × ST) := ((fX7_variableOf p0w p0l p1).bind fun (o_1 : Int32) => (if 0 ≤ o_1 then (fX7_seenVariableOf_J18 o_1 p0w) else ((fX7_blame p0w 3 p2).bind fun (o_4 : ST) => (fX7_seenVariableOf_J18 o_1 o_4))))
set_option maxHeartbeats 16000000 in
set_option maxRecDepth 100000 in
theorem kX7_seenVariableOf {zs : ZS} (l : Launch) (dC : Nat → ClassId) (dI : Nat → Nat → Nat) (p0a : Nat → Nat) (p0k : Nat → ClassId) (p0w : ST) (p0l : SL) (p1 : Int64) (p2 : Int32) (sz : Nat) (o : Int32 × ST) (hrun : fX7_seenVariableOf p0w p0l p1 p2 = some o) : Met l yX7_seenVariableOf (wz yX7_seenVariableOf cX7_seenVariableOf 5 (Option.some Jvm.ClassFile.FieldType.int)) ({ frames := 1, cells := 0, slots := 0, locals := 23 } : Room) (va_Pc [.ref (p0a 0), .long p1, .int p2] (PRE zs dC dI (List.flatten ([(oX7 (p0a 0) p0a p0k p0w p0l)] : List va_W)) (List.flatten ([(tX7 p0k)] : List (List (ClassId × FieldType)))) sz)) (va_Qi (fun (r : Int32) (_ : Unit) => r = (o.1)) (fun _ t => POST dC dI (List.flatten ([(oX7 (p0a 0) p0a p0k (o.2) p0l)] : List va_W)) (List.flatten ([(tX7 p0k)] : List (List (ClassId × FieldType)))) (va_A (List.flatten ([(oX7 (p0a 0) p0a p0k p0w p0l)] : List va_W)) sz) t) (va_A (List.flatten ([(oX7 (p0a 0) p0a p0k p0w p0l)] : List va_W)) sz)) 0 0 (va_A (List.flatten ([(oX7 (p0a 0) p0a p0k p0w p0l)] : List va_W)) sz) := by
  refine Met.ofW (cc := cX7_seenVariableOf) (maxL := 5) (ret := (Option.some Jvm.ClassFile.FieldType.int)) (by decide) rfl ?_
  intro p e s m args below meth c s₁ B hml hv
  obtain ⟨rfl, hsz, hP, hK, hD0, hE⟩ := hv
  have hx := B.exec
  have hb := B.bytes
  have hr := B.returns
  have hts0 := atoms_spec (ws := wz yX7_seenVariableOf cX7_seenVariableOf 5 (Option.some Jvm.ClassFile.FieldType.int)) B.pre
  have hts : ∀ w ∈ gw, w.before _ s = true := fun w h => hts0 w (List.mem_cons_of_mem _ h)
  have hown : s.vm.findClass RX7 = some m.cls := findClass_of_methodNamed B.named
  have hlocks := B.notSynchronized
  subst hsz
  have hD := hD0.self (sz := s.heap.size)
  refine gQ9 ?_
  intro Q hQ
  generalize hAe : va_A (List.flatten ([(oX7 (p0a 0) p0a p0k p0w p0l)] : List va_W)) s.heap.size = A at hD hE hQ
  have hA : ∀ q : Nat, s.heap.size ≤ q → A q := fun q h => by rw [← hAe]; exact Or.inr h
  have hS : va_S A s.heap s.heap [] := va_S.rf
  have hP : va_P (dC, dI) cls (List.flatten ([(oX7 (p0a 0) p0a p0k p0w p0l)] : List va_W)) s.heap := hP
  have hl := lv_entry ([.ref (p0a 0), .long p1, .int p2]) (n := 5) (Nat.le_of_ble_eq_true rfl)
  rw [lg_entry_eq]
  generalize (lg_sl ([.ref (p0a 0), .long p1, .int p2]) ++ List.replicate (5 - (lg_sl ([.ref (p0a 0), .long p1, .int p2])).length) Slot.unset).toArray = ls at hl ⊢
  have hl : lv_has ls 5 [(0, .ref (p0a 0)), (1, .long p1), (3, .int p2)] := hl
  obtain ⟨H, hHe⟩ : ∃ H, H = s.heap := ⟨_, rfl⟩
  obtain ⟨locs, hle⟩ : ∃ locs : List Loc, locs = [] := ⟨_, rfl⟩
  rw [← hHe] at hP
  have hS : va_S A s.heap H locs := by rw [hHe, hle]; exact hS
  show W p l e ({ frames := 1, cells := 0, slots := 0, locals := 23 } : Room) s m ([.ref (p0a 0), .long p1, .int p2] : List Value).toArray below meth c s.heap [] 0 0 Q (F0 m 0 ls [])
  rw [← hle]
  refine wH9 hHe ?_
  unfold fX7_seenVariableOf at hrun
  refine lv_aload_n hx hb dX7_seenVariableOf_0 rfl (lv_at hl 0 rfl) ?_
  refine lv_lload_n hx hb dX7_seenVariableOf_1 rfl (lv_at hl 1 rfl) ?_
  obtain ⟨o_1, hc_1, hrun⟩ := bnd9 hrun
  have hPx : va_P (dC, dI) cls ((List.flatten ([(oX7 (p0a 0) p0a p0k p0w p0l)] : List va_W)) ++ (List.flatten ([] : List va_W))) H := vP_fa (vP_perm hP (bP (List.Perm.refl _)))
  have hDx : va_D A ((List.flatten ([(oX7 (p0a 0) p0a p0k p0w p0l)] : List va_W)) ++ (List.flatten ([] : List va_W))) := vD_fa (vD_perm hD (bP (List.Perm.refl _)))
  have hKx : va_K (dC, dI) cls ((List.flatten ([(tX7 p0k)] : List (List (ClassId × FieldType)))) ++ (List.flatten ([] : List (List (ClassId × FieldType))))) s := vK_fa (vK_perm hK (bP (List.Perm.refl _)))
  have hPc := vP_l hPx
  have hDc := vD_l hDx
  have hKc := vK_l hKx
  have hFc := vfree hDx hS hA
  refine va_calli (va_runV (As := [.long p1]) (rest := []) ⟨hx, hb, hml, hown, hts⟩ (kX7_variableOf l dC dI (p0a := p0a) (p0k := p0k) (p0w := p0w) (p0l := p0l) (p1 := p1) (sz := _) (o := o_1) (hrun := hc_1)) (cwV 1 hts (gi_V qw85 qw86 qw87 qw65 (gi_z qw84)) rfl rfl rfl (by decide +kernel) ⟨Nat.le_of_ble_eq_true rfl, Nat.le_of_ble_eq_true rfl⟩) ⟨PRE.blind, va_recv hKc hPc (ci := 1) (q0 := 0) rfl rfl, PRE.of hE hS hFc hPc hKc hDc⟩ rfl rfl hl.1 rfl (lv_room (Nat.le_of_ble_eq_true rfl)) dX7_seenVariableOf_2 ⟨(Nat.le_of_ble_eq_true rfl), (Nat.le_of_ble_eq_true rfl)⟩) hS (fun q _ h => hFc q h) hFc (fun r2 u t H locs ht hvm hw hB hz1 hk1 hS => ?_)
  obtain ⟨b1, b2, b3⟩ := hB
  rw [ht] at b1
  obtain ⟨hP, hD, hK⟩ := JOINC (wc := (List.flatten ([(oX7 (p0a 0) p0a p0k p0w p0l)] : List va_W))) (wr := (List.flatten ([] : List va_W))) (w1 := (List.flatten ([(oX7 (p0a 0) p0a p0k p0w p0l)] : List va_W))) (t1 := (List.flatten ([(tX7 p0k)] : List (List (ClassId × FieldType))))) hPx hDx hKx hk1 hFc b1 (va_K.moved hvm.symm b2) b3
  have hP : va_P (dC, dI) cls (List.flatten ([(oX7 (p0a 0) p0a p0k p0w p0l)] : List va_W)) H := vP_perm (vP_fb hP) (bP (List.Perm.refl _))
  have hD : va_D A (List.flatten ([(oX7 (p0a 0) p0a p0k p0w p0l)] : List va_W)) := vD_perm (vD_fb hD) (bP (List.Perm.refl _))
  have hK : va_K (dC, dI) cls (List.flatten ([(tX7 p0k)] : List (List (ClassId × FieldType)))) s := vK_perm (vK_fb hK) (bP (List.Perm.refl _))
  obtain rfl : o_1 = r2 := hw.symm
  refine lv_istore (lv' := [(4, .int o_1), (0, .ref (p0a 0)), (1, .long p1), (3, .int p2)]) hx hb dX7_seenVariableOf_5 hl (by decide) rfl (fun ls hl => ?_)
  refine lv_iload hx hb dX7_seenVariableOf_7 (lv_at hl 0 rfl) ?_
  have J18 : ∀ (p0w_18 : ST) (H : Heap) (locs : List Loc) (ls : Array Slot), (fX7_seenVariableOf_J18 o_1 p0w_18) = some o → va_P (dC, dI) cls (List.flatten ([(oX7 (p0a 0) p0a p0k p0w_18 p0l)] : List va_W)) H → va_D A (List.flatten ([(oX7 (p0a 0) p0a p0k p0w_18 p0l)] : List va_W)) → va_K (dC, dI) cls (List.flatten ([(tX7 p0k)] : List (List (ClassId × FieldType)))) s → va_S A s.heap H locs → lv_has ls 5 [(4, .int o_1)] → W p l e ({ frames := 1, cells := 0, slots := 0, locals := 23 } : Room) s m ([.ref (p0a 0), .long p1, .int p2] : List Value).toArray below meth c H locs 0 0 Q (F0 m 18 ls []) := by
    intro p0w_18 H locs ls hrun hP hD hK hS hl 
    unfold fX7_seenVariableOf_J18 at hrun
    refine lv_iload hx hb dX7_seenVariableOf_18 (lv_at hl 0 rfl) ?_
    have ho9 : (o_1, p0w_18) = o := Option.some.inj hrun
    have hP9 : va_P (dC, dI) cls (List.flatten ([(oX7 (p0a 0) p0a p0k (o.2) p0l)] : List va_W)) H := by first | exact hP | (rw [← ho9]; exact hP)
    have hD9 : va_D A (List.flatten ([(oX7 (p0a 0) p0a p0k (o.2) p0l)] : List va_W)) := by first | exact hD | (rw [← ho9]; exact hD)
    subst hQ
    exact W.iret (v := o_1) hx hb hr (fun t ht hW => ⟨⟨o_1, (), rfl, (by rw [← ho9]), ⟨by rw [ht]; exact hP9, va_K.moved hW.alike hK, hD9⟩⟩, hS.F ht⟩) hS.2.2 dX7_seenVariableOf_20
  rcases br9 hrun with ⟨hc3, hrun⟩ | ⟨hc3, hrun⟩
  · refine lv_if_ge (tgt := 18) hx hb dX7_seenVariableOf_9 (by decide) (fun _ => ?_) (fun c => absurd hc3 c)
    exact J18 p0w _ _ _ hrun hP hD hK hS (lv_sub hl [0] rfl)
  · refine lv_if_ge (tgt := 18) hx hb dX7_seenVariableOf_9 (by decide) (fun c => absurd c hc3) (fun _ => ?_)
    refine lv_aload_n hx hb dX7_seenVariableOf_12 rfl (lv_at hl 1 rfl) ?_
    refine lv_iconst (v := 3) hx hb dX7_seenVariableOf_13 (by decide) ?_
    refine lv_iload_n hx hb dX7_seenVariableOf_14 rfl (lv_at hl 3 rfl) ?_
    obtain ⟨o_4, hc_4, hrun⟩ := bnd9 hrun
    have hPx : va_P (dC, dI) cls ((List.flatten ([(oX7 (p0a 0) p0a p0k p0w p0l)] : List va_W)) ++ (List.flatten ([] : List va_W))) H := vP_fa (vP_perm hP (bP (List.Perm.refl _)))
    have hDx : va_D A ((List.flatten ([(oX7 (p0a 0) p0a p0k p0w p0l)] : List va_W)) ++ (List.flatten ([] : List va_W))) := vD_fa (vD_perm hD (bP (List.Perm.refl _)))
    have hKx : va_K (dC, dI) cls ((List.flatten ([(tX7 p0k)] : List (List (ClassId × FieldType)))) ++ (List.flatten ([] : List (List (ClassId × FieldType))))) s := vK_fa (vK_perm hK (bP (List.Perm.refl _)))
    have hPc := vP_l hPx
    have hDc := vD_l hDx
    have hKc := vK_l hKx
    have hFc := vfree hDx hS hA
    refine va_callv (va_runV (As := [.int 3, .int p2]) (rest := []) ⟨hx, hb, hml, hown, hts⟩ (kX7_blame l dC dI (p0a := p0a) (p0k := p0k) (p0w := p0w) (p0l := p0l) (p1 := 3) (p2 := p2) (sz := _) (o := o_4) (hrun := hc_4)) (cwV 2 hts (gi_V qw62 qw63 qw64 qw65 (gi_z qw61)) rfl rfl rfl (by decide +kernel) ⟨Nat.le_of_ble_eq_true rfl, Nat.le_of_ble_eq_true rfl⟩) ⟨PRE.blind, va_recv hKc hPc (ci := 1) (q0 := 0) rfl rfl, PRE.of hE hS hFc hPc hKc hDc⟩ rfl rfl hl.1 rfl (lv_room (Nat.le_of_ble_eq_true rfl)) dX7_seenVariableOf_15 ⟨(Nat.le_of_ble_eq_true rfl), (Nat.le_of_ble_eq_true rfl)⟩) hS (fun q _ h => hFc q h) hFc (fun u t H locs ht hvm hw hB hz1 hk1 hS => ?_)
    obtain ⟨b1, b2, b3⟩ := hB
    rw [ht] at b1
    obtain ⟨hP, hD, hK⟩ := JOINC (wc := (List.flatten ([(oX7 (p0a 0) p0a p0k p0w p0l)] : List va_W))) (wr := (List.flatten ([] : List va_W))) (w1 := (List.flatten ([(oX7 (p0a 0) p0a p0k o_4 p0l)] : List va_W))) (t1 := (List.flatten ([(tX7 p0k)] : List (List (ClassId × FieldType))))) hPx hDx hKx hk1 hFc b1 (va_K.moved hvm.symm b2) b3
    have hP : va_P (dC, dI) cls (List.flatten ([(oX7 (p0a 0) p0a p0k o_4 p0l)] : List va_W)) H := vP_perm (vP_fb hP) (bP (List.Perm.refl _))
    have hD : va_D A (List.flatten ([(oX7 (p0a 0) p0a p0k o_4 p0l)] : List va_W)) := vD_perm (vD_fb hD) (bP (List.Perm.refl _))
    have hK : va_K (dC, dI) cls (List.flatten ([(tX7 p0k)] : List (List (ClassId × FieldType)))) s := vK_perm (vK_fb hK) (bP (List.Perm.refl _))
    exact J18 o_4 _ _ _ hrun hP hD hK hS (lv_sub hl [0] rfl)
def fX6_clear (p0w : ST) : Option ST := (lt9 (upw p0w 0 0 0) fun (w1 : ST) => (lt9 (upw w1 0 7 0) fun (w2 : ST) => (lt9 (upw w2 0 11 0) fun (w3 : ST) => some w3)))
set_option maxHeartbeats 16000000 in
set_option maxRecDepth 100000 in
theorem kX6_clear {zs : ZS} (l : Launch) (dC : Nat → ClassId) (dI : Nat → Nat → Nat) (p0a : Nat → Nat) (p0k : Nat → ClassId) (p0w : ST) (p0l : SL) (sz : Nat) (o : ST) (hrun : fX6_clear p0w = some o) : Met l yX6_clear (wz yX6_clear cX6_clear 1 (Option.none : Option Jvm.ClassFile.FieldType)) ({ frames := 0, cells := 0, slots := 0, locals := 0 } : Room) (va_Pc [.ref (p0a 0)] (PRE zs dC dI (List.flatten ([(oX6 (p0a 0) p0a p0k p0w p0l)] : List va_W)) (List.flatten ([(tX6 p0k)] : List (List (ClassId × FieldType)))) sz)) (va_Qv (fun (_ : Unit) => True) (fun _ t => POST dC dI (List.flatten ([(oX6 (p0a 0) p0a p0k o p0l)] : List va_W)) (List.flatten ([(tX6 p0k)] : List (List (ClassId × FieldType)))) (va_A (List.flatten ([(oX6 (p0a 0) p0a p0k p0w p0l)] : List va_W)) sz) t) (va_A (List.flatten ([(oX6 (p0a 0) p0a p0k p0w p0l)] : List va_W)) sz)) 0 0 (va_A (List.flatten ([(oX6 (p0a 0) p0a p0k p0w p0l)] : List va_W)) sz) := by
  refine Met.ofW (cc := cX6_clear) (maxL := 1) (ret := (Option.none : Option Jvm.ClassFile.FieldType)) (by decide) rfl ?_
  intro p e s m args below meth c s₁ B hml hv
  obtain ⟨rfl, hsz, hP, hK, hD0, hE⟩ := hv
  have hx := B.exec
  have hb := B.bytes
  have hr := B.returns
  have hts0 := atoms_spec (ws := wz yX6_clear cX6_clear 1 (Option.none : Option Jvm.ClassFile.FieldType)) B.pre
  have hts : ∀ w ∈ gw, w.before _ s = true := fun w h => hts0 w (List.mem_cons_of_mem _ h)
  have hown : s.vm.findClass RX6 = some m.cls := findClass_of_methodNamed B.named
  have hlocks := B.notSynchronized
  subst hsz
  have hD := hD0.self (sz := s.heap.size)
  refine gQ9 ?_
  intro Q hQ
  generalize hAe : va_A (List.flatten ([(oX6 (p0a 0) p0a p0k p0w p0l)] : List va_W)) s.heap.size = A at hD hE hQ
  have hA : ∀ q : Nat, s.heap.size ≤ q → A q := fun q h => by rw [← hAe]; exact Or.inr h
  have hS : va_S A s.heap s.heap [] := va_S.rf
  have hP : va_P (dC, dI) cls (List.flatten ([(oX6 (p0a 0) p0a p0k p0w p0l)] : List va_W)) s.heap := hP
  have hl := lv_entry ([.ref (p0a 0)]) (n := 1) (Nat.le_of_ble_eq_true rfl)
  rw [lg_entry_eq]
  generalize (lg_sl ([.ref (p0a 0)]) ++ List.replicate (1 - (lg_sl ([.ref (p0a 0)])).length) Slot.unset).toArray = ls at hl ⊢
  have hl : lv_has ls 1 [(0, .ref (p0a 0))] := hl
  obtain ⟨H, hHe⟩ : ∃ H, H = s.heap := ⟨_, rfl⟩
  obtain ⟨locs, hle⟩ : ∃ locs : List Loc, locs = [] := ⟨_, rfl⟩
  rw [← hHe] at hP
  have hS : va_S A s.heap H locs := by rw [hHe, hle]; exact hS
  show W p l e ({ frames := 0, cells := 0, slots := 0, locals := 0 } : Room) s m ([.ref (p0a 0)] : List Value).toArray below meth c s.heap [] 0 0 Q (F0 m 0 ls [])
  rw [← hle]
  refine wH9 hHe ?_
  unfold fX6_clear at hrun
  refine lv_aload_n hx hb dX6_clear_0 rfl (lv_at hl 0 rfl) ?_
  refine lv_iconst (v := 0) hx hb dX6_clear_1 (by decide) ?_
  refine va_put (D := (dC, dI)) (ci := 2) (v := .int 0) (ty := .int) (C := RX6) (T := TX6) (N := 13) hx hb hts i_X6 tyX6 tyX6_ok nmX6 hown hK hP hD hS 0 rfl rfl 0 (by decide) (hts _ qw88) (fun _ h9 => h9) rfl (by decide +kernel) rfl rfl (Nat.le_of_ble_eq_true rfl) dX6_clear_2 (fun H locs hP hD hS => ?_)
  have hP : va_P (dC, dI) cls (List.flatten ([(oX6 (p0a 0) p0a p0k (upw p0w 0 0 0) p0l)] : List va_W)) H := hP
  have hD : va_D A (List.flatten ([(oX6 (p0a 0) p0a p0k (upw p0w 0 0 0) p0l)] : List va_W)) := hD
  obtain ⟨w1, ew1, hrun⟩ := let9 hrun
  rw [← ew1] at hP hD
  refine lv_aload_n hx hb dX6_clear_5 rfl (lv_at hl 0 rfl) ?_
  refine lv_iconst (v := 0) hx hb dX6_clear_6 (by decide) ?_
  refine va_put (D := (dC, dI)) (ci := 2) (v := .int 0) (ty := .int) (C := RX6) (T := TX6) (N := 13) hx hb hts i_X6 tyX6 tyX6_ok nmX6 hown hK hP hD hS 0 rfl rfl 7 (by decide) (hts _ qw37) (fun _ h9 => h9) rfl (by decide +kernel) rfl rfl (Nat.le_of_ble_eq_true rfl) dX6_clear_7 (fun H locs hP hD hS => ?_)
  have hP : va_P (dC, dI) cls (List.flatten ([(oX6 (p0a 0) p0a p0k (upw w1 0 7 0) p0l)] : List va_W)) H := hP
  have hD : va_D A (List.flatten ([(oX6 (p0a 0) p0a p0k (upw w1 0 7 0) p0l)] : List va_W)) := hD
  obtain ⟨w2, ew2, hrun⟩ := let9 hrun
  rw [← ew2] at hP hD
  refine lv_aload_n hx hb dX6_clear_10 rfl (lv_at hl 0 rfl) ?_
  refine lv_iconst (v := 0) hx hb dX6_clear_11 (by decide) ?_
  refine va_put (D := (dC, dI)) (ci := 2) (v := .int 0) (ty := .int) (C := RX6) (T := TX6) (N := 13) hx hb hts i_X6 tyX6 tyX6_ok nmX6 hown hK hP hD hS 0 rfl rfl 11 (by decide) (hts _ qw71) (fun _ h9 => h9) rfl (by decide +kernel) rfl rfl (Nat.le_of_ble_eq_true rfl) dX6_clear_12 (fun H locs hP hD hS => ?_)
  have hP : va_P (dC, dI) cls (List.flatten ([(oX6 (p0a 0) p0a p0k (upw w2 0 11 0) p0l)] : List va_W)) H := hP
  have hD : va_D A (List.flatten ([(oX6 (p0a 0) p0a p0k (upw w2 0 11 0) p0l)] : List va_W)) := hD
  obtain ⟨w3, ew3, hrun⟩ := let9 hrun
  rw [← ew3] at hP hD
  have ho9 : w3 = o := Option.some.inj hrun
  have hP9 : va_P (dC, dI) cls (List.flatten ([(oX6 (p0a 0) p0a p0k o p0l)] : List va_W)) H := by first | exact hP | (rw [← ho9]; exact hP)
  have hD9 : va_D A (List.flatten ([(oX6 (p0a 0) p0a p0k o p0l)] : List va_W)) := by first | exact hD | (rw [← ho9]; exact hD)
  subst hQ
  exact W.vret hx hb hr (fun t ht hW => ⟨⟨(), rfl, trivial, ⟨by rw [ht]; exact hP9, va_K.moved hW.alike hK, hD9⟩⟩, hS.F ht⟩) hS.2.2 dX6_clear_15
def fX6_putLabel (p0w : ST) (p1 : Int32) : Option ST := (if ixb p1 640 = true then (lt9 (upw p0w 13 (nn p1) (p0w 0 7)) fun (w2 : ST) => ((fX6_emit w2 35 p1 0).bind fun (o_3 : ST) => some o_3)) else none)
set_option maxHeartbeats 16000000 in
set_option maxRecDepth 100000 in
theorem kX6_putLabel {zs : ZS} (l : Launch) (dC : Nat → ClassId) (dI : Nat → Nat → Nat) (p0a : Nat → Nat) (p0k : Nat → ClassId) (p0w : ST) (p0l : SL) (p1 : Int32) (sz : Nat) (o : ST) (hrun : fX6_putLabel p0w p1 = some o) : Met l yX6_putLabel (wz yX6_putLabel cX6_putLabel 2 (Option.none : Option Jvm.ClassFile.FieldType)) ({ frames := 1, cells := 0, slots := 0, locals := 23 } : Room) (va_Pc [.ref (p0a 0), .int p1] (PRE zs dC dI (List.flatten ([(oX6 (p0a 0) p0a p0k p0w p0l)] : List va_W)) (List.flatten ([(tX6 p0k)] : List (List (ClassId × FieldType)))) sz)) (va_Qv (fun (_ : Unit) => True) (fun _ t => POST dC dI (List.flatten ([(oX6 (p0a 0) p0a p0k o p0l)] : List va_W)) (List.flatten ([(tX6 p0k)] : List (List (ClassId × FieldType)))) (va_A (List.flatten ([(oX6 (p0a 0) p0a p0k p0w p0l)] : List va_W)) sz) t) (va_A (List.flatten ([(oX6 (p0a 0) p0a p0k p0w p0l)] : List va_W)) sz)) 0 0 (va_A (List.flatten ([(oX6 (p0a 0) p0a p0k p0w p0l)] : List va_W)) sz) := by
  refine Met.ofW (cc := cX6_putLabel) (maxL := 2) (ret := (Option.none : Option Jvm.ClassFile.FieldType)) (by decide) rfl ?_
  intro p e s m args below meth c s₁ B hml hv
  obtain ⟨rfl, hsz, hP, hK, hD0, hE⟩ := hv
  have hx := B.exec
  have hb := B.bytes
  have hr := B.returns
  have hts0 := atoms_spec (ws := wz yX6_putLabel cX6_putLabel 2 (Option.none : Option Jvm.ClassFile.FieldType)) B.pre
  have hts : ∀ w ∈ gw, w.before _ s = true := fun w h => hts0 w (List.mem_cons_of_mem _ h)
  have hown : s.vm.findClass RX6 = some m.cls := findClass_of_methodNamed B.named
  have hlocks := B.notSynchronized
  subst hsz
  have hD := hD0.self (sz := s.heap.size)
  refine gQ9 ?_
  intro Q hQ
  generalize hAe : va_A (List.flatten ([(oX6 (p0a 0) p0a p0k p0w p0l)] : List va_W)) s.heap.size = A at hD hE hQ
  have hA : ∀ q : Nat, s.heap.size ≤ q → A q := fun q h => by rw [← hAe]; exact Or.inr h
  have hS : va_S A s.heap s.heap [] := va_S.rf
  have hP : va_P (dC, dI) cls (List.flatten ([(oX6 (p0a 0) p0a p0k p0w p0l)] : List va_W)) s.heap := hP
  have hl := lv_entry ([.ref (p0a 0), .int p1]) (n := 2) (Nat.le_of_ble_eq_true rfl)
  rw [lg_entry_eq]
  generalize (lg_sl ([.ref (p0a 0), .int p1]) ++ List.replicate (2 - (lg_sl ([.ref (p0a 0), .int p1])).length) Slot.unset).toArray = ls at hl ⊢
  have hl : lv_has ls 2 [(0, .ref (p0a 0)), (1, .int p1)] := hl
  obtain ⟨H, hHe⟩ : ∃ H, H = s.heap := ⟨_, rfl⟩
  obtain ⟨locs, hle⟩ : ∃ locs : List Loc, locs = [] := ⟨_, rfl⟩
  rw [← hHe] at hP
  have hS : va_S A s.heap H locs := by rw [hHe, hle]; exact hS
  show W p l e ({ frames := 1, cells := 0, slots := 0, locals := 23 } : Room) s m ([.ref (p0a 0), .int p1] : List Value).toArray below meth c s.heap [] 0 0 Q (F0 m 0 ls [])
  rw [← hle]
  refine wH9 hHe ?_
  unfold fX6_putLabel at hrun
  refine lv_aload_n hx hb dX6_putLabel_0 rfl (lv_at hl 0 rfl) ?_
  refine va_get (D := (dC, dI)) (ci := 2) (v := .ref (p0a 13)) (C := RX6) (T := TX6) (N := 13) hx hb hts i_X6 hown hK hP 0 rfl rfl 12 (by decide) (hts _ qw89) (fun _ h9 => h9) rfl dX6_putLabel_1 ?_
  refine lv_iload_n hx hb dX6_putLabel_4 rfl (lv_at hl 1 rfl) ?_
  refine lv_aload_n hx hb dX6_putLabel_5 rfl (lv_at hl 0 rfl) ?_
  refine va_get (D := (dC, dI)) (ci := 2) (v := .int (p0w 0 7)) (C := RX6) (T := TX6) (N := 13) hx hb hts i_X6 hown hK hP 0 rfl rfl 7 (by decide) (hts _ qw37) (fun _ h9 => h9) rfl dX6_putLabel_6 ?_
  obtain ⟨hq1, hrun⟩ := chk9 hrun
  refine va_iast hx hb hK hP hD hS 10 9 rfl rfl (ixb_in hq1) dX6_putLabel_9 (fun H locs hP hD hS => ?_)
  have hP : va_P (dC, dI) cls (List.flatten ([(oX6 (p0a 0) p0a p0k (upw p0w 13 (nn p1) (p0w 0 7)) p0l)] : List va_W)) H := hP
  have hD : va_D A (List.flatten ([(oX6 (p0a 0) p0a p0k (upw p0w 13 (nn p1) (p0w 0 7)) p0l)] : List va_W)) := hD
  obtain ⟨w2, ew2, hrun⟩ := let9 hrun
  rw [← ew2] at hP hD
  refine lv_aload_n hx hb dX6_putLabel_10 rfl (lv_at hl 0 rfl) ?_
  refine lv_bipush (v := 35) hx hb dX6_putLabel_11 (by decide) ?_
  refine lv_iload_n hx hb dX6_putLabel_13 rfl (lv_at hl 1 rfl) ?_
  refine lv_iconst (v := 0) hx hb dX6_putLabel_14 (by decide) ?_
  obtain ⟨o_3, hc_3, hrun⟩ := bnd9 hrun
  have hPx : va_P (dC, dI) cls ((List.flatten ([(oX6 (p0a 0) p0a p0k w2 p0l)] : List va_W)) ++ (List.flatten ([] : List va_W))) H := vP_fa (vP_perm hP (bP (List.Perm.refl _)))
  have hDx : va_D A ((List.flatten ([(oX6 (p0a 0) p0a p0k w2 p0l)] : List va_W)) ++ (List.flatten ([] : List va_W))) := vD_fa (vD_perm hD (bP (List.Perm.refl _)))
  have hKx : va_K (dC, dI) cls ((List.flatten ([(tX6 p0k)] : List (List (ClassId × FieldType)))) ++ (List.flatten ([] : List (List (ClassId × FieldType))))) s := vK_fa (vK_perm hK (bP (List.Perm.refl _)))
  have hPc := vP_l hPx
  have hDc := vD_l hDx
  have hKc := vK_l hKx
  have hFc := vfree hDx hS hA
  refine va_callv (va_runV (As := [.int 35, .int p1, .int 0]) (rest := []) ⟨hx, hb, hml, hown, hts⟩ (kX6_emit l dC dI (p0a := p0a) (p0k := p0k) (p0w := w2) (p0l := p0l) (p1 := 35) (p2 := p1) (p3 := 0) (sz := _) (o := o_3) (hrun := hc_3)) (cwV 3 hts (gi_V qw90 qw43 qw44 qw33 (gi_z qw41)) rfl rfl rfl (by decide +kernel) ⟨Nat.le_of_ble_eq_true rfl, Nat.le_of_ble_eq_true rfl⟩) ⟨PRE.blind, va_recv hKc hPc (ci := 2) (q0 := 0) rfl rfl, PRE.of hE hS hFc hPc hKc hDc⟩ rfl rfl hl.1 rfl (lv_room (Nat.le_of_ble_eq_true rfl)) dX6_putLabel_15 ⟨(Nat.le_of_ble_eq_true rfl), (Nat.le_of_ble_eq_true rfl)⟩) hS (fun q _ h => hFc q h) hFc (fun u t H locs ht hvm hw hB hz1 hk1 hS => ?_)
  obtain ⟨b1, b2, b3⟩ := hB
  rw [ht] at b1
  obtain ⟨hP, hD, hK⟩ := JOINC (wc := (List.flatten ([(oX6 (p0a 0) p0a p0k w2 p0l)] : List va_W))) (wr := (List.flatten ([] : List va_W))) (w1 := (List.flatten ([(oX6 (p0a 0) p0a p0k o_3 p0l)] : List va_W))) (t1 := (List.flatten ([(tX6 p0k)] : List (List (ClassId × FieldType))))) hPx hDx hKx hk1 hFc b1 (va_K.moved hvm.symm b2) b3
  have hP : va_P (dC, dI) cls (List.flatten ([(oX6 (p0a 0) p0a p0k o_3 p0l)] : List va_W)) H := vP_perm (vP_fb hP) (bP (List.Perm.refl _))
  have hD : va_D A (List.flatten ([(oX6 (p0a 0) p0a p0k o_3 p0l)] : List va_W)) := vD_perm (vD_fb hD) (bP (List.Perm.refl _))
  have hK : va_K (dC, dI) cls (List.flatten ([(tX6 p0k)] : List (List (ClassId × FieldType)))) s := vK_perm (vK_fb hK) (bP (List.Perm.refl _))
  have ho9 : o_3 = o := Option.some.inj hrun
  have hP9 : va_P (dC, dI) cls (List.flatten ([(oX6 (p0a 0) p0a p0k o p0l)] : List va_W)) H := by first | exact hP | (rw [← ho9]; exact hP)
  have hD9 : va_D A (List.flatten ([(oX6 (p0a 0) p0a p0k o p0l)] : List va_W)) := by first | exact hD | (rw [← ho9]; exact hD)
  subst hQ
  exact W.vret hx hb hr (fun t ht hW => ⟨⟨(), rfl, trivial, ⟨by rw [ht]; exact hP9, va_K.moved hW.alike hK, hD9⟩⟩, hS.F ht⟩) hS.2.2 dX6_putLabel_18
def fX6_tick_J17 (p0w_17 : ST) : Option ST := some p0w_17
def fX6_tick (p0w : ST) (p1 : Int32) : Option ST := (if 3200 ≤ p1 then (fX6_tick_J17 p0w) else (if ixb p1 3200 = true then (if ixb p1 3200 = true then (lt9 (upw p0w 11 (nn p1) ((p0w 11 (nn p1)) + 1)) fun (w4 : ST) => (fX6_tick_J17 w4)) else none) else none))
set_option maxHeartbeats 16000000 in
set_option maxRecDepth 100000 in
theorem kX6_tick {zs : ZS} (l : Launch) (dC : Nat → ClassId) (dI : Nat → Nat → Nat) (p0a : Nat → Nat) (p0k : Nat → ClassId) (p0w : ST) (p0l : SL) (p1 : Int32) (sz : Nat) (o : ST) (hrun : fX6_tick p0w p1 = some o) : Met l yX6_tick (wz yX6_tick cX6_tick 2 (Option.none : Option Jvm.ClassFile.FieldType)) ({ frames := 0, cells := 0, slots := 0, locals := 0 } : Room) (va_Pc [.ref (p0a 0), .int p1] (PRE zs dC dI (List.flatten ([(oX6 (p0a 0) p0a p0k p0w p0l)] : List va_W)) (List.flatten ([(tX6 p0k)] : List (List (ClassId × FieldType)))) sz)) (va_Qv (fun (_ : Unit) => True) (fun _ t => POST dC dI (List.flatten ([(oX6 (p0a 0) p0a p0k o p0l)] : List va_W)) (List.flatten ([(tX6 p0k)] : List (List (ClassId × FieldType)))) (va_A (List.flatten ([(oX6 (p0a 0) p0a p0k p0w p0l)] : List va_W)) sz) t) (va_A (List.flatten ([(oX6 (p0a 0) p0a p0k p0w p0l)] : List va_W)) sz)) 0 0 (va_A (List.flatten ([(oX6 (p0a 0) p0a p0k p0w p0l)] : List va_W)) sz) := by
  refine Met.ofW (cc := cX6_tick) (maxL := 2) (ret := (Option.none : Option Jvm.ClassFile.FieldType)) (by decide) rfl ?_
  intro p e s m args below meth c s₁ B hml hv
  obtain ⟨rfl, hsz, hP, hK, hD0, hE⟩ := hv
  have hx := B.exec
  have hb := B.bytes
  have hr := B.returns
  have hts0 := atoms_spec (ws := wz yX6_tick cX6_tick 2 (Option.none : Option Jvm.ClassFile.FieldType)) B.pre
  have hts : ∀ w ∈ gw, w.before _ s = true := fun w h => hts0 w (List.mem_cons_of_mem _ h)
  have hown : s.vm.findClass RX6 = some m.cls := findClass_of_methodNamed B.named
  have hlocks := B.notSynchronized
  subst hsz
  have hD := hD0.self (sz := s.heap.size)
  refine gQ9 ?_
  intro Q hQ
  generalize hAe : va_A (List.flatten ([(oX6 (p0a 0) p0a p0k p0w p0l)] : List va_W)) s.heap.size = A at hD hE hQ
  have hA : ∀ q : Nat, s.heap.size ≤ q → A q := fun q h => by rw [← hAe]; exact Or.inr h
  have hS : va_S A s.heap s.heap [] := va_S.rf
  have hP : va_P (dC, dI) cls (List.flatten ([(oX6 (p0a 0) p0a p0k p0w p0l)] : List va_W)) s.heap := hP
  have hl := lv_entry ([.ref (p0a 0), .int p1]) (n := 2) (Nat.le_of_ble_eq_true rfl)
  rw [lg_entry_eq]
  generalize (lg_sl ([.ref (p0a 0), .int p1]) ++ List.replicate (2 - (lg_sl ([.ref (p0a 0), .int p1])).length) Slot.unset).toArray = ls at hl ⊢
  have hl : lv_has ls 2 [(0, .ref (p0a 0)), (1, .int p1)] := hl
  obtain ⟨H, hHe⟩ : ∃ H, H = s.heap := ⟨_, rfl⟩
  obtain ⟨locs, hle⟩ : ∃ locs : List Loc, locs = [] := ⟨_, rfl⟩
  rw [← hHe] at hP
  have hS : va_S A s.heap H locs := by rw [hHe, hle]; exact hS
  show W p l e ({ frames := 0, cells := 0, slots := 0, locals := 0 } : Room) s m ([.ref (p0a 0), .int p1] : List Value).toArray below meth c s.heap [] 0 0 Q (F0 m 0 ls [])
  rw [← hle]
  refine wH9 hHe ?_
  unfold fX6_tick at hrun
  refine lv_iload_n hx hb dX6_tick_0 rfl (lv_at hl 1 rfl) ?_
  refine lv_sipush (v := 3200) hx hb dX6_tick_1 (by decide) ?_
  have J17 : ∀ (p0w_17 : ST) (H : Heap) (locs : List Loc) (ls : Array Slot), (fX6_tick_J17 p0w_17) = some o → va_P (dC, dI) cls (List.flatten ([(oX6 (p0a 0) p0a p0k p0w_17 p0l)] : List va_W)) H → va_D A (List.flatten ([(oX6 (p0a 0) p0a p0k p0w_17 p0l)] : List va_W)) → va_K (dC, dI) cls (List.flatten ([(tX6 p0k)] : List (List (ClassId × FieldType)))) s → va_S A s.heap H locs → lv_has ls 2 [] → W p l e ({ frames := 0, cells := 0, slots := 0, locals := 0 } : Room) s m ([.ref (p0a 0), .int p1] : List Value).toArray below meth c H locs 0 0 Q (F0 m 17 ls []) := by
    intro p0w_17 H locs ls hrun hP hD hK hS hl 
    unfold fX6_tick_J17 at hrun
    have ho9 : p0w_17 = o := Option.some.inj hrun
    have hP9 : va_P (dC, dI) cls (List.flatten ([(oX6 (p0a 0) p0a p0k o p0l)] : List va_W)) H := by first | exact hP | (rw [← ho9]; exact hP)
    have hD9 : va_D A (List.flatten ([(oX6 (p0a 0) p0a p0k o p0l)] : List va_W)) := by first | exact hD | (rw [← ho9]; exact hD)
    subst hQ
    exact W.vret hx hb hr (fun t ht hW => ⟨⟨(), rfl, trivial, ⟨by rw [ht]; exact hP9, va_K.moved hW.alike hK, hD9⟩⟩, hS.F ht⟩) hS.2.2 dX6_tick_17
  rcases br9 hrun with ⟨hc1, hrun⟩ | ⟨hc1, hrun⟩
  · refine lv_icmp_ge (tgt := 17) hx hb dX6_tick_4 (by decide) (fun _ => ?_) (fun c => absurd hc1 c)
    exact J17 p0w _ _ _ hrun hP hD hK hS (lv_sub hl [] rfl)
  · refine lv_icmp_ge (tgt := 17) hx hb dX6_tick_4 (by decide) (fun c => absurd c hc1) (fun _ => ?_)
    refine lv_aload_n hx hb dX6_tick_7 rfl (lv_at hl 0 rfl) ?_
    refine va_get (D := (dC, dI)) (ci := 2) (v := .ref (p0a 11)) (C := RX6) (T := TX6) (N := 13) hx hb hts i_X6 hown hK hP 0 rfl rfl 10 (by decide) (hts _ qw40) (fun _ h9 => h9) rfl dX6_tick_8 ?_
    refine lv_iload_n hx hb dX6_tick_11 rfl (lv_at hl 1 rfl) ?_
    refine lv_dup2_11 hx hb dX6_tick_12 rfl rfl ?_
    obtain ⟨hq2, hrun⟩ := chk9 hrun
    refine va_iald hx hb hK hP 9 8 rfl rfl (ixb_in hq2) dX6_tick_13 ?_
    refine lv_iconst (v := 1) hx hb dX6_tick_14 (by decide) ?_
    refine lv_iadd hx hb dX6_tick_15 ?_
    obtain ⟨hq3, hrun⟩ := chk9 hrun
    refine va_iast hx hb hK hP hD hS 9 8 rfl rfl (ixb_in hq3) dX6_tick_16 (fun H locs hP hD hS => ?_)
    have hP : va_P (dC, dI) cls (List.flatten ([(oX6 (p0a 0) p0a p0k (upw p0w 11 (nn p1) ((p0w 11 (nn p1)) + 1)) p0l)] : List va_W)) H := hP
    have hD : va_D A (List.flatten ([(oX6 (p0a 0) p0a p0k (upw p0w 11 (nn p1) ((p0w 11 (nn p1)) + 1)) p0l)] : List va_W)) := hD
    obtain ⟨w4, ew4, hrun⟩ := let9 hrun
    rw [← ew4] at hP hD
    exact J17 w4 _ _ _ hrun hP hD hK hS (lv_sub hl [] rfl)
def fJ7_copyOf_59c91 (p0n : Nat) (p0f : RI) (p1 : Int32) : Option (Nat × RI) := (if p1 = (Int32.ofNat p0n) then none else (if nck p1 = true then (if cpk 0 0 (if p1 < (Int32.ofNat p0n) then p1 else (Int32.ofNat p0n)) p0n (nn p1) = true then (lt9 (va_cpy p0f (fun _ => 0) (nn 0) (nn 0) (nn (if p1 < (Int32.ofNat p0n) then p1 else (Int32.ofNat p0n)))) fun (f4 : RI) => some ((nn p1), f4)) else none) else none))
theorem ln_fJ7_copyOf_59c91 {p0n : Nat} {p0f : RI} {p1 : Int32} {o : Nat × RI} (hrun : fJ7_copyOf_59c91 p0n p0f p1 = some o) : o.1 = nn p1 := by
  unfold fJ7_copyOf_59c91 at hrun
  rcases br9 hrun with ⟨hc1, hrun⟩ | ⟨hc1, hrun⟩
  · skip
    cases hrun
  · skip
    obtain ⟨hq2, hrun⟩ := chk9 hrun
    obtain ⟨hq3, hrun⟩ := chk9 hrun
    obtain ⟨f4, ef4, hrun⟩ := let9 hrun
    obtain rfl := (Option.some.inj hrun)
    exact rfl
set_option maxHeartbeats 16000000 in
set_option maxRecDepth 100000 in
theorem kJ7_copyOf_59c91 {zs : ZS} (l : Launch) (dC : Nat → ClassId) (dI : Nat → Nat → Nat) (p0a : Nat) (p0k : ClassId) (p0n : Nat) (p0f : RI) (p1 : Int32) (sz : Nat) (o : Nat × RI) (hrun : fJ7_copyOf_59c91 p0n p0f p1 = some o) : Met l yJ7_copyOf_59c91 (wz yJ7_copyOf_59c91 cJ7_copyOf_59c91 3 (Option.some (Jvm.ClassFile.FieldType.array Jvm.ClassFile.FieldType.int))) ({ frames := 1, cells := 1, slots := (nn p1), locals := 40 } : Room) (va_Pc [.ref p0a, .int p1] (PRE zs dC dI (List.flatten ([[(p0a, .inl (p0k, p0n, .inl p0f))]] : List va_W)) (List.flatten ([[(p0k, .int)]] : List (List (ClassId × FieldType)))) sz)) (va_Qr (fun (_ : Unit) => True) (fun _ ra t => ∃ (z9 : ClassId), POST dC dI [(ra, .inl (z9, o.1, .inl o.2))] [(z9, .int)] (va_A (List.flatten ([[(p0a, .inl (p0k, p0n, .inl p0f))]] : List va_W)) sz) t) (va_A (List.flatten ([[(p0a, .inl (p0k, p0n, .inl p0f))]] : List va_W)) sz)) 1 (nn p1) (va_A (List.flatten ([[(p0a, .inl (p0k, p0n, .inl p0f))]] : List va_W)) sz) := by
  refine Met.ofW (cc := cJ7_copyOf_59c91) (maxL := 3) (ret := (Option.some (Jvm.ClassFile.FieldType.array Jvm.ClassFile.FieldType.int))) (by decide) rfl ?_
  intro p e s m args below meth c s₁ B hml hv
  obtain ⟨rfl, hsz, hP, hK, hD0, hE⟩ := hv
  have hx := B.exec
  have hb := B.bytes
  have hr := B.returns
  have hts0 := atoms_spec (ws := wz yJ7_copyOf_59c91 cJ7_copyOf_59c91 3 (Option.some (Jvm.ClassFile.FieldType.array Jvm.ClassFile.FieldType.int))) B.pre
  have hts : ∀ w ∈ gw, w.before _ s = true := fun w h => hts0 w (List.mem_cons_of_mem _ h)
  have hown : s.vm.findClass RJ7 = some m.cls := findClass_of_methodNamed B.named
  have hlocks := B.notSynchronized
  subst hsz
  have hD := hD0.self (sz := s.heap.size)
  refine gQ9 ?_
  intro Q hQ
  generalize hAe : va_A (List.flatten ([[(p0a, .inl (p0k, p0n, .inl p0f))]] : List va_W)) s.heap.size = A at hD hE hQ
  have hA : ∀ q : Nat, s.heap.size ≤ q → A q := fun q h => by rw [← hAe]; exact Or.inr h
  have hS : va_S A s.heap s.heap [] := va_S.rf
  have hP : va_P (dC, dI) cls (List.flatten ([[(p0a, .inl (p0k, p0n, .inl p0f))]] : List va_W)) s.heap := hP
  have hl := lv_entry ([.ref p0a, .int p1]) (n := 3) (Nat.le_of_ble_eq_true rfl)
  rw [lg_entry_eq]
  generalize (lg_sl ([.ref p0a, .int p1]) ++ List.replicate (3 - (lg_sl ([.ref p0a, .int p1])).length) Slot.unset).toArray = ls at hl ⊢
  have hl : lv_has ls 3 [(0, .ref p0a), (1, .int p1)] := hl
  obtain ⟨H, hHe⟩ : ∃ H, H = s.heap := ⟨_, rfl⟩
  obtain ⟨locs, hle⟩ : ∃ locs : List Loc, locs = [] := ⟨_, rfl⟩
  rw [← hHe] at hP
  have hS : va_S A s.heap H locs := by rw [hHe, hle]; exact hS
  show W p l e ({ frames := 1, cells := 1, slots := (nn p1), locals := 40 } : Room) s m ([.ref p0a, .int p1] : List Value).toArray below meth c s.heap [] 0 0 Q (F0 m 0 ls [])
  rw [← hle]
  refine wH9 hHe ?_
  unfold fJ7_copyOf_59c91 at hrun
  refine lv_iload_n hx hb dJ7_copyOf_59c91_0 rfl (lv_at hl 1 rfl) ?_
  refine lv_aload_n hx hb dJ7_copyOf_59c91_1 rfl (lv_at hl 0 rfl) ?_
  refine va_alen (v := (Int32.ofNat p0n)) hx hb hK hP 0 0 rfl rfl rfl dJ7_copyOf_59c91_2 ?_
  rcases br9 hrun with ⟨hc1, hrun⟩ | ⟨hc1, hrun⟩
  · refine lv_icmp_ne (tgt := 14) hx hb dJ7_copyOf_59c91_3 (by decide) (fun c => absurd hc1 c) (fun _ => ?_)
    refine lv_aload_n hx hb dJ7_copyOf_59c91_6 rfl (lv_at hl 0 rfl) ?_
    cases hrun
  · refine lv_icmp_ne (tgt := 14) hx hb dJ7_copyOf_59c91_3 (by decide) (fun _ => ?_) (fun c => absurd c hc1)
    refine lv_iload_n hx hb dJ7_copyOf_59c91_14 rfl (lv_at hl 1 rfl) ?_
    obtain ⟨hq2, hrun⟩ := chk9 hrun
    refine va_newa (atype := .int) (ty := .int) hx hb (hts _ qw97) rfl hK hP hD hS hA (N' := (nn p1)) (a0 := (nn p1, .inl (fun _ => 0))) (fun _ => rfl) (nck_1 hq2) rfl (nck_4 hq2) (show 0 + 1 ≤ 1 from Nat.le_refl _) (show 0 + nn p1 ≤ nn p1 from Nat.le_of_eq (Nat.zero_add _)) dJ7_copyOf_59c91_15 (fun q1 c1 H hK hP hD hS => ?_)
    have hP : va_P (dC, dI) cls (List.flatten ([[(p0a, .inl (p0k, p0n, .inl p0f))], [(q1, .inl (c1, (nn p1), .inl (fun _ => 0)))]] : List va_W)) H := hP
    have hD : va_D A (List.flatten ([[(p0a, .inl (p0k, p0n, .inl p0f))], [(q1, .inl (c1, (nn p1), .inl (fun _ => 0)))]] : List va_W)) := hD
    have hK : va_K (dC, dI) cls (List.flatten ([[(p0k, .int)], [(c1, .int)]] : List (List (ClassId × FieldType)))) s := hK
    refine W.widen (k := 1) (n := (nn p1)) (Nat.le_refl _) (Nat.le_of_eq (Nat.zero_add _)) ?_
    refine lv_astore_n (lv' := [(2, .ref q1), (0, .ref p0a), (1, .int p1)]) hx hb dJ7_copyOf_59c91_17 rfl hl (by decide) rfl (fun ls hl => ?_)
    refine lv_aload_n hx hb dJ7_copyOf_59c91_18 rfl (lv_at hl 1 rfl) ?_
    refine lv_iconst (v := 0) hx hb dJ7_copyOf_59c91_19 (by decide) ?_
    refine lv_aload_n hx hb dJ7_copyOf_59c91_20 rfl (lv_at hl 0 rfl) ?_
    refine lv_iconst (v := 0) hx hb dJ7_copyOf_59c91_21 (by decide) ?_
    refine lv_aload_n hx hb dJ7_copyOf_59c91_22 rfl (lv_at hl 1 rfl) ?_
    refine va_alen (v := (Int32.ofNat p0n)) hx hb hK hP 0 0 rfl rfl rfl dJ7_copyOf_59c91_23 ?_
    refine lv_iload_n hx hb dJ7_copyOf_59c91_24 rfl (lv_at hl 2 rfl) ?_
    refine va_mmin hx hb (hml.trans hl.1.symm) hown (hts _ qw98) (hts _ qw99) (hts _ qw100) (hts _ qw101) (Nat.le_of_ble_eq_true rfl) (Nat.le_of_ble_eq_true rfl) (Nat.le_refl _) (Nat.le_refl _) dJ7_copyOf_59c91_25 ?_
    obtain ⟨hq3, hrun⟩ := chk9 hrun
    refine va_copyi (ty := .int) (sp := 0) (dp := 0) (n := (if p1 < (Int32.ofNat p0n) then p1 else (Int32.ofNat p0n))) hx hb (hml.trans hl.1.symm) hown (hts _ qw102) (hts _ qw103) (hts _ qw104) (hts _ qw105) hK hP hD hS 0 1 0 1 rfl rfl rfl rfl rfl (cpk_1 hq3) (cpk_2 hq3) (cpk_3 hq3) (cpk_4 hq3) (cpk_5 hq3) (fun _ _ => rfl) (Nat.le_of_ble_eq_true rfl) (Nat.le_of_ble_eq_true rfl) dJ7_copyOf_59c91_28 (fun H locs hP hD hS => ?_)
    have hP : va_P (dC, dI) cls (List.flatten ([[(p0a, .inl (p0k, p0n, .inl p0f))], [(q1, .inl (c1, (nn p1), .inl (va_cpy p0f (fun _ => 0) (nn 0) (nn 0) (nn (if p1 < (Int32.ofNat p0n) then p1 else (Int32.ofNat p0n))))))]] : List va_W)) H := hP
    have hD : va_D A (List.flatten ([[(p0a, .inl (p0k, p0n, .inl p0f))], [(q1, .inl (c1, (nn p1), .inl (va_cpy p0f (fun _ => 0) (nn 0) (nn 0) (nn (if p1 < (Int32.ofNat p0n) then p1 else (Int32.ofNat p0n))))))]] : List va_W)) := hD
    obtain ⟨f4, ef4, hrun⟩ := let9 hrun
    rw [← ef4] at hP hD
    refine lv_aload_n hx hb dJ7_copyOf_59c91_31 rfl (lv_at hl 0 rfl) ?_
    have ho9 : ((nn p1), f4) = o := Option.some.inj hrun
    subst ho9
    subst hQ
    have hP9 : va_P (dC, dI) cls (List.flatten ([[(q1, .inl (c1, (nn p1), .inl f4))]] : List va_W)) H := hP.sub [1] rfl
    have hD9 : va_D A (List.flatten ([[(q1, .inl (c1, (nn p1), .inl f4))]] : List va_W)) := hD.sub [1] (by decide) rfl
    have hK9 : va_K (dC, dI) cls (List.flatten ([[(c1, .int)]] : List (List (ClassId × FieldType)))) s := hK.sub [1] rfl
    exact W.aret (v := .ref q1) (rt := .array .int) hx hb hr (Or.inr ⟨_, rfl⟩) (Or.inr ⟨_, rfl⟩) (fun t ht hW => ⟨⟨(), q1, rfl, trivial, c1, by rw [ht]; exact hP9, va_K.moved hW.alike hK9, hD9⟩, hS.F ht⟩) hS.2.2 dJ7_copyOf_59c91_32
def fX9_add_J92 (p1 : Int32) (p2 : Int32) (p3 : Int32) (p4 : Int32) (p0w_92 : ST) (p0n_92 : Nat → Nat) : Option (Int32 × ST × (Nat → Nat)) := (if ixb (p0w_92 0 0) (p0n_92 2) = true then (lt9 (upw p0w_92 2 (nn (p0w_92 0 0)) p1) fun (w2 : ST) => (if ixb (w2 0 0) (p0n_92 3) = true then (lt9 (upw w2 3 (nn (w2 0 0)) p2) fun (w4 : ST) => (if ixb (w4 0 0) (p0n_92 4) = true then (lt9 (upw w4 4 (nn (w4 0 0)) p3) fun (w6 : ST) => (if ixb (w6 0 0) (p0n_92 5) = true then (lt9 (upw w6 5 (nn (w6 0 0)) p4) fun (w8 : ST) => (if ixb (w8 0 0) (p0n_92 6) = true then (lt9 (upw w8 6 (nn (w8 0 0)) (-1)) fun (w10 : ST) => (lt9 (upw w10 0 0 ((w10 0 0) + 1)) fun (w11 : ST) => some (((w11 0 0) - 1), w11, p0n_92))) else none)) else none)) else none)) else none)) else none)
theorem mo_fX9_add_J92 {p1 : Int32} {p2 : Int32} {p3 : Int32} {p4 : Int32} {p0w_92 : ST} {p0n_92 : Nat → Nat} {o9q : Int32 × ST × (Nat → Nat)} (hrun : fX9_add_J92 p1 p2 p3 p4 p0w_92 p0n_92 = some o9q) : glX9 p0n_92 (o9q.2.2) := by
  unfold fX9_add_J92 at hrun
  obtain ⟨hq1, hrun⟩ := chk9 hrun
  obtain ⟨w2, ew2, hrun⟩ := let9 hrun
  obtain ⟨hq3, hrun⟩ := chk9 hrun
  obtain ⟨w4, ew4, hrun⟩ := let9 hrun
  obtain ⟨hq5, hrun⟩ := chk9 hrun
  obtain ⟨w6, ew6, hrun⟩ := let9 hrun
  obtain ⟨hq7, hrun⟩ := chk9 hrun
  obtain ⟨w8, ew8, hrun⟩ := let9 hrun
  obtain ⟨hq9, hrun⟩ := chk9 hrun
  obtain ⟨w10, ew10, hrun⟩ := let9 hrun
  obtain ⟨w11, ew11, hrun⟩ := let9 hrun
  obtain rfl := (Option.some.inj hrun)
  exact (glX9_rf _)
def fX9_add_G92_47 (p1 : Int32) (p2 : Int32) (p3 : Int32) (p4 : Int32) (n43 : Nat → Nat) (w44 : ST) : Option (Int32 × ST × (Nat → Nat)) := (fX9_add_J92 p1 p2 p3 p4 w44 n43)
theorem mo_fX9_add_G92_47 {p1 : Int32} {p2 : Int32} {p3 : Int32} {p4 : Int32} {n43 : Nat → Nat} {w44 : ST} {o9q : Int32 × ST × (Nat → Nat)} (hrun : fX9_add_G92_47 p1 p2 p3 p4 n43 w44 = some o9q) : glX9 n43 (o9q.2.2) := by
  unfold fX9_add_G92_47 at hrun
  exact (mo_fX9_add_J92 hrun)
def fX9_add_G79_40 (p0w : ST) (p1 : Int32) (p2 : Int32) (p3 : Int32) (p4 : Int32) (n36 : Nat → Nat) (w37 : ST) : Option (Int32 × ST × (Nat → Nat)) := ((fJ7_copyOf_59c91 (n36 6) (w37 6) (((p0w 0 0) + ((p0w 0 0) / 2)) + 1)).bind fun (o_41 : Nat × RI) => (if grs (n36 6) (o_41.1) = true then (lt9 (stn n36 6 (o_41.1)) fun (n43 : Nat → Nat) => (lt9 (srw w37 6 (o_41.2)) fun (w44 : ST) => (fX9_add_G92_47 p1 p2 p3 p4 n43 w44))) else none))
theorem mo_fX9_add_G79_40 {p0w : ST} {p1 : Int32} {p2 : Int32} {p3 : Int32} {p4 : Int32} {n36 : Nat → Nat} {w37 : ST} {o9q : Int32 × ST × (Nat → Nat)} (hrun : fX9_add_G79_40 p0w p1 p2 p3 p4 n36 w37 = some o9q) : glX9 n36 (o9q.2.2) := by
  unfold fX9_add_G79_40 at hrun
  obtain ⟨o_41, hc_41, hrun⟩ := bnd9 hrun
  obtain ⟨hq42, hrun⟩ := chk9 hrun
  obtain ⟨n43, en43, hrun⟩ := let9 hrun
  obtain ⟨w44, ew44, hrun⟩ := let9 hrun
  skip
  exact (glX9_tr (by rw [en43]; exact glX9_6 (grs_le hq42) : glX9 n36 n43) (mo_fX9_add_G92_47 hrun))
def fX9_add_G66_33 (p0w : ST) (p1 : Int32) (p2 : Int32) (p3 : Int32) (p4 : Int32) (n29 : Nat → Nat) (w30 : ST) : Option (Int32 × ST × (Nat → Nat)) := ((fJ7_copyOf_59c91 (n29 5) (w30 5) (((p0w 0 0) + ((p0w 0 0) / 2)) + 1)).bind fun (o_34 : Nat × RI) => (if grs (n29 5) (o_34.1) = true then (lt9 (stn n29 5 (o_34.1)) fun (n36 : Nat → Nat) => (lt9 (srw w30 5 (o_34.2)) fun (w37 : ST) => (fX9_add_G79_40 p0w p1 p2 p3 p4 n36 w37))) else none))
theorem mo_fX9_add_G66_33 {p0w : ST} {p1 : Int32} {p2 : Int32} {p3 : Int32} {p4 : Int32} {n29 : Nat → Nat} {w30 : ST} {o9q : Int32 × ST × (Nat → Nat)} (hrun : fX9_add_G66_33 p0w p1 p2 p3 p4 n29 w30 = some o9q) : glX9 n29 (o9q.2.2) := by
  unfold fX9_add_G66_33 at hrun
  obtain ⟨o_34, hc_34, hrun⟩ := bnd9 hrun
  obtain ⟨hq35, hrun⟩ := chk9 hrun
  obtain ⟨n36, en36, hrun⟩ := let9 hrun
  obtain ⟨w37, ew37, hrun⟩ := let9 hrun
  skip
  exact (glX9_tr (by rw [en36]; exact glX9_5 (grs_le hq35) : glX9 n29 n36) (mo_fX9_add_G79_40 hrun))
def fX9_add_G53_26 (p0w : ST) (p1 : Int32) (p2 : Int32) (p3 : Int32) (p4 : Int32) (n22 : Nat → Nat) (w23 : ST) : Option (Int32 × ST × (Nat → Nat)) := ((fJ7_copyOf_59c91 (n22 4) (w23 4) (((p0w 0 0) + ((p0w 0 0) / 2)) + 1)).bind fun (o_27 : Nat × RI) => (if grs (n22 4) (o_27.1) = true then (lt9 (stn n22 4 (o_27.1)) fun (n29 : Nat → Nat) => (lt9 (srw w23 4 (o_27.2)) fun (w30 : ST) => (fX9_add_G66_33 p0w p1 p2 p3 p4 n29 w30))) else none))
theorem mo_fX9_add_G53_26 {p0w : ST} {p1 : Int32} {p2 : Int32} {p3 : Int32} {p4 : Int32} {n22 : Nat → Nat} {w23 : ST} {o9q : Int32 × ST × (Nat → Nat)} (hrun : fX9_add_G53_26 p0w p1 p2 p3 p4 n22 w23 = some o9q) : glX9 n22 (o9q.2.2) := by
  unfold fX9_add_G53_26 at hrun
  obtain ⟨o_27, hc_27, hrun⟩ := bnd9 hrun
  obtain ⟨hq28, hrun⟩ := chk9 hrun
  obtain ⟨n29, en29, hrun⟩ := let9 hrun
  obtain ⟨w30, ew30, hrun⟩ := let9 hrun
  skip
  exact (glX9_tr (by rw [en29]; exact glX9_4 (grs_le hq28) : glX9 n22 n29) (mo_fX9_add_G66_33 hrun))
def fX9_add_G40_19 (p0w : ST) (p1 : Int32) (p2 : Int32) (p3 : Int32) (p4 : Int32) (n15 : Nat → Nat) (w16 : ST) : Option (Int32 × ST × (Nat → Nat)) := ((fJ7_copyOf_59c91 (n15 3) (w16 3) (((p0w 0 0) + ((p0w 0 0) / 2)) + 1)).bind fun (o_20 : Nat × RI) => (if grs (n15 3) (o_20.1) = true then (lt9 (stn n15 3 (o_20.1)) fun (n22 : Nat → Nat) => (lt9 (srw w16 3 (o_20.2)) fun (w23 : ST) => (fX9_add_G53_26 p0w p1 p2 p3 p4 n22 w23))) else none))
theorem mo_fX9_add_G40_19 {p0w : ST} {p1 : Int32} {p2 : Int32} {p3 : Int32} {p4 : Int32} {n15 : Nat → Nat} {w16 : ST} {o9q : Int32 × ST × (Nat → Nat)} (hrun : fX9_add_G40_19 p0w p1 p2 p3 p4 n15 w16 = some o9q) : glX9 n15 (o9q.2.2) := by
  unfold fX9_add_G40_19 at hrun
  obtain ⟨o_20, hc_20, hrun⟩ := bnd9 hrun
  obtain ⟨hq21, hrun⟩ := chk9 hrun
  obtain ⟨n22, en22, hrun⟩ := let9 hrun
  obtain ⟨w23, ew23, hrun⟩ := let9 hrun
  skip
  exact (glX9_tr (by rw [en22]; exact glX9_3 (grs_le hq21) : glX9 n15 n22) (mo_fX9_add_G53_26 hrun))
def fX9_add (p0n : Nat → Nat) (p0w : ST) (p1 : Int32) (p2 : Int32) (p3 : Int32) (p4 : Int32) : Option (Int32 × ST × (Nat → Nat)) := (if (p0w 0 0) < (Int32.ofNat (p0n 2)) then (fX9_add_J92 p1 p2 p3 p4 p0w p0n) else ((fJ7_copyOf_59c91 (p0n 2) (p0w 2) (((p0w 0 0) + ((p0w 0 0) / 2)) + 1)).bind fun (o_13 : Nat × RI) => (if grs (p0n 2) (o_13.1) = true then (lt9 (stn p0n 2 (o_13.1)) fun (n15 : Nat → Nat) => (lt9 (srw p0w 2 (o_13.2)) fun (w16 : ST) => (fX9_add_G40_19 p0w p1 p2 p3 p4 n15 w16))) else none)))
theorem mo_fX9_add {p0n : Nat → Nat} {p0w : ST} {p1 : Int32} {p2 : Int32} {p3 : Int32} {p4 : Int32} {o9q : Int32 × ST × (Nat → Nat)} (hrun : fX9_add p0n p0w p1 p2 p3 p4 = some o9q) : glX9 p0n (o9q.2.2) := by
  unfold fX9_add at hrun
  rcases br9 hrun with ⟨hc12, hrun⟩ | ⟨hc12, hrun⟩
  · skip
    exact (mo_fX9_add_J92 hrun)
  · skip
    obtain ⟨o_13, hc_13, hrun⟩ := bnd9 hrun
    obtain ⟨hq14, hrun⟩ := chk9 hrun
    obtain ⟨n15, en15, hrun⟩ := let9 hrun
    obtain ⟨w16, ew16, hrun⟩ := let9 hrun
    skip
    exact (glX9_tr (by rw [en15]; exact glX9_2 (grs_le hq14) : glX9 p0n n15) (mo_fX9_add_G40_19 hrun))
set_option maxHeartbeats 16000000 in
set_option maxRecDepth 100000 in
theorem kX9_add {zs : ZS} (l : Launch) (dC : Nat → ClassId) (dI : Nat → Nat → Nat) (p0a : Nat → Nat) (p0k : Nat → ClassId) (p0n : Nat → Nat) (p0w : ST) (p1 : Int32) (p2 : Int32) (p3 : Int32) (p4 : Int32) (sz : Nat) (o : Int32 × ST × (Nat → Nat)) (hrun : fX9_add p0n p0w p1 p2 p3 p4 = some o) : Met l yX9_add (wz yX9_add cX9_add 6 (Option.some Jvm.ClassFile.FieldType.int)) ({ frames := 2, cells := (hcX9 p0n (o.2.2)), slots := (3 * (gcX9 p0n (o.2.2))), locals := 62 } : Room) (va_Pc [.ref (p0a 0), .int p1, .int p2, .int p3, .int p4] (PRE zs dC dI (List.flatten ([(oX9 (p0a 0) p0a p0k p0n p0w)] : List va_W)) (List.flatten ([(tX9 p0k)] : List (List (ClassId × FieldType)))) sz)) (va_Qi (fun (r : Int32) (_ : Unit) => r = (o.1)) (fun _ t => ∃ (xp0_1_z : Nat), ∃ (zp0_1_z : ClassId), ∃ (xp0_2_z : Nat), ∃ (zp0_2_z : ClassId), ∃ (xp0_3_z : Nat), ∃ (zp0_3_z : ClassId), ∃ (xp0_4_z : Nat), ∃ (zp0_4_z : ClassId), ∃ (xp0_5_z : Nat), ∃ (zp0_5_z : ClassId), POST dC dI (List.flatten ([(oX9 (p0a 0) (st1 (st1 (st1 (st1 (st1 p0a 2 xp0_1_z) 3 xp0_2_z) 4 xp0_3_z) 5 xp0_4_z) 6 xp0_5_z) (st1 (st1 (st1 (st1 (st1 p0k 2 zp0_1_z) 3 zp0_2_z) 4 zp0_3_z) 5 zp0_4_z) 6 zp0_5_z) (o.2.2) (o.2.1))] : List va_W)) (List.flatten ([(tX9 (st1 (st1 (st1 (st1 (st1 p0k 2 zp0_1_z) 3 zp0_2_z) 4 zp0_3_z) 5 zp0_4_z) 6 zp0_5_z))] : List (List (ClassId × FieldType)))) (va_A (List.flatten ([(oX9 (p0a 0) p0a p0k p0n p0w)] : List va_W)) sz) t) (va_A (List.flatten ([(oX9 (p0a 0) p0a p0k p0n p0w)] : List va_W)) sz)) (hcX9 p0n (o.2.2)) (3 * (gcX9 p0n (o.2.2))) (va_A (List.flatten ([(oX9 (p0a 0) p0a p0k p0n p0w)] : List va_W)) sz) := by
  refine Met.ofW (cc := cX9_add) (maxL := 6) (ret := (Option.some Jvm.ClassFile.FieldType.int)) (by decide) rfl ?_
  intro p e s m args below meth c s₁ B hml hv
  obtain ⟨rfl, hsz, hP, hK, hD0, hE⟩ := hv
  have hx := B.exec
  have hb := B.bytes
  have hr := B.returns
  have hts0 := atoms_spec (ws := wz yX9_add cX9_add 6 (Option.some Jvm.ClassFile.FieldType.int)) B.pre
  have hts : ∀ w ∈ gw, w.before _ s = true := fun w h => hts0 w (List.mem_cons_of_mem _ h)
  have hown : s.vm.findClass RX9 = some m.cls := findClass_of_methodNamed B.named
  have hlocks := B.notSynchronized
  subst hsz
  have hD := hD0.self (sz := s.heap.size)
  refine gQ9 ?_
  intro Q hQ
  generalize hAe : va_A (List.flatten ([(oX9 (p0a 0) p0a p0k p0n p0w)] : List va_W)) s.heap.size = A at hD hE hQ
  have hA : ∀ q : Nat, s.heap.size ≤ q → A q := fun q h => by rw [← hAe]; exact Or.inr h
  have hS : va_S A s.heap s.heap [] := va_S.rf
  have hP : va_P (dC, dI) cls (List.flatten ([(oX9 (p0a 0) p0a p0k p0n p0w)] : List va_W)) s.heap := hP
  have hl := lv_entry ([.ref (p0a 0), .int p1, .int p2, .int p3, .int p4]) (n := 6) (Nat.le_of_ble_eq_true rfl)
  rw [lg_entry_eq]
  generalize (lg_sl ([.ref (p0a 0), .int p1, .int p2, .int p3, .int p4]) ++ List.replicate (6 - (lg_sl ([.ref (p0a 0), .int p1, .int p2, .int p3, .int p4])).length) Slot.unset).toArray = ls at hl ⊢
  have hl : lv_has ls 6 [(0, .ref (p0a 0)), (1, .int p1), (2, .int p2), (3, .int p3), (4, .int p4)] := hl
  obtain ⟨H, hHe⟩ : ∃ H, H = s.heap := ⟨_, rfl⟩
  obtain ⟨locs, hle⟩ : ∃ locs : List Loc, locs = [] := ⟨_, rfl⟩
  rw [← hHe] at hP
  have hS : va_S A s.heap H locs := by rw [hHe, hle]; exact hS
  show W p l e ({ frames := 2, cells := (hcX9 p0n (o.2.2)), slots := (3 * (gcX9 p0n (o.2.2))), locals := 62 } : Room) s m ([.ref (p0a 0), .int p1, .int p2, .int p3, .int p4] : List Value).toArray below meth c s.heap [] 0 0 Q (F0 m 0 ls [])
  rw [← hle]
  refine wH9 hHe ?_
  have hg_p0 := glX9_rf p0n
  have hgn_p0 : glX9 p0n (o.2.2) := (mo_fX9_add hrun)
  refine W.widen (k := (hcX9 p0n p0n)) (n := (3 * (gcX9 p0n p0n))) (Nat.zero_le _) (Nat.zero_le _) ?_
  unfold fX9_add at hrun
  refine lv_aload_n hx hb dX9_add_0 rfl (lv_at hl 0 rfl) ?_
  refine va_get (D := (dC, dI)) (ci := 3) (v := .int (p0w 0 0)) (C := RX9) (T := TX9) (N := 6) hx hb hts i_X9 hown hK hP 0 rfl rfl 0 (by decide) (hts _ qw91) (fun _ h9 => h9) rfl dX9_add_1 ?_
  refine lv_aload_n hx hb dX9_add_4 rfl (lv_at hl 0 rfl) ?_
  refine va_get (D := (dC, dI)) (ci := 3) (v := .ref (p0a 2)) (C := RX9) (T := TX9) (N := 6) hx hb hts i_X9 hown hK hP 0 rfl rfl 1 (by decide) (hts _ qw92) (fun _ h9 => h9) rfl dX9_add_5 ?_
  refine va_alen (v := (Int32.ofNat (p0n 2))) hx hb hK hP 1 0 rfl rfl rfl dX9_add_8 ?_
  have J92 : ∀ (p0w_92 : ST) (p0n_92 : Nat → Nat) (xp0_1_92 : Nat) (zp0_1_92 : ClassId) (xp0_2_92 : Nat) (zp0_2_92 : ClassId) (xp0_3_92 : Nat) (zp0_3_92 : ClassId) (xp0_4_92 : Nat) (zp0_4_92 : ClassId) (xp0_5_92 : Nat) (zp0_5_92 : ClassId) (H : Heap) (locs : List Loc) (ls : Array Slot), (fX9_add_J92 p1 p2 p3 p4 p0w_92 p0n_92) = some o → va_P (dC, dI) cls (List.flatten ([(oX9 (p0a 0) (st1 (st1 (st1 (st1 (st1 p0a 2 xp0_1_92) 3 xp0_2_92) 4 xp0_3_92) 5 xp0_4_92) 6 xp0_5_92) (st1 (st1 (st1 (st1 (st1 p0k 2 zp0_1_92) 3 zp0_2_92) 4 zp0_3_92) 5 zp0_4_92) 6 zp0_5_92) p0n_92 p0w_92)] : List va_W)) H → va_D A (List.flatten ([(oX9 (p0a 0) (st1 (st1 (st1 (st1 (st1 p0a 2 xp0_1_92) 3 xp0_2_92) 4 xp0_3_92) 5 xp0_4_92) 6 xp0_5_92) (st1 (st1 (st1 (st1 (st1 p0k 2 zp0_1_92) 3 zp0_2_92) 4 zp0_3_92) 5 zp0_4_92) 6 zp0_5_92) p0n_92 p0w_92)] : List va_W)) → va_K (dC, dI) cls (List.flatten ([(tX9 (st1 (st1 (st1 (st1 (st1 p0k 2 zp0_1_92) 3 zp0_2_92) 4 zp0_3_92) 5 zp0_4_92) 6 zp0_5_92))] : List (List (ClassId × FieldType)))) s → va_S A s.heap H locs → lv_has ls 6 [(0, .ref (p0a 0)), (1, .int p1), (2, .int p2), (3, .int p3), (4, .int p4)] → glX9 p0n p0n_92 → W p l e ({ frames := 2, cells := (hcX9 p0n (o.2.2)), slots := (3 * (gcX9 p0n (o.2.2))), locals := 62 } : Room) s m ([.ref (p0a 0), .int p1, .int p2, .int p3, .int p4] : List Value).toArray below meth c H locs (hcX9 p0n p0n_92) (3 * (gcX9 p0n p0n_92)) Q (F0 m 92 ls []) := by
    intro p0w_92 p0n_92 xp0_1_92 zp0_1_92 xp0_2_92 zp0_2_92 xp0_3_92 zp0_3_92 xp0_4_92 zp0_4_92 xp0_5_92 zp0_5_92 H locs ls hrun hP hD hK hS hl hg_p0 
    have hgn_p0 : glX9 p0n_92 (o.2.2) := (mo_fX9_add_J92 hrun)
    unfold fX9_add_J92 at hrun
    refine lv_aload_n hx hb dX9_add_92 rfl (lv_at hl 0 rfl) ?_
    refine va_get (D := (dC, dI)) (ci := 3) (v := .ref xp0_1_92) (C := RX9) (T := TX9) (N := 6) hx hb hts i_X9 hown hK hP 0 rfl rfl 1 (by decide) (hts _ qw92) (fun _ h9 => h9) rfl dX9_add_93 ?_
    refine lv_aload_n hx hb dX9_add_96 rfl (lv_at hl 0 rfl) ?_
    refine va_get (D := (dC, dI)) (ci := 3) (v := .int (p0w_92 0 0)) (C := RX9) (T := TX9) (N := 6) hx hb hts i_X9 hown hK hP 0 rfl rfl 0 (by decide) (hts _ qw91) (fun _ h9 => h9) rfl dX9_add_97 ?_
    refine lv_iload_n hx hb dX9_add_100 rfl (lv_at hl 1 rfl) ?_
    obtain ⟨hq1, hrun⟩ := chk9 hrun
    refine va_iast hx hb hK hP hD hS 1 0 rfl rfl (ixb_in hq1) dX9_add_101 (fun H locs hP hD hS => ?_)
    have hP : va_P (dC, dI) cls (List.flatten ([(oX9 (p0a 0) (st1 (st1 (st1 (st1 (st1 p0a 2 xp0_1_92) 3 xp0_2_92) 4 xp0_3_92) 5 xp0_4_92) 6 xp0_5_92) (st1 (st1 (st1 (st1 (st1 p0k 2 zp0_1_92) 3 zp0_2_92) 4 zp0_3_92) 5 zp0_4_92) 6 zp0_5_92) p0n_92 (upw p0w_92 2 (nn (p0w_92 0 0)) p1))] : List va_W)) H := hP
    have hD : va_D A (List.flatten ([(oX9 (p0a 0) (st1 (st1 (st1 (st1 (st1 p0a 2 xp0_1_92) 3 xp0_2_92) 4 xp0_3_92) 5 xp0_4_92) 6 xp0_5_92) (st1 (st1 (st1 (st1 (st1 p0k 2 zp0_1_92) 3 zp0_2_92) 4 zp0_3_92) 5 zp0_4_92) 6 zp0_5_92) p0n_92 (upw p0w_92 2 (nn (p0w_92 0 0)) p1))] : List va_W)) := hD
    obtain ⟨w2, ew2, hrun⟩ := let9 hrun
    rw [← ew2] at hP hD
    refine lv_aload_n hx hb dX9_add_102 rfl (lv_at hl 0 rfl) ?_
    refine va_get (D := (dC, dI)) (ci := 3) (v := .ref xp0_2_92) (C := RX9) (T := TX9) (N := 6) hx hb hts i_X9 hown hK hP 0 rfl rfl 2 (by decide) (hts _ qw93) (fun _ h9 => h9) rfl dX9_add_103 ?_
    refine lv_aload_n hx hb dX9_add_106 rfl (lv_at hl 0 rfl) ?_
    refine va_get (D := (dC, dI)) (ci := 3) (v := .int (w2 0 0)) (C := RX9) (T := TX9) (N := 6) hx hb hts i_X9 hown hK hP 0 rfl rfl 0 (by decide) (hts _ qw91) (fun _ h9 => h9) rfl dX9_add_107 ?_
    refine lv_iload_n hx hb dX9_add_110 rfl (lv_at hl 2 rfl) ?_
    obtain ⟨hq3, hrun⟩ := chk9 hrun
    refine va_iast hx hb hK hP hD hS 2 1 rfl rfl (ixb_in hq3) dX9_add_111 (fun H locs hP hD hS => ?_)
    have hP : va_P (dC, dI) cls (List.flatten ([(oX9 (p0a 0) (st1 (st1 (st1 (st1 (st1 p0a 2 xp0_1_92) 3 xp0_2_92) 4 xp0_3_92) 5 xp0_4_92) 6 xp0_5_92) (st1 (st1 (st1 (st1 (st1 p0k 2 zp0_1_92) 3 zp0_2_92) 4 zp0_3_92) 5 zp0_4_92) 6 zp0_5_92) p0n_92 (upw w2 3 (nn (w2 0 0)) p2))] : List va_W)) H := hP
    have hD : va_D A (List.flatten ([(oX9 (p0a 0) (st1 (st1 (st1 (st1 (st1 p0a 2 xp0_1_92) 3 xp0_2_92) 4 xp0_3_92) 5 xp0_4_92) 6 xp0_5_92) (st1 (st1 (st1 (st1 (st1 p0k 2 zp0_1_92) 3 zp0_2_92) 4 zp0_3_92) 5 zp0_4_92) 6 zp0_5_92) p0n_92 (upw w2 3 (nn (w2 0 0)) p2))] : List va_W)) := hD
    obtain ⟨w4, ew4, hrun⟩ := let9 hrun
    rw [← ew4] at hP hD
    refine lv_aload_n hx hb dX9_add_112 rfl (lv_at hl 0 rfl) ?_
    refine va_get (D := (dC, dI)) (ci := 3) (v := .ref xp0_3_92) (C := RX9) (T := TX9) (N := 6) hx hb hts i_X9 hown hK hP 0 rfl rfl 3 (by decide) (hts _ qw94) (fun _ h9 => h9) rfl dX9_add_113 ?_
    refine lv_aload_n hx hb dX9_add_116 rfl (lv_at hl 0 rfl) ?_
    refine va_get (D := (dC, dI)) (ci := 3) (v := .int (w4 0 0)) (C := RX9) (T := TX9) (N := 6) hx hb hts i_X9 hown hK hP 0 rfl rfl 0 (by decide) (hts _ qw91) (fun _ h9 => h9) rfl dX9_add_117 ?_
    refine lv_iload_n hx hb dX9_add_120 rfl (lv_at hl 3 rfl) ?_
    obtain ⟨hq5, hrun⟩ := chk9 hrun
    refine va_iast hx hb hK hP hD hS 3 2 rfl rfl (ixb_in hq5) dX9_add_121 (fun H locs hP hD hS => ?_)
    have hP : va_P (dC, dI) cls (List.flatten ([(oX9 (p0a 0) (st1 (st1 (st1 (st1 (st1 p0a 2 xp0_1_92) 3 xp0_2_92) 4 xp0_3_92) 5 xp0_4_92) 6 xp0_5_92) (st1 (st1 (st1 (st1 (st1 p0k 2 zp0_1_92) 3 zp0_2_92) 4 zp0_3_92) 5 zp0_4_92) 6 zp0_5_92) p0n_92 (upw w4 4 (nn (w4 0 0)) p3))] : List va_W)) H := hP
    have hD : va_D A (List.flatten ([(oX9 (p0a 0) (st1 (st1 (st1 (st1 (st1 p0a 2 xp0_1_92) 3 xp0_2_92) 4 xp0_3_92) 5 xp0_4_92) 6 xp0_5_92) (st1 (st1 (st1 (st1 (st1 p0k 2 zp0_1_92) 3 zp0_2_92) 4 zp0_3_92) 5 zp0_4_92) 6 zp0_5_92) p0n_92 (upw w4 4 (nn (w4 0 0)) p3))] : List va_W)) := hD
    obtain ⟨w6, ew6, hrun⟩ := let9 hrun
    rw [← ew6] at hP hD
    refine lv_aload_n hx hb dX9_add_122 rfl (lv_at hl 0 rfl) ?_
    refine va_get (D := (dC, dI)) (ci := 3) (v := .ref xp0_4_92) (C := RX9) (T := TX9) (N := 6) hx hb hts i_X9 hown hK hP 0 rfl rfl 4 (by decide) (hts _ qw95) (fun _ h9 => h9) rfl dX9_add_123 ?_
    refine lv_aload_n hx hb dX9_add_126 rfl (lv_at hl 0 rfl) ?_
    refine va_get (D := (dC, dI)) (ci := 3) (v := .int (w6 0 0)) (C := RX9) (T := TX9) (N := 6) hx hb hts i_X9 hown hK hP 0 rfl rfl 0 (by decide) (hts _ qw91) (fun _ h9 => h9) rfl dX9_add_127 ?_
    refine lv_iload hx hb dX9_add_130 (lv_at hl 4 rfl) ?_
    obtain ⟨hq7, hrun⟩ := chk9 hrun
    refine va_iast hx hb hK hP hD hS 4 3 rfl rfl (ixb_in hq7) dX9_add_132 (fun H locs hP hD hS => ?_)
    have hP : va_P (dC, dI) cls (List.flatten ([(oX9 (p0a 0) (st1 (st1 (st1 (st1 (st1 p0a 2 xp0_1_92) 3 xp0_2_92) 4 xp0_3_92) 5 xp0_4_92) 6 xp0_5_92) (st1 (st1 (st1 (st1 (st1 p0k 2 zp0_1_92) 3 zp0_2_92) 4 zp0_3_92) 5 zp0_4_92) 6 zp0_5_92) p0n_92 (upw w6 5 (nn (w6 0 0)) p4))] : List va_W)) H := hP
    have hD : va_D A (List.flatten ([(oX9 (p0a 0) (st1 (st1 (st1 (st1 (st1 p0a 2 xp0_1_92) 3 xp0_2_92) 4 xp0_3_92) 5 xp0_4_92) 6 xp0_5_92) (st1 (st1 (st1 (st1 (st1 p0k 2 zp0_1_92) 3 zp0_2_92) 4 zp0_3_92) 5 zp0_4_92) 6 zp0_5_92) p0n_92 (upw w6 5 (nn (w6 0 0)) p4))] : List va_W)) := hD
    obtain ⟨w8, ew8, hrun⟩ := let9 hrun
    rw [← ew8] at hP hD
    refine lv_aload_n hx hb dX9_add_133 rfl (lv_at hl 0 rfl) ?_
    refine va_get (D := (dC, dI)) (ci := 3) (v := .ref xp0_5_92) (C := RX9) (T := TX9) (N := 6) hx hb hts i_X9 hown hK hP 0 rfl rfl 5 (by decide) (hts _ qw96) (fun _ h9 => h9) rfl dX9_add_134 ?_
    refine lv_aload_n hx hb dX9_add_137 rfl (lv_at hl 0 rfl) ?_
    refine va_get (D := (dC, dI)) (ci := 3) (v := .int (w8 0 0)) (C := RX9) (T := TX9) (N := 6) hx hb hts i_X9 hown hK hP 0 rfl rfl 0 (by decide) (hts _ qw91) (fun _ h9 => h9) rfl dX9_add_138 ?_
    refine lv_iconst (v := (-1)) hx hb dX9_add_141 (by decide) ?_
    obtain ⟨hq9, hrun⟩ := chk9 hrun
    refine va_iast hx hb hK hP hD hS 5 4 rfl rfl (ixb_in hq9) dX9_add_142 (fun H locs hP hD hS => ?_)
    have hP : va_P (dC, dI) cls (List.flatten ([(oX9 (p0a 0) (st1 (st1 (st1 (st1 (st1 p0a 2 xp0_1_92) 3 xp0_2_92) 4 xp0_3_92) 5 xp0_4_92) 6 xp0_5_92) (st1 (st1 (st1 (st1 (st1 p0k 2 zp0_1_92) 3 zp0_2_92) 4 zp0_3_92) 5 zp0_4_92) 6 zp0_5_92) p0n_92 (upw w8 6 (nn (w8 0 0)) (-1)))] : List va_W)) H := hP
    have hD : va_D A (List.flatten ([(oX9 (p0a 0) (st1 (st1 (st1 (st1 (st1 p0a 2 xp0_1_92) 3 xp0_2_92) 4 xp0_3_92) 5 xp0_4_92) 6 xp0_5_92) (st1 (st1 (st1 (st1 (st1 p0k 2 zp0_1_92) 3 zp0_2_92) 4 zp0_3_92) 5 zp0_4_92) 6 zp0_5_92) p0n_92 (upw w8 6 (nn (w8 0 0)) (-1)))] : List va_W)) := hD
    obtain ⟨w10, ew10, hrun⟩ := let9 hrun
    rw [← ew10] at hP hD
    refine lv_aload_n hx hb dX9_add_143 rfl (lv_at hl 0 rfl) ?_
    refine lv_dup hx hb dX9_add_144 rfl ?_
    refine va_get (D := (dC, dI)) (ci := 3) (v := .int (w10 0 0)) (C := RX9) (T := TX9) (N := 6) hx hb hts i_X9 hown hK hP 0 rfl rfl 0 (by decide) (hts _ qw91) (fun _ h9 => h9) rfl dX9_add_145 ?_
    refine lv_iconst (v := 1) hx hb dX9_add_148 (by decide) ?_
    refine lv_iadd hx hb dX9_add_149 ?_
    refine va_put (D := (dC, dI)) (ci := 3) (v := .int ((w10 0 0) + 1)) (ty := .int) (C := RX9) (T := TX9) (N := 6) hx hb hts i_X9 tyX9 tyX9_ok nmX9 hown hK hP hD hS 0 rfl rfl 0 (by decide) (hts _ qw91) (fun _ h9 => h9) rfl (by decide +kernel) rfl rfl (Nat.le_of_ble_eq_true rfl) dX9_add_150 (fun H locs hP hD hS => ?_)
    have hP : va_P (dC, dI) cls (List.flatten ([(oX9 (p0a 0) (st1 (st1 (st1 (st1 (st1 p0a 2 xp0_1_92) 3 xp0_2_92) 4 xp0_3_92) 5 xp0_4_92) 6 xp0_5_92) (st1 (st1 (st1 (st1 (st1 p0k 2 zp0_1_92) 3 zp0_2_92) 4 zp0_3_92) 5 zp0_4_92) 6 zp0_5_92) p0n_92 (upw w10 0 0 ((w10 0 0) + 1)))] : List va_W)) H := hP
    have hD : va_D A (List.flatten ([(oX9 (p0a 0) (st1 (st1 (st1 (st1 (st1 p0a 2 xp0_1_92) 3 xp0_2_92) 4 xp0_3_92) 5 xp0_4_92) 6 xp0_5_92) (st1 (st1 (st1 (st1 (st1 p0k 2 zp0_1_92) 3 zp0_2_92) 4 zp0_3_92) 5 zp0_4_92) 6 zp0_5_92) p0n_92 (upw w10 0 0 ((w10 0 0) + 1)))] : List va_W)) := hD
    obtain ⟨w11, ew11, hrun⟩ := let9 hrun
    rw [← ew11] at hP hD
    refine lv_aload_n hx hb dX9_add_153 rfl (lv_at hl 0 rfl) ?_
    refine va_get (D := (dC, dI)) (ci := 3) (v := .int (w11 0 0)) (C := RX9) (T := TX9) (N := 6) hx hb hts i_X9 hown hK hP 0 rfl rfl 0 (by decide) (hts _ qw91) (fun _ h9 => h9) rfl dX9_add_154 ?_
    refine lv_iconst (v := 1) hx hb dX9_add_157 (by decide) ?_
    refine lv_isub hx hb dX9_add_158 ?_
    have ho9 : (((w11 0 0) - 1), w11, p0n_92) = o := Option.some.inj hrun
    subst ho9
    subst hQ
    exact W.iret (v := ((w11 0 0) - 1)) hx hb hr (fun t ht hW => ⟨⟨((w11 0 0) - 1), (), rfl, rfl, ⟨xp0_1_92, zp0_1_92, xp0_2_92, zp0_2_92, xp0_3_92, zp0_3_92, xp0_4_92, zp0_4_92, xp0_5_92, zp0_5_92, by rw [ht]; exact hP, va_K.moved hW.alike hK, hD⟩⟩, hS.F ht⟩) hS.2.2 dX9_add_159
  rcases br9 hrun with ⟨hc12, hrun⟩ | ⟨hc12, hrun⟩
  · refine lv_icmp_lt (tgt := 92) hx hb dX9_add_9 (by decide) (fun _ => ?_) (fun c => absurd hc12 c)
    exact J92 p0w p0n (p0a 2) (p0k 2) (p0a 3) (p0k 3) (p0a 4) (p0k 4) (p0a 5) (p0k 5) (p0a 6) (p0k 6) _ _ _ hrun hP hD hK hS (lv_sub hl [0, 1, 2, 3, 4] rfl) hg_p0
  · refine lv_icmp_lt (tgt := 92) hx hb dX9_add_9 (by decide) (fun c => absurd c hc12) (fun _ => ?_)
    refine lv_aload_n hx hb dX9_add_12 rfl (lv_at hl 0 rfl) ?_
    refine va_get (D := (dC, dI)) (ci := 3) (v := .int (p0w 0 0)) (C := RX9) (T := TX9) (N := 6) hx hb hts i_X9 hown hK hP 0 rfl rfl 0 (by decide) (hts _ qw91) (fun _ h9 => h9) rfl dX9_add_13 ?_
    refine lv_aload_n hx hb dX9_add_16 rfl (lv_at hl 0 rfl) ?_
    refine va_get (D := (dC, dI)) (ci := 3) (v := .int (p0w 0 0)) (C := RX9) (T := TX9) (N := 6) hx hb hts i_X9 hown hK hP 0 rfl rfl 0 (by decide) (hts _ qw91) (fun _ h9 => h9) rfl dX9_add_17 ?_
    refine lv_iconst (v := 2) hx hb dX9_add_20 (by decide) ?_
    refine lv_idiv hx hb dX9_add_21 (by decide) ?_
    refine lv_iadd hx hb dX9_add_22 ?_
    refine lv_iconst (v := 1) hx hb dX9_add_23 (by decide) ?_
    refine lv_iadd hx hb dX9_add_24 ?_
    refine lv_istore (lv' := [(5, .int (((p0w 0 0) + ((p0w 0 0) / 2)) + 1)), (0, .ref (p0a 0)), (1, .int p1), (2, .int p2), (3, .int p3), (4, .int p4)]) hx hb dX9_add_25 hl (by decide) rfl (fun ls hl => ?_)
    refine lv_aload_n hx hb dX9_add_27 rfl (lv_at hl 1 rfl) ?_
    refine lv_aload_n hx hb dX9_add_28 rfl (lv_at hl 1 rfl) ?_
    refine va_get (D := (dC, dI)) (ci := 3) (v := .ref (p0a 2)) (C := RX9) (T := TX9) (N := 6) hx hb hts i_X9 hown hK hP 0 rfl rfl 1 (by decide) (hts _ qw92) (fun _ h9 => h9) rfl dX9_add_29 ?_
    refine lv_iload hx hb dX9_add_32 (lv_at hl 0 rfl) ?_
    obtain ⟨o_13, hc_13, hrun⟩ := bnd9 hrun
    obtain ⟨hq14, hrun⟩ := chk9 hrun
    have hlo_13 := ln_fJ7_copyOf_59c91 hc_13
    obtain ⟨n15, en15, hrun⟩ := let9 hrun
    obtain ⟨w16, ew16, hrun⟩ := let9 hrun
    have hst18 : glX9 p0n n15 := by rw [en15]; exact glX9_2 (grs_le hq14)
    have hgn_p0 : glX9 n15 (o.2.2) := (mo_fX9_add_G40_19 hrun)
    have hP2 : va_P (dC, dI) cls (List.flatten ([[((p0a 2), .inl ((p0k 2), (p0n 2), .inl (p0w 2)))], [((p0a 0), .inr (3, [.int (p0w 0 0), .ref (p0a 2), .ref (p0a 3), .ref (p0a 4), .ref (p0a 5), .ref (p0a 6)])), ((p0a 3), .inl ((p0k 3), (p0n 3), .inl (p0w 3))), ((p0a 4), .inl ((p0k 4), (p0n 4), .inl (p0w 4))), ((p0a 5), .inl ((p0k 5), (p0n 5), .inl (p0w 5))), ((p0a 6), .inl ((p0k 6), (p0n 6), .inl (p0w 6)))]] : List va_W)) H := vP_perm hP ((bP (List.Perm.refl _)).trans (List.Perm.append_right _ (List.perm_middle (a := (((p0a 2), .inl ((p0k 2), (p0n 2), .inl (p0w 2))) : Nat × va_E)) (l₁ := ([((p0a 0), .inr (3, [.int (p0w 0 0), .ref (p0a 2), .ref (p0a 3), .ref (p0a 4), .ref (p0a 5), .ref (p0a 6)]))] : va_W)) (l₂ := ([((p0a 3), .inl ((p0k 3), (p0n 3), .inl (p0w 3))), ((p0a 4), .inl ((p0k 4), (p0n 4), .inl (p0w 4))), ((p0a 5), .inl ((p0k 5), (p0n 5), .inl (p0w 5))), ((p0a 6), .inl ((p0k 6), (p0n 6), .inl (p0w 6)))] : va_W)))))
    have hD2 : va_D A (List.flatten ([[((p0a 2), .inl ((p0k 2), (p0n 2), .inl (p0w 2)))], [((p0a 0), .inr (3, [.int (p0w 0 0), .ref (p0a 2), .ref (p0a 3), .ref (p0a 4), .ref (p0a 5), .ref (p0a 6)])), ((p0a 3), .inl ((p0k 3), (p0n 3), .inl (p0w 3))), ((p0a 4), .inl ((p0k 4), (p0n 4), .inl (p0w 4))), ((p0a 5), .inl ((p0k 5), (p0n 5), .inl (p0w 5))), ((p0a 6), .inl ((p0k 6), (p0n 6), .inl (p0w 6)))]] : List va_W)) := vD_perm hD ((bP (List.Perm.refl _)).trans (List.Perm.append_right _ (List.perm_middle (a := (((p0a 2), .inl ((p0k 2), (p0n 2), .inl (p0w 2))) : Nat × va_E)) (l₁ := ([((p0a 0), .inr (3, [.int (p0w 0 0), .ref (p0a 2), .ref (p0a 3), .ref (p0a 4), .ref (p0a 5), .ref (p0a 6)]))] : va_W)) (l₂ := ([((p0a 3), .inl ((p0k 3), (p0n 3), .inl (p0w 3))), ((p0a 4), .inl ((p0k 4), (p0n 4), .inl (p0w 4))), ((p0a 5), .inl ((p0k 5), (p0n 5), .inl (p0w 5))), ((p0a 6), .inl ((p0k 6), (p0n 6), .inl (p0w 6)))] : va_W)))))
    have hK2 : va_K (dC, dI) cls (List.flatten ([[((p0k 2), .int)], [((p0k 3), .int), ((p0k 4), .int), ((p0k 5), .int), ((p0k 6), .int)]] : List (List (ClassId × FieldType)))) s := vK_perm hK ((bP (List.Perm.refl _)).trans (List.Perm.append_right _ (List.perm_middle (a := (((p0k 2), .int) : ClassId × FieldType)) (l₁ := ([] : List (ClassId × FieldType))) (l₂ := ([((p0k 3), .int), ((p0k 4), .int), ((p0k 5), .int), ((p0k 6), .int)] : List (ClassId × FieldType))))))
    have hPx : va_P (dC, dI) cls ((List.flatten ([[((p0a 2), .inl ((p0k 2), (p0n 2), .inl (p0w 2)))]] : List va_W)) ++ (List.flatten ([[((p0a 0), .inr (3, [.int (p0w 0 0), .ref (p0a 2), .ref (p0a 3), .ref (p0a 4), .ref (p0a 5), .ref (p0a 6)])), ((p0a 3), .inl ((p0k 3), (p0n 3), .inl (p0w 3))), ((p0a 4), .inl ((p0k 4), (p0n 4), .inl (p0w 4))), ((p0a 5), .inl ((p0k 5), (p0n 5), .inl (p0w 5))), ((p0a 6), .inl ((p0k 6), (p0n 6), .inl (p0w 6)))]] : List va_W))) H := vP_fa (vP_perm hP2 (bP (List.Perm.refl _)))
    have hDx : va_D A ((List.flatten ([[((p0a 2), .inl ((p0k 2), (p0n 2), .inl (p0w 2)))]] : List va_W)) ++ (List.flatten ([[((p0a 0), .inr (3, [.int (p0w 0 0), .ref (p0a 2), .ref (p0a 3), .ref (p0a 4), .ref (p0a 5), .ref (p0a 6)])), ((p0a 3), .inl ((p0k 3), (p0n 3), .inl (p0w 3))), ((p0a 4), .inl ((p0k 4), (p0n 4), .inl (p0w 4))), ((p0a 5), .inl ((p0k 5), (p0n 5), .inl (p0w 5))), ((p0a 6), .inl ((p0k 6), (p0n 6), .inl (p0w 6)))]] : List va_W))) := vD_fa (vD_perm hD2 (bP (List.Perm.refl _)))
    have hKx : va_K (dC, dI) cls ((List.flatten ([[((p0k 2), .int)]] : List (List (ClassId × FieldType)))) ++ (List.flatten ([[((p0k 3), .int), ((p0k 4), .int), ((p0k 5), .int), ((p0k 6), .int)]] : List (List (ClassId × FieldType))))) s := vK_fa (vK_perm hK2 (bP (List.Perm.refl _)))
    have hPc := vP_l hPx
    have hDc := vD_l hDx
    have hKc := vK_l hKx
    have hFc := vfree hDx hS hA
    refine va_callr (va_runS (As := [.ref (p0a 2), .int (((p0w 0 0) + ((p0w 0 0) / 2)) + 1)]) (rest := [.ref (p0a 0)]) ⟨hx, hb, hml, hown, hts⟩ (kJ7_copyOf_59c91 l dC dI (p0a := (p0a 2)) (p0k := (p0k 2)) (p0n := (p0n 2)) (p0f := (p0w 2)) (p1 := (((p0w 0 0) + ((p0w 0 0) / 2)) + 1)) (sz := _) (o := o_13) (hrun := hc_13)) (va_cwS 2 hts (gi_S qw107 qw108 qw109 (gi_z qw106)) rfl rfl rfl (by decide +kernel) ⟨Nat.le_of_ble_eq_true rfl, Nat.le_of_ble_eq_true rfl⟩) ⟨PRE.blind, PRE.of hE hS hFc hPc hKc hDc⟩ rfl rfl hl.1 rfl (lv_room (Nat.le_of_ble_eq_true rfl)) dX9_add_34 ⟨(show (hcX9 p0n p0n) + 1 ≤ (hcX9 p0n (o.2.2)) from by have q0 := gsX9 hg_p0 hst18 hgn_p0; have q5 := gcX9_2 (n := p0n) (grs_le hq14); rw [← en15] at q5; have q6 := grs_1 hq14; have q7 := grs_2 hq14; have q9 := grs_3 hq14; have q8 := hlo_13; omega), (show (3 * (gcX9 p0n p0n)) + (nn (((p0w 0 0) + ((p0w 0 0) / 2)) + 1)) ≤ (3 * (gcX9 p0n (o.2.2))) from by have q0 := gsX9 hg_p0 hst18 hgn_p0; have q5 := gcX9_2 (n := p0n) (grs_le hq14); rw [← en15] at q5; have q6 := grs_1 hq14; have q7 := grs_2 hq14; have q9 := grs_3 hq14; have q8 := hlo_13; omega)⟩) hS (fun q _ h => hFc q h) hFc (fun u ra18 t H locs ht hvm hw hB hz1 hk1 hS => ?_)
    obtain ⟨z17, hB⟩ := hB
    obtain ⟨b1, b2, b3⟩ := hB
    rw [ht] at b1
    obtain ⟨hP, hD, hK⟩ := JOINC (wc := (List.flatten ([[((p0a 2), .inl ((p0k 2), (p0n 2), .inl (p0w 2)))]] : List va_W))) (wr := (List.flatten ([[((p0a 0), .inr (3, [.int (p0w 0 0), .ref (p0a 2), .ref (p0a 3), .ref (p0a 4), .ref (p0a 5), .ref (p0a 6)])), ((p0a 3), .inl ((p0k 3), (p0n 3), .inl (p0w 3))), ((p0a 4), .inl ((p0k 4), (p0n 4), .inl (p0w 4))), ((p0a 5), .inl ((p0k 5), (p0n 5), .inl (p0w 5))), ((p0a 6), .inl ((p0k 6), (p0n 6), .inl (p0w 6)))]] : List va_W))) (w1 := [(ra18, .inl (z17, o_13.1, .inl o_13.2))]) (t1 := [(z17, .int)]) hPx hDx hKx hk1 hFc b1 (va_K.moved hvm.symm b2) b3
    refine va_put (D := (dC, dI)) (ci := 3) (v := .ref ra18) (ty := .array .int) (C := RX9) (T := TX9) (N := 6) hx hb hts i_X9 tyX9 tyX9_ok nmX9 hown hK hP hD hS 1 rfl rfl 1 (by decide) (hts _ qw92) (fun _ h9 => h9) rfl (by decide +kernel) rfl rfl (Nat.le_of_ble_eq_true rfl) dX9_add_37 (fun H locs hP hD hS => ?_)
    have hP : va_P (dC, dI) cls (List.flatten ([[(ra18, .inl (z17, (n15 2), .inl (w16 2)))], [((p0a 0), .inr (3, [.int (w16 0 0), .ref ra18, .ref (p0a 3), .ref (p0a 4), .ref (p0a 5), .ref (p0a 6)])), ((p0a 3), .inl ((p0k 3), (n15 3), .inl (w16 3))), ((p0a 4), .inl ((p0k 4), (n15 4), .inl (w16 4))), ((p0a 5), .inl ((p0k 5), (n15 5), .inl (w16 5))), ((p0a 6), .inl ((p0k 6), (n15 6), .inl (w16 6)))]] : List va_W)) H := by rw [en15, ew16]; exact hP
    have hD : va_D A (List.flatten ([[(ra18, .inl (z17, (n15 2), .inl (w16 2)))], [((p0a 0), .inr (3, [.int (w16 0 0), .ref ra18, .ref (p0a 3), .ref (p0a 4), .ref (p0a 5), .ref (p0a 6)])), ((p0a 3), .inl ((p0k 3), (n15 3), .inl (w16 3))), ((p0a 4), .inl ((p0k 4), (n15 4), .inl (w16 4))), ((p0a 5), .inl ((p0k 5), (n15 5), .inl (w16 5))), ((p0a 6), .inl ((p0k 6), (n15 6), .inl (w16 6)))]] : List va_W)) := by rw [en15, ew16]; exact hD
    have hK : va_K (dC, dI) cls (List.flatten ([[(z17, .int)], [((p0k 3), .int), ((p0k 4), .int), ((p0k 5), .int), ((p0k 6), .int)]] : List (List (ClassId × FieldType)))) s := hK
    have hP3 : va_P (dC, dI) cls (List.flatten ([(oX9 (p0a 0) (st1 p0a 2 ra18) (st1 p0k 2 z17) n15 w16)] : List va_W)) H := vP_perm hP ((bP (List.Perm.refl _)).trans (List.Perm.append_right _ (List.perm_middle (a := ((ra18, .inl (z17, (n15 2), .inl (w16 2))) : Nat × va_E)) (l₁ := ([((p0a 0), .inr (3, [.int (w16 0 0), .ref ra18, .ref (p0a 3), .ref (p0a 4), .ref (p0a 5), .ref (p0a 6)]))] : va_W)) (l₂ := ([((p0a 3), .inl ((p0k 3), (n15 3), .inl (w16 3))), ((p0a 4), .inl ((p0k 4), (n15 4), .inl (w16 4))), ((p0a 5), .inl ((p0k 5), (n15 5), .inl (w16 5))), ((p0a 6), .inl ((p0k 6), (n15 6), .inl (w16 6)))] : va_W))).symm))
    have hD3 : va_D A (List.flatten ([(oX9 (p0a 0) (st1 p0a 2 ra18) (st1 p0k 2 z17) n15 w16)] : List va_W)) := vD_perm hD ((bP (List.Perm.refl _)).trans (List.Perm.append_right _ (List.perm_middle (a := ((ra18, .inl (z17, (n15 2), .inl (w16 2))) : Nat × va_E)) (l₁ := ([((p0a 0), .inr (3, [.int (w16 0 0), .ref ra18, .ref (p0a 3), .ref (p0a 4), .ref (p0a 5), .ref (p0a 6)]))] : va_W)) (l₂ := ([((p0a 3), .inl ((p0k 3), (n15 3), .inl (w16 3))), ((p0a 4), .inl ((p0k 4), (n15 4), .inl (w16 4))), ((p0a 5), .inl ((p0k 5), (n15 5), .inl (w16 5))), ((p0a 6), .inl ((p0k 6), (n15 6), .inl (w16 6)))] : va_W))).symm))
    have hK3 : va_K (dC, dI) cls (List.flatten ([(tX9 (st1 p0k 2 z17))] : List (List (ClassId × FieldType)))) s := vK_perm hK ((bP (List.Perm.refl _)).trans (List.Perm.append_right _ (List.perm_middle (a := ((z17, .int) : ClassId × FieldType)) (l₁ := ([] : List (ClassId × FieldType))) (l₂ := ([((p0k 3), .int), ((p0k 4), .int), ((p0k 5), .int), ((p0k 6), .int)] : List (ClassId × FieldType)))).symm))
    have hP : va_P (dC, dI) cls (List.flatten ([(oX9 (p0a 0) (st1 p0a 2 ra18) (st1 p0k 2 z17) n15 w16)] : List va_W)) H := vP_perm hP3 (bP (List.Perm.refl _))
    have hD : va_D A (List.flatten ([(oX9 (p0a 0) (st1 p0a 2 ra18) (st1 p0k 2 z17) n15 w16)] : List va_W)) := vD_perm hD3 (bP (List.Perm.refl _))
    have hK : va_K (dC, dI) cls (List.flatten ([(tX9 (st1 p0k 2 z17))] : List (List (ClassId × FieldType)))) s := vK_perm hK3 (bP (List.Perm.refl _))
    refine W.widen (k := (hcX9 p0n n15)) (n := (3 * (gcX9 p0n n15))) (by have a0 := gcX9_add hg_p0 hst18; have q5 := gcX9_2 (n := p0n) (grs_le hq14); rw [← en15] at q5; have q6 := grs_1 hq14; have q7 := grs_2 hq14; have q9 := grs_3 hq14; have q8 := hlo_13; omega) (by have a0 := gcX9_add hg_p0 hst18; have q5 := gcX9_2 (n := p0n) (grs_le hq14); rw [← en15] at q5; have q6 := grs_1 hq14; have q7 := grs_2 hq14; have q9 := grs_3 hq14; have q8 := hlo_13; omega) ?_
    have hg_p0 : glX9 p0n n15 := glX9_tr hg_p0 hst18
    unfold fX9_add_G40_19 at hrun
    refine lv_aload_n hx hb dX9_add_40 rfl (lv_at hl 1 rfl) ?_
    refine lv_aload_n hx hb dX9_add_41 rfl (lv_at hl 1 rfl) ?_
    refine va_get (D := (dC, dI)) (ci := 3) (v := .ref (p0a 3)) (C := RX9) (T := TX9) (N := 6) hx hb hts i_X9 hown hK hP 0 rfl rfl 2 (by decide) (hts _ qw93) (fun _ h9 => h9) rfl dX9_add_42 ?_
    refine lv_iload hx hb dX9_add_45 (lv_at hl 0 rfl) ?_
    obtain ⟨o_20, hc_20, hrun⟩ := bnd9 hrun
    obtain ⟨hq21, hrun⟩ := chk9 hrun
    have hlo_20 := ln_fJ7_copyOf_59c91 hc_20
    obtain ⟨n22, en22, hrun⟩ := let9 hrun
    obtain ⟨w23, ew23, hrun⟩ := let9 hrun
    have hst25 : glX9 n15 n22 := by rw [en22]; exact glX9_3 (grs_le hq21)
    have hgn_p0 : glX9 n22 (o.2.2) := (mo_fX9_add_G53_26 hrun)
    have hP2 : va_P (dC, dI) cls (List.flatten ([[((p0a 3), .inl ((p0k 3), (n15 3), .inl (w16 3)))], [((p0a 0), .inr (3, [.int (w16 0 0), .ref ra18, .ref (p0a 3), .ref (p0a 4), .ref (p0a 5), .ref (p0a 6)])), (ra18, .inl (z17, (n15 2), .inl (w16 2))), ((p0a 4), .inl ((p0k 4), (n15 4), .inl (w16 4))), ((p0a 5), .inl ((p0k 5), (n15 5), .inl (w16 5))), ((p0a 6), .inl ((p0k 6), (n15 6), .inl (w16 6)))]] : List va_W)) H := vP_perm hP ((bP (List.Perm.refl _)).trans (List.Perm.append_right _ (List.perm_middle (a := (((p0a 3), .inl ((p0k 3), (n15 3), .inl (w16 3))) : Nat × va_E)) (l₁ := ([((p0a 0), .inr (3, [.int (w16 0 0), .ref ra18, .ref (p0a 3), .ref (p0a 4), .ref (p0a 5), .ref (p0a 6)])), (ra18, .inl (z17, (n15 2), .inl (w16 2)))] : va_W)) (l₂ := ([((p0a 4), .inl ((p0k 4), (n15 4), .inl (w16 4))), ((p0a 5), .inl ((p0k 5), (n15 5), .inl (w16 5))), ((p0a 6), .inl ((p0k 6), (n15 6), .inl (w16 6)))] : va_W)))))
    have hD2 : va_D A (List.flatten ([[((p0a 3), .inl ((p0k 3), (n15 3), .inl (w16 3)))], [((p0a 0), .inr (3, [.int (w16 0 0), .ref ra18, .ref (p0a 3), .ref (p0a 4), .ref (p0a 5), .ref (p0a 6)])), (ra18, .inl (z17, (n15 2), .inl (w16 2))), ((p0a 4), .inl ((p0k 4), (n15 4), .inl (w16 4))), ((p0a 5), .inl ((p0k 5), (n15 5), .inl (w16 5))), ((p0a 6), .inl ((p0k 6), (n15 6), .inl (w16 6)))]] : List va_W)) := vD_perm hD ((bP (List.Perm.refl _)).trans (List.Perm.append_right _ (List.perm_middle (a := (((p0a 3), .inl ((p0k 3), (n15 3), .inl (w16 3))) : Nat × va_E)) (l₁ := ([((p0a 0), .inr (3, [.int (w16 0 0), .ref ra18, .ref (p0a 3), .ref (p0a 4), .ref (p0a 5), .ref (p0a 6)])), (ra18, .inl (z17, (n15 2), .inl (w16 2)))] : va_W)) (l₂ := ([((p0a 4), .inl ((p0k 4), (n15 4), .inl (w16 4))), ((p0a 5), .inl ((p0k 5), (n15 5), .inl (w16 5))), ((p0a 6), .inl ((p0k 6), (n15 6), .inl (w16 6)))] : va_W)))))
    have hK2 : va_K (dC, dI) cls (List.flatten ([[((p0k 3), .int)], [(z17, .int), ((p0k 4), .int), ((p0k 5), .int), ((p0k 6), .int)]] : List (List (ClassId × FieldType)))) s := vK_perm hK ((bP (List.Perm.refl _)).trans (List.Perm.append_right _ (List.perm_middle (a := (((p0k 3), .int) : ClassId × FieldType)) (l₁ := ([(z17, .int)] : List (ClassId × FieldType))) (l₂ := ([((p0k 4), .int), ((p0k 5), .int), ((p0k 6), .int)] : List (ClassId × FieldType))))))
    have hPx : va_P (dC, dI) cls ((List.flatten ([[((p0a 3), .inl ((p0k 3), (n15 3), .inl (w16 3)))]] : List va_W)) ++ (List.flatten ([[((p0a 0), .inr (3, [.int (w16 0 0), .ref ra18, .ref (p0a 3), .ref (p0a 4), .ref (p0a 5), .ref (p0a 6)])), (ra18, .inl (z17, (n15 2), .inl (w16 2))), ((p0a 4), .inl ((p0k 4), (n15 4), .inl (w16 4))), ((p0a 5), .inl ((p0k 5), (n15 5), .inl (w16 5))), ((p0a 6), .inl ((p0k 6), (n15 6), .inl (w16 6)))]] : List va_W))) H := vP_fa (vP_perm hP2 (bP (List.Perm.refl _)))
    have hDx : va_D A ((List.flatten ([[((p0a 3), .inl ((p0k 3), (n15 3), .inl (w16 3)))]] : List va_W)) ++ (List.flatten ([[((p0a 0), .inr (3, [.int (w16 0 0), .ref ra18, .ref (p0a 3), .ref (p0a 4), .ref (p0a 5), .ref (p0a 6)])), (ra18, .inl (z17, (n15 2), .inl (w16 2))), ((p0a 4), .inl ((p0k 4), (n15 4), .inl (w16 4))), ((p0a 5), .inl ((p0k 5), (n15 5), .inl (w16 5))), ((p0a 6), .inl ((p0k 6), (n15 6), .inl (w16 6)))]] : List va_W))) := vD_fa (vD_perm hD2 (bP (List.Perm.refl _)))
    have hKx : va_K (dC, dI) cls ((List.flatten ([[((p0k 3), .int)]] : List (List (ClassId × FieldType)))) ++ (List.flatten ([[(z17, .int), ((p0k 4), .int), ((p0k 5), .int), ((p0k 6), .int)]] : List (List (ClassId × FieldType))))) s := vK_fa (vK_perm hK2 (bP (List.Perm.refl _)))
    have hPc := vP_l hPx
    have hDc := vD_l hDx
    have hKc := vK_l hKx
    have hFc := vfree hDx hS hA
    refine va_callr (va_runS (As := [.ref (p0a 3), .int (((p0w 0 0) + ((p0w 0 0) / 2)) + 1)]) (rest := [.ref (p0a 0)]) ⟨hx, hb, hml, hown, hts⟩ (kJ7_copyOf_59c91 l dC dI (p0a := (p0a 3)) (p0k := (p0k 3)) (p0n := (n15 3)) (p0f := (w16 3)) (p1 := (((p0w 0 0) + ((p0w 0 0) / 2)) + 1)) (sz := _) (o := o_20) (hrun := hc_20)) (va_cwS 2 hts (gi_S qw107 qw108 qw109 (gi_z qw106)) rfl rfl rfl (by decide +kernel) ⟨Nat.le_of_ble_eq_true rfl, Nat.le_of_ble_eq_true rfl⟩) ⟨PRE.blind, PRE.of hE hS hFc hPc hKc hDc⟩ rfl rfl hl.1 rfl (lv_room (Nat.le_of_ble_eq_true rfl)) dX9_add_47 ⟨(show (hcX9 p0n n15) + 1 ≤ (hcX9 p0n (o.2.2)) from by have q0 := gsX9 hg_p0 hst25 hgn_p0; have q5 := gcX9_3 (n := n15) (grs_le hq21); rw [← en22] at q5; have q6 := grs_1 hq21; have q7 := grs_2 hq21; have q9 := grs_3 hq21; have q8 := hlo_20; omega), (show (3 * (gcX9 p0n n15)) + (nn (((p0w 0 0) + ((p0w 0 0) / 2)) + 1)) ≤ (3 * (gcX9 p0n (o.2.2))) from by have q0 := gsX9 hg_p0 hst25 hgn_p0; have q5 := gcX9_3 (n := n15) (grs_le hq21); rw [← en22] at q5; have q6 := grs_1 hq21; have q7 := grs_2 hq21; have q9 := grs_3 hq21; have q8 := hlo_20; omega)⟩) hS (fun q _ h => hFc q h) hFc (fun u ra25 t H locs ht hvm hw hB hz1 hk1 hS => ?_)
    obtain ⟨z24, hB⟩ := hB
    obtain ⟨b1, b2, b3⟩ := hB
    rw [ht] at b1
    obtain ⟨hP, hD, hK⟩ := JOINC (wc := (List.flatten ([[((p0a 3), .inl ((p0k 3), (n15 3), .inl (w16 3)))]] : List va_W))) (wr := (List.flatten ([[((p0a 0), .inr (3, [.int (w16 0 0), .ref ra18, .ref (p0a 3), .ref (p0a 4), .ref (p0a 5), .ref (p0a 6)])), (ra18, .inl (z17, (n15 2), .inl (w16 2))), ((p0a 4), .inl ((p0k 4), (n15 4), .inl (w16 4))), ((p0a 5), .inl ((p0k 5), (n15 5), .inl (w16 5))), ((p0a 6), .inl ((p0k 6), (n15 6), .inl (w16 6)))]] : List va_W))) (w1 := [(ra25, .inl (z24, o_20.1, .inl o_20.2))]) (t1 := [(z24, .int)]) hPx hDx hKx hk1 hFc b1 (va_K.moved hvm.symm b2) b3
    refine va_put (D := (dC, dI)) (ci := 3) (v := .ref ra25) (ty := .array .int) (C := RX9) (T := TX9) (N := 6) hx hb hts i_X9 tyX9 tyX9_ok nmX9 hown hK hP hD hS 1 rfl rfl 2 (by decide) (hts _ qw93) (fun _ h9 => h9) rfl (by decide +kernel) rfl rfl (Nat.le_of_ble_eq_true rfl) dX9_add_50 (fun H locs hP hD hS => ?_)
    have hP : va_P (dC, dI) cls (List.flatten ([[(ra25, .inl (z24, (n22 3), .inl (w23 3)))], [((p0a 0), .inr (3, [.int (w23 0 0), .ref ra18, .ref ra25, .ref (p0a 4), .ref (p0a 5), .ref (p0a 6)])), (ra18, .inl (z17, (n22 2), .inl (w23 2))), ((p0a 4), .inl ((p0k 4), (n22 4), .inl (w23 4))), ((p0a 5), .inl ((p0k 5), (n22 5), .inl (w23 5))), ((p0a 6), .inl ((p0k 6), (n22 6), .inl (w23 6)))]] : List va_W)) H := by rw [en22, ew23]; exact hP
    have hD : va_D A (List.flatten ([[(ra25, .inl (z24, (n22 3), .inl (w23 3)))], [((p0a 0), .inr (3, [.int (w23 0 0), .ref ra18, .ref ra25, .ref (p0a 4), .ref (p0a 5), .ref (p0a 6)])), (ra18, .inl (z17, (n22 2), .inl (w23 2))), ((p0a 4), .inl ((p0k 4), (n22 4), .inl (w23 4))), ((p0a 5), .inl ((p0k 5), (n22 5), .inl (w23 5))), ((p0a 6), .inl ((p0k 6), (n22 6), .inl (w23 6)))]] : List va_W)) := by rw [en22, ew23]; exact hD
    have hK : va_K (dC, dI) cls (List.flatten ([[(z24, .int)], [(z17, .int), ((p0k 4), .int), ((p0k 5), .int), ((p0k 6), .int)]] : List (List (ClassId × FieldType)))) s := hK
    have hP3 : va_P (dC, dI) cls (List.flatten ([(oX9 (p0a 0) (st1 (st1 p0a 2 ra18) 3 ra25) (st1 (st1 p0k 2 z17) 3 z24) n22 w23)] : List va_W)) H := vP_perm hP ((bP (List.Perm.refl _)).trans (List.Perm.append_right _ (List.perm_middle (a := ((ra25, .inl (z24, (n22 3), .inl (w23 3))) : Nat × va_E)) (l₁ := ([((p0a 0), .inr (3, [.int (w23 0 0), .ref ra18, .ref ra25, .ref (p0a 4), .ref (p0a 5), .ref (p0a 6)])), (ra18, .inl (z17, (n22 2), .inl (w23 2)))] : va_W)) (l₂ := ([((p0a 4), .inl ((p0k 4), (n22 4), .inl (w23 4))), ((p0a 5), .inl ((p0k 5), (n22 5), .inl (w23 5))), ((p0a 6), .inl ((p0k 6), (n22 6), .inl (w23 6)))] : va_W))).symm))
    have hD3 : va_D A (List.flatten ([(oX9 (p0a 0) (st1 (st1 p0a 2 ra18) 3 ra25) (st1 (st1 p0k 2 z17) 3 z24) n22 w23)] : List va_W)) := vD_perm hD ((bP (List.Perm.refl _)).trans (List.Perm.append_right _ (List.perm_middle (a := ((ra25, .inl (z24, (n22 3), .inl (w23 3))) : Nat × va_E)) (l₁ := ([((p0a 0), .inr (3, [.int (w23 0 0), .ref ra18, .ref ra25, .ref (p0a 4), .ref (p0a 5), .ref (p0a 6)])), (ra18, .inl (z17, (n22 2), .inl (w23 2)))] : va_W)) (l₂ := ([((p0a 4), .inl ((p0k 4), (n22 4), .inl (w23 4))), ((p0a 5), .inl ((p0k 5), (n22 5), .inl (w23 5))), ((p0a 6), .inl ((p0k 6), (n22 6), .inl (w23 6)))] : va_W))).symm))
    have hK3 : va_K (dC, dI) cls (List.flatten ([(tX9 (st1 (st1 p0k 2 z17) 3 z24))] : List (List (ClassId × FieldType)))) s := vK_perm hK ((bP (List.Perm.refl _)).trans (List.Perm.append_right _ (List.perm_middle (a := ((z24, .int) : ClassId × FieldType)) (l₁ := ([(z17, .int)] : List (ClassId × FieldType))) (l₂ := ([((p0k 4), .int), ((p0k 5), .int), ((p0k 6), .int)] : List (ClassId × FieldType)))).symm))
    have hP : va_P (dC, dI) cls (List.flatten ([(oX9 (p0a 0) (st1 (st1 p0a 2 ra18) 3 ra25) (st1 (st1 p0k 2 z17) 3 z24) n22 w23)] : List va_W)) H := vP_perm hP3 (bP (List.Perm.refl _))
    have hD : va_D A (List.flatten ([(oX9 (p0a 0) (st1 (st1 p0a 2 ra18) 3 ra25) (st1 (st1 p0k 2 z17) 3 z24) n22 w23)] : List va_W)) := vD_perm hD3 (bP (List.Perm.refl _))
    have hK : va_K (dC, dI) cls (List.flatten ([(tX9 (st1 (st1 p0k 2 z17) 3 z24))] : List (List (ClassId × FieldType)))) s := vK_perm hK3 (bP (List.Perm.refl _))
    refine W.widen (k := (hcX9 p0n n22)) (n := (3 * (gcX9 p0n n22))) (by have a0 := gcX9_add hg_p0 hst25; have q5 := gcX9_3 (n := n15) (grs_le hq21); rw [← en22] at q5; have q6 := grs_1 hq21; have q7 := grs_2 hq21; have q9 := grs_3 hq21; have q8 := hlo_20; omega) (by have a0 := gcX9_add hg_p0 hst25; have q5 := gcX9_3 (n := n15) (grs_le hq21); rw [← en22] at q5; have q6 := grs_1 hq21; have q7 := grs_2 hq21; have q9 := grs_3 hq21; have q8 := hlo_20; omega) ?_
    have hg_p0 : glX9 p0n n22 := glX9_tr hg_p0 hst25
    unfold fX9_add_G53_26 at hrun
    refine lv_aload_n hx hb dX9_add_53 rfl (lv_at hl 1 rfl) ?_
    refine lv_aload_n hx hb dX9_add_54 rfl (lv_at hl 1 rfl) ?_
    refine va_get (D := (dC, dI)) (ci := 3) (v := .ref (p0a 4)) (C := RX9) (T := TX9) (N := 6) hx hb hts i_X9 hown hK hP 0 rfl rfl 3 (by decide) (hts _ qw94) (fun _ h9 => h9) rfl dX9_add_55 ?_
    refine lv_iload hx hb dX9_add_58 (lv_at hl 0 rfl) ?_
    obtain ⟨o_27, hc_27, hrun⟩ := bnd9 hrun
    obtain ⟨hq28, hrun⟩ := chk9 hrun
    have hlo_27 := ln_fJ7_copyOf_59c91 hc_27
    obtain ⟨n29, en29, hrun⟩ := let9 hrun
    obtain ⟨w30, ew30, hrun⟩ := let9 hrun
    have hst32 : glX9 n22 n29 := by rw [en29]; exact glX9_4 (grs_le hq28)
    have hgn_p0 : glX9 n29 (o.2.2) := (mo_fX9_add_G66_33 hrun)
    have hP2 : va_P (dC, dI) cls (List.flatten ([[((p0a 4), .inl ((p0k 4), (n22 4), .inl (w23 4)))], [((p0a 0), .inr (3, [.int (w23 0 0), .ref ra18, .ref ra25, .ref (p0a 4), .ref (p0a 5), .ref (p0a 6)])), (ra18, .inl (z17, (n22 2), .inl (w23 2))), (ra25, .inl (z24, (n22 3), .inl (w23 3))), ((p0a 5), .inl ((p0k 5), (n22 5), .inl (w23 5))), ((p0a 6), .inl ((p0k 6), (n22 6), .inl (w23 6)))]] : List va_W)) H := vP_perm hP ((bP (List.Perm.refl _)).trans (List.Perm.append_right _ (List.perm_middle (a := (((p0a 4), .inl ((p0k 4), (n22 4), .inl (w23 4))) : Nat × va_E)) (l₁ := ([((p0a 0), .inr (3, [.int (w23 0 0), .ref ra18, .ref ra25, .ref (p0a 4), .ref (p0a 5), .ref (p0a 6)])), (ra18, .inl (z17, (n22 2), .inl (w23 2))), (ra25, .inl (z24, (n22 3), .inl (w23 3)))] : va_W)) (l₂ := ([((p0a 5), .inl ((p0k 5), (n22 5), .inl (w23 5))), ((p0a 6), .inl ((p0k 6), (n22 6), .inl (w23 6)))] : va_W)))))
    have hD2 : va_D A (List.flatten ([[((p0a 4), .inl ((p0k 4), (n22 4), .inl (w23 4)))], [((p0a 0), .inr (3, [.int (w23 0 0), .ref ra18, .ref ra25, .ref (p0a 4), .ref (p0a 5), .ref (p0a 6)])), (ra18, .inl (z17, (n22 2), .inl (w23 2))), (ra25, .inl (z24, (n22 3), .inl (w23 3))), ((p0a 5), .inl ((p0k 5), (n22 5), .inl (w23 5))), ((p0a 6), .inl ((p0k 6), (n22 6), .inl (w23 6)))]] : List va_W)) := vD_perm hD ((bP (List.Perm.refl _)).trans (List.Perm.append_right _ (List.perm_middle (a := (((p0a 4), .inl ((p0k 4), (n22 4), .inl (w23 4))) : Nat × va_E)) (l₁ := ([((p0a 0), .inr (3, [.int (w23 0 0), .ref ra18, .ref ra25, .ref (p0a 4), .ref (p0a 5), .ref (p0a 6)])), (ra18, .inl (z17, (n22 2), .inl (w23 2))), (ra25, .inl (z24, (n22 3), .inl (w23 3)))] : va_W)) (l₂ := ([((p0a 5), .inl ((p0k 5), (n22 5), .inl (w23 5))), ((p0a 6), .inl ((p0k 6), (n22 6), .inl (w23 6)))] : va_W)))))
    have hK2 : va_K (dC, dI) cls (List.flatten ([[((p0k 4), .int)], [(z17, .int), (z24, .int), ((p0k 5), .int), ((p0k 6), .int)]] : List (List (ClassId × FieldType)))) s := vK_perm hK ((bP (List.Perm.refl _)).trans (List.Perm.append_right _ (List.perm_middle (a := (((p0k 4), .int) : ClassId × FieldType)) (l₁ := ([(z17, .int), (z24, .int)] : List (ClassId × FieldType))) (l₂ := ([((p0k 5), .int), ((p0k 6), .int)] : List (ClassId × FieldType))))))
    have hPx : va_P (dC, dI) cls ((List.flatten ([[((p0a 4), .inl ((p0k 4), (n22 4), .inl (w23 4)))]] : List va_W)) ++ (List.flatten ([[((p0a 0), .inr (3, [.int (w23 0 0), .ref ra18, .ref ra25, .ref (p0a 4), .ref (p0a 5), .ref (p0a 6)])), (ra18, .inl (z17, (n22 2), .inl (w23 2))), (ra25, .inl (z24, (n22 3), .inl (w23 3))), ((p0a 5), .inl ((p0k 5), (n22 5), .inl (w23 5))), ((p0a 6), .inl ((p0k 6), (n22 6), .inl (w23 6)))]] : List va_W))) H := vP_fa (vP_perm hP2 (bP (List.Perm.refl _)))
    have hDx : va_D A ((List.flatten ([[((p0a 4), .inl ((p0k 4), (n22 4), .inl (w23 4)))]] : List va_W)) ++ (List.flatten ([[((p0a 0), .inr (3, [.int (w23 0 0), .ref ra18, .ref ra25, .ref (p0a 4), .ref (p0a 5), .ref (p0a 6)])), (ra18, .inl (z17, (n22 2), .inl (w23 2))), (ra25, .inl (z24, (n22 3), .inl (w23 3))), ((p0a 5), .inl ((p0k 5), (n22 5), .inl (w23 5))), ((p0a 6), .inl ((p0k 6), (n22 6), .inl (w23 6)))]] : List va_W))) := vD_fa (vD_perm hD2 (bP (List.Perm.refl _)))
    have hKx : va_K (dC, dI) cls ((List.flatten ([[((p0k 4), .int)]] : List (List (ClassId × FieldType)))) ++ (List.flatten ([[(z17, .int), (z24, .int), ((p0k 5), .int), ((p0k 6), .int)]] : List (List (ClassId × FieldType))))) s := vK_fa (vK_perm hK2 (bP (List.Perm.refl _)))
    have hPc := vP_l hPx
    have hDc := vD_l hDx
    have hKc := vK_l hKx
    have hFc := vfree hDx hS hA
    refine va_callr (va_runS (As := [.ref (p0a 4), .int (((p0w 0 0) + ((p0w 0 0) / 2)) + 1)]) (rest := [.ref (p0a 0)]) ⟨hx, hb, hml, hown, hts⟩ (kJ7_copyOf_59c91 l dC dI (p0a := (p0a 4)) (p0k := (p0k 4)) (p0n := (n22 4)) (p0f := (w23 4)) (p1 := (((p0w 0 0) + ((p0w 0 0) / 2)) + 1)) (sz := _) (o := o_27) (hrun := hc_27)) (va_cwS 2 hts (gi_S qw107 qw108 qw109 (gi_z qw106)) rfl rfl rfl (by decide +kernel) ⟨Nat.le_of_ble_eq_true rfl, Nat.le_of_ble_eq_true rfl⟩) ⟨PRE.blind, PRE.of hE hS hFc hPc hKc hDc⟩ rfl rfl hl.1 rfl (lv_room (Nat.le_of_ble_eq_true rfl)) dX9_add_60 ⟨(show (hcX9 p0n n22) + 1 ≤ (hcX9 p0n (o.2.2)) from by have q0 := gsX9 hg_p0 hst32 hgn_p0; have q5 := gcX9_4 (n := n22) (grs_le hq28); rw [← en29] at q5; have q6 := grs_1 hq28; have q7 := grs_2 hq28; have q9 := grs_3 hq28; have q8 := hlo_27; omega), (show (3 * (gcX9 p0n n22)) + (nn (((p0w 0 0) + ((p0w 0 0) / 2)) + 1)) ≤ (3 * (gcX9 p0n (o.2.2))) from by have q0 := gsX9 hg_p0 hst32 hgn_p0; have q5 := gcX9_4 (n := n22) (grs_le hq28); rw [← en29] at q5; have q6 := grs_1 hq28; have q7 := grs_2 hq28; have q9 := grs_3 hq28; have q8 := hlo_27; omega)⟩) hS (fun q _ h => hFc q h) hFc (fun u ra32 t H locs ht hvm hw hB hz1 hk1 hS => ?_)
    obtain ⟨z31, hB⟩ := hB
    obtain ⟨b1, b2, b3⟩ := hB
    rw [ht] at b1
    obtain ⟨hP, hD, hK⟩ := JOINC (wc := (List.flatten ([[((p0a 4), .inl ((p0k 4), (n22 4), .inl (w23 4)))]] : List va_W))) (wr := (List.flatten ([[((p0a 0), .inr (3, [.int (w23 0 0), .ref ra18, .ref ra25, .ref (p0a 4), .ref (p0a 5), .ref (p0a 6)])), (ra18, .inl (z17, (n22 2), .inl (w23 2))), (ra25, .inl (z24, (n22 3), .inl (w23 3))), ((p0a 5), .inl ((p0k 5), (n22 5), .inl (w23 5))), ((p0a 6), .inl ((p0k 6), (n22 6), .inl (w23 6)))]] : List va_W))) (w1 := [(ra32, .inl (z31, o_27.1, .inl o_27.2))]) (t1 := [(z31, .int)]) hPx hDx hKx hk1 hFc b1 (va_K.moved hvm.symm b2) b3
    refine va_put (D := (dC, dI)) (ci := 3) (v := .ref ra32) (ty := .array .int) (C := RX9) (T := TX9) (N := 6) hx hb hts i_X9 tyX9 tyX9_ok nmX9 hown hK hP hD hS 1 rfl rfl 3 (by decide) (hts _ qw94) (fun _ h9 => h9) rfl (by decide +kernel) rfl rfl (Nat.le_of_ble_eq_true rfl) dX9_add_63 (fun H locs hP hD hS => ?_)
    have hP : va_P (dC, dI) cls (List.flatten ([[(ra32, .inl (z31, (n29 4), .inl (w30 4)))], [((p0a 0), .inr (3, [.int (w30 0 0), .ref ra18, .ref ra25, .ref ra32, .ref (p0a 5), .ref (p0a 6)])), (ra18, .inl (z17, (n29 2), .inl (w30 2))), (ra25, .inl (z24, (n29 3), .inl (w30 3))), ((p0a 5), .inl ((p0k 5), (n29 5), .inl (w30 5))), ((p0a 6), .inl ((p0k 6), (n29 6), .inl (w30 6)))]] : List va_W)) H := by rw [en29, ew30]; exact hP
    have hD : va_D A (List.flatten ([[(ra32, .inl (z31, (n29 4), .inl (w30 4)))], [((p0a 0), .inr (3, [.int (w30 0 0), .ref ra18, .ref ra25, .ref ra32, .ref (p0a 5), .ref (p0a 6)])), (ra18, .inl (z17, (n29 2), .inl (w30 2))), (ra25, .inl (z24, (n29 3), .inl (w30 3))), ((p0a 5), .inl ((p0k 5), (n29 5), .inl (w30 5))), ((p0a 6), .inl ((p0k 6), (n29 6), .inl (w30 6)))]] : List va_W)) := by rw [en29, ew30]; exact hD
    have hK : va_K (dC, dI) cls (List.flatten ([[(z31, .int)], [(z17, .int), (z24, .int), ((p0k 5), .int), ((p0k 6), .int)]] : List (List (ClassId × FieldType)))) s := hK
    have hP3 : va_P (dC, dI) cls (List.flatten ([(oX9 (p0a 0) (st1 (st1 (st1 p0a 2 ra18) 3 ra25) 4 ra32) (st1 (st1 (st1 p0k 2 z17) 3 z24) 4 z31) n29 w30)] : List va_W)) H := vP_perm hP ((bP (List.Perm.refl _)).trans (List.Perm.append_right _ (List.perm_middle (a := ((ra32, .inl (z31, (n29 4), .inl (w30 4))) : Nat × va_E)) (l₁ := ([((p0a 0), .inr (3, [.int (w30 0 0), .ref ra18, .ref ra25, .ref ra32, .ref (p0a 5), .ref (p0a 6)])), (ra18, .inl (z17, (n29 2), .inl (w30 2))), (ra25, .inl (z24, (n29 3), .inl (w30 3)))] : va_W)) (l₂ := ([((p0a 5), .inl ((p0k 5), (n29 5), .inl (w30 5))), ((p0a 6), .inl ((p0k 6), (n29 6), .inl (w30 6)))] : va_W))).symm))
    have hD3 : va_D A (List.flatten ([(oX9 (p0a 0) (st1 (st1 (st1 p0a 2 ra18) 3 ra25) 4 ra32) (st1 (st1 (st1 p0k 2 z17) 3 z24) 4 z31) n29 w30)] : List va_W)) := vD_perm hD ((bP (List.Perm.refl _)).trans (List.Perm.append_right _ (List.perm_middle (a := ((ra32, .inl (z31, (n29 4), .inl (w30 4))) : Nat × va_E)) (l₁ := ([((p0a 0), .inr (3, [.int (w30 0 0), .ref ra18, .ref ra25, .ref ra32, .ref (p0a 5), .ref (p0a 6)])), (ra18, .inl (z17, (n29 2), .inl (w30 2))), (ra25, .inl (z24, (n29 3), .inl (w30 3)))] : va_W)) (l₂ := ([((p0a 5), .inl ((p0k 5), (n29 5), .inl (w30 5))), ((p0a 6), .inl ((p0k 6), (n29 6), .inl (w30 6)))] : va_W))).symm))
    have hK3 : va_K (dC, dI) cls (List.flatten ([(tX9 (st1 (st1 (st1 p0k 2 z17) 3 z24) 4 z31))] : List (List (ClassId × FieldType)))) s := vK_perm hK ((bP (List.Perm.refl _)).trans (List.Perm.append_right _ (List.perm_middle (a := ((z31, .int) : ClassId × FieldType)) (l₁ := ([(z17, .int), (z24, .int)] : List (ClassId × FieldType))) (l₂ := ([((p0k 5), .int), ((p0k 6), .int)] : List (ClassId × FieldType)))).symm))
    have hP : va_P (dC, dI) cls (List.flatten ([(oX9 (p0a 0) (st1 (st1 (st1 p0a 2 ra18) 3 ra25) 4 ra32) (st1 (st1 (st1 p0k 2 z17) 3 z24) 4 z31) n29 w30)] : List va_W)) H := vP_perm hP3 (bP (List.Perm.refl _))
    have hD : va_D A (List.flatten ([(oX9 (p0a 0) (st1 (st1 (st1 p0a 2 ra18) 3 ra25) 4 ra32) (st1 (st1 (st1 p0k 2 z17) 3 z24) 4 z31) n29 w30)] : List va_W)) := vD_perm hD3 (bP (List.Perm.refl _))
    have hK : va_K (dC, dI) cls (List.flatten ([(tX9 (st1 (st1 (st1 p0k 2 z17) 3 z24) 4 z31))] : List (List (ClassId × FieldType)))) s := vK_perm hK3 (bP (List.Perm.refl _))
    refine W.widen (k := (hcX9 p0n n29)) (n := (3 * (gcX9 p0n n29))) (by have a0 := gcX9_add hg_p0 hst32; have q5 := gcX9_4 (n := n22) (grs_le hq28); rw [← en29] at q5; have q6 := grs_1 hq28; have q7 := grs_2 hq28; have q9 := grs_3 hq28; have q8 := hlo_27; omega) (by have a0 := gcX9_add hg_p0 hst32; have q5 := gcX9_4 (n := n22) (grs_le hq28); rw [← en29] at q5; have q6 := grs_1 hq28; have q7 := grs_2 hq28; have q9 := grs_3 hq28; have q8 := hlo_27; omega) ?_
    have hg_p0 : glX9 p0n n29 := glX9_tr hg_p0 hst32
    unfold fX9_add_G66_33 at hrun
    refine lv_aload_n hx hb dX9_add_66 rfl (lv_at hl 1 rfl) ?_
    refine lv_aload_n hx hb dX9_add_67 rfl (lv_at hl 1 rfl) ?_
    refine va_get (D := (dC, dI)) (ci := 3) (v := .ref (p0a 5)) (C := RX9) (T := TX9) (N := 6) hx hb hts i_X9 hown hK hP 0 rfl rfl 4 (by decide) (hts _ qw95) (fun _ h9 => h9) rfl dX9_add_68 ?_
    refine lv_iload hx hb dX9_add_71 (lv_at hl 0 rfl) ?_
    obtain ⟨o_34, hc_34, hrun⟩ := bnd9 hrun
    obtain ⟨hq35, hrun⟩ := chk9 hrun
    have hlo_34 := ln_fJ7_copyOf_59c91 hc_34
    obtain ⟨n36, en36, hrun⟩ := let9 hrun
    obtain ⟨w37, ew37, hrun⟩ := let9 hrun
    have hst39 : glX9 n29 n36 := by rw [en36]; exact glX9_5 (grs_le hq35)
    have hgn_p0 : glX9 n36 (o.2.2) := (mo_fX9_add_G79_40 hrun)
    have hP2 : va_P (dC, dI) cls (List.flatten ([[((p0a 5), .inl ((p0k 5), (n29 5), .inl (w30 5)))], [((p0a 0), .inr (3, [.int (w30 0 0), .ref ra18, .ref ra25, .ref ra32, .ref (p0a 5), .ref (p0a 6)])), (ra18, .inl (z17, (n29 2), .inl (w30 2))), (ra25, .inl (z24, (n29 3), .inl (w30 3))), (ra32, .inl (z31, (n29 4), .inl (w30 4))), ((p0a 6), .inl ((p0k 6), (n29 6), .inl (w30 6)))]] : List va_W)) H := vP_perm hP ((bP (List.Perm.refl _)).trans (List.Perm.append_right _ (List.perm_middle (a := (((p0a 5), .inl ((p0k 5), (n29 5), .inl (w30 5))) : Nat × va_E)) (l₁ := ([((p0a 0), .inr (3, [.int (w30 0 0), .ref ra18, .ref ra25, .ref ra32, .ref (p0a 5), .ref (p0a 6)])), (ra18, .inl (z17, (n29 2), .inl (w30 2))), (ra25, .inl (z24, (n29 3), .inl (w30 3))), (ra32, .inl (z31, (n29 4), .inl (w30 4)))] : va_W)) (l₂ := ([((p0a 6), .inl ((p0k 6), (n29 6), .inl (w30 6)))] : va_W)))))
    have hD2 : va_D A (List.flatten ([[((p0a 5), .inl ((p0k 5), (n29 5), .inl (w30 5)))], [((p0a 0), .inr (3, [.int (w30 0 0), .ref ra18, .ref ra25, .ref ra32, .ref (p0a 5), .ref (p0a 6)])), (ra18, .inl (z17, (n29 2), .inl (w30 2))), (ra25, .inl (z24, (n29 3), .inl (w30 3))), (ra32, .inl (z31, (n29 4), .inl (w30 4))), ((p0a 6), .inl ((p0k 6), (n29 6), .inl (w30 6)))]] : List va_W)) := vD_perm hD ((bP (List.Perm.refl _)).trans (List.Perm.append_right _ (List.perm_middle (a := (((p0a 5), .inl ((p0k 5), (n29 5), .inl (w30 5))) : Nat × va_E)) (l₁ := ([((p0a 0), .inr (3, [.int (w30 0 0), .ref ra18, .ref ra25, .ref ra32, .ref (p0a 5), .ref (p0a 6)])), (ra18, .inl (z17, (n29 2), .inl (w30 2))), (ra25, .inl (z24, (n29 3), .inl (w30 3))), (ra32, .inl (z31, (n29 4), .inl (w30 4)))] : va_W)) (l₂ := ([((p0a 6), .inl ((p0k 6), (n29 6), .inl (w30 6)))] : va_W)))))
    have hK2 : va_K (dC, dI) cls (List.flatten ([[((p0k 5), .int)], [(z17, .int), (z24, .int), (z31, .int), ((p0k 6), .int)]] : List (List (ClassId × FieldType)))) s := vK_perm hK ((bP (List.Perm.refl _)).trans (List.Perm.append_right _ (List.perm_middle (a := (((p0k 5), .int) : ClassId × FieldType)) (l₁ := ([(z17, .int), (z24, .int), (z31, .int)] : List (ClassId × FieldType))) (l₂ := ([((p0k 6), .int)] : List (ClassId × FieldType))))))
    have hPx : va_P (dC, dI) cls ((List.flatten ([[((p0a 5), .inl ((p0k 5), (n29 5), .inl (w30 5)))]] : List va_W)) ++ (List.flatten ([[((p0a 0), .inr (3, [.int (w30 0 0), .ref ra18, .ref ra25, .ref ra32, .ref (p0a 5), .ref (p0a 6)])), (ra18, .inl (z17, (n29 2), .inl (w30 2))), (ra25, .inl (z24, (n29 3), .inl (w30 3))), (ra32, .inl (z31, (n29 4), .inl (w30 4))), ((p0a 6), .inl ((p0k 6), (n29 6), .inl (w30 6)))]] : List va_W))) H := vP_fa (vP_perm hP2 (bP (List.Perm.refl _)))
    have hDx : va_D A ((List.flatten ([[((p0a 5), .inl ((p0k 5), (n29 5), .inl (w30 5)))]] : List va_W)) ++ (List.flatten ([[((p0a 0), .inr (3, [.int (w30 0 0), .ref ra18, .ref ra25, .ref ra32, .ref (p0a 5), .ref (p0a 6)])), (ra18, .inl (z17, (n29 2), .inl (w30 2))), (ra25, .inl (z24, (n29 3), .inl (w30 3))), (ra32, .inl (z31, (n29 4), .inl (w30 4))), ((p0a 6), .inl ((p0k 6), (n29 6), .inl (w30 6)))]] : List va_W))) := vD_fa (vD_perm hD2 (bP (List.Perm.refl _)))
    have hKx : va_K (dC, dI) cls ((List.flatten ([[((p0k 5), .int)]] : List (List (ClassId × FieldType)))) ++ (List.flatten ([[(z17, .int), (z24, .int), (z31, .int), ((p0k 6), .int)]] : List (List (ClassId × FieldType))))) s := vK_fa (vK_perm hK2 (bP (List.Perm.refl _)))
    have hPc := vP_l hPx
    have hDc := vD_l hDx
    have hKc := vK_l hKx
    have hFc := vfree hDx hS hA
    refine va_callr (va_runS (As := [.ref (p0a 5), .int (((p0w 0 0) + ((p0w 0 0) / 2)) + 1)]) (rest := [.ref (p0a 0)]) ⟨hx, hb, hml, hown, hts⟩ (kJ7_copyOf_59c91 l dC dI (p0a := (p0a 5)) (p0k := (p0k 5)) (p0n := (n29 5)) (p0f := (w30 5)) (p1 := (((p0w 0 0) + ((p0w 0 0) / 2)) + 1)) (sz := _) (o := o_34) (hrun := hc_34)) (va_cwS 2 hts (gi_S qw107 qw108 qw109 (gi_z qw106)) rfl rfl rfl (by decide +kernel) ⟨Nat.le_of_ble_eq_true rfl, Nat.le_of_ble_eq_true rfl⟩) ⟨PRE.blind, PRE.of hE hS hFc hPc hKc hDc⟩ rfl rfl hl.1 rfl (lv_room (Nat.le_of_ble_eq_true rfl)) dX9_add_73 ⟨(show (hcX9 p0n n29) + 1 ≤ (hcX9 p0n (o.2.2)) from by have q0 := gsX9 hg_p0 hst39 hgn_p0; have q5 := gcX9_5 (n := n29) (grs_le hq35); rw [← en36] at q5; have q6 := grs_1 hq35; have q7 := grs_2 hq35; have q9 := grs_3 hq35; have q8 := hlo_34; omega), (show (3 * (gcX9 p0n n29)) + (nn (((p0w 0 0) + ((p0w 0 0) / 2)) + 1)) ≤ (3 * (gcX9 p0n (o.2.2))) from by have q0 := gsX9 hg_p0 hst39 hgn_p0; have q5 := gcX9_5 (n := n29) (grs_le hq35); rw [← en36] at q5; have q6 := grs_1 hq35; have q7 := grs_2 hq35; have q9 := grs_3 hq35; have q8 := hlo_34; omega)⟩) hS (fun q _ h => hFc q h) hFc (fun u ra39 t H locs ht hvm hw hB hz1 hk1 hS => ?_)
    obtain ⟨z38, hB⟩ := hB
    obtain ⟨b1, b2, b3⟩ := hB
    rw [ht] at b1
    obtain ⟨hP, hD, hK⟩ := JOINC (wc := (List.flatten ([[((p0a 5), .inl ((p0k 5), (n29 5), .inl (w30 5)))]] : List va_W))) (wr := (List.flatten ([[((p0a 0), .inr (3, [.int (w30 0 0), .ref ra18, .ref ra25, .ref ra32, .ref (p0a 5), .ref (p0a 6)])), (ra18, .inl (z17, (n29 2), .inl (w30 2))), (ra25, .inl (z24, (n29 3), .inl (w30 3))), (ra32, .inl (z31, (n29 4), .inl (w30 4))), ((p0a 6), .inl ((p0k 6), (n29 6), .inl (w30 6)))]] : List va_W))) (w1 := [(ra39, .inl (z38, o_34.1, .inl o_34.2))]) (t1 := [(z38, .int)]) hPx hDx hKx hk1 hFc b1 (va_K.moved hvm.symm b2) b3
    refine va_put (D := (dC, dI)) (ci := 3) (v := .ref ra39) (ty := .array .int) (C := RX9) (T := TX9) (N := 6) hx hb hts i_X9 tyX9 tyX9_ok nmX9 hown hK hP hD hS 1 rfl rfl 4 (by decide) (hts _ qw95) (fun _ h9 => h9) rfl (by decide +kernel) rfl rfl (Nat.le_of_ble_eq_true rfl) dX9_add_76 (fun H locs hP hD hS => ?_)
    have hP : va_P (dC, dI) cls (List.flatten ([[(ra39, .inl (z38, (n36 5), .inl (w37 5)))], [((p0a 0), .inr (3, [.int (w37 0 0), .ref ra18, .ref ra25, .ref ra32, .ref ra39, .ref (p0a 6)])), (ra18, .inl (z17, (n36 2), .inl (w37 2))), (ra25, .inl (z24, (n36 3), .inl (w37 3))), (ra32, .inl (z31, (n36 4), .inl (w37 4))), ((p0a 6), .inl ((p0k 6), (n36 6), .inl (w37 6)))]] : List va_W)) H := by rw [en36, ew37]; exact hP
    have hD : va_D A (List.flatten ([[(ra39, .inl (z38, (n36 5), .inl (w37 5)))], [((p0a 0), .inr (3, [.int (w37 0 0), .ref ra18, .ref ra25, .ref ra32, .ref ra39, .ref (p0a 6)])), (ra18, .inl (z17, (n36 2), .inl (w37 2))), (ra25, .inl (z24, (n36 3), .inl (w37 3))), (ra32, .inl (z31, (n36 4), .inl (w37 4))), ((p0a 6), .inl ((p0k 6), (n36 6), .inl (w37 6)))]] : List va_W)) := by rw [en36, ew37]; exact hD
    have hK : va_K (dC, dI) cls (List.flatten ([[(z38, .int)], [(z17, .int), (z24, .int), (z31, .int), ((p0k 6), .int)]] : List (List (ClassId × FieldType)))) s := hK
    have hP3 : va_P (dC, dI) cls (List.flatten ([(oX9 (p0a 0) (st1 (st1 (st1 (st1 p0a 2 ra18) 3 ra25) 4 ra32) 5 ra39) (st1 (st1 (st1 (st1 p0k 2 z17) 3 z24) 4 z31) 5 z38) n36 w37)] : List va_W)) H := vP_perm hP ((bP (List.Perm.refl _)).trans (List.Perm.append_right _ (List.perm_middle (a := ((ra39, .inl (z38, (n36 5), .inl (w37 5))) : Nat × va_E)) (l₁ := ([((p0a 0), .inr (3, [.int (w37 0 0), .ref ra18, .ref ra25, .ref ra32, .ref ra39, .ref (p0a 6)])), (ra18, .inl (z17, (n36 2), .inl (w37 2))), (ra25, .inl (z24, (n36 3), .inl (w37 3))), (ra32, .inl (z31, (n36 4), .inl (w37 4)))] : va_W)) (l₂ := ([((p0a 6), .inl ((p0k 6), (n36 6), .inl (w37 6)))] : va_W))).symm))
    have hD3 : va_D A (List.flatten ([(oX9 (p0a 0) (st1 (st1 (st1 (st1 p0a 2 ra18) 3 ra25) 4 ra32) 5 ra39) (st1 (st1 (st1 (st1 p0k 2 z17) 3 z24) 4 z31) 5 z38) n36 w37)] : List va_W)) := vD_perm hD ((bP (List.Perm.refl _)).trans (List.Perm.append_right _ (List.perm_middle (a := ((ra39, .inl (z38, (n36 5), .inl (w37 5))) : Nat × va_E)) (l₁ := ([((p0a 0), .inr (3, [.int (w37 0 0), .ref ra18, .ref ra25, .ref ra32, .ref ra39, .ref (p0a 6)])), (ra18, .inl (z17, (n36 2), .inl (w37 2))), (ra25, .inl (z24, (n36 3), .inl (w37 3))), (ra32, .inl (z31, (n36 4), .inl (w37 4)))] : va_W)) (l₂ := ([((p0a 6), .inl ((p0k 6), (n36 6), .inl (w37 6)))] : va_W))).symm))
    have hK3 : va_K (dC, dI) cls (List.flatten ([(tX9 (st1 (st1 (st1 (st1 p0k 2 z17) 3 z24) 4 z31) 5 z38))] : List (List (ClassId × FieldType)))) s := vK_perm hK ((bP (List.Perm.refl _)).trans (List.Perm.append_right _ (List.perm_middle (a := ((z38, .int) : ClassId × FieldType)) (l₁ := ([(z17, .int), (z24, .int), (z31, .int)] : List (ClassId × FieldType))) (l₂ := ([((p0k 6), .int)] : List (ClassId × FieldType)))).symm))
    have hP : va_P (dC, dI) cls (List.flatten ([(oX9 (p0a 0) (st1 (st1 (st1 (st1 p0a 2 ra18) 3 ra25) 4 ra32) 5 ra39) (st1 (st1 (st1 (st1 p0k 2 z17) 3 z24) 4 z31) 5 z38) n36 w37)] : List va_W)) H := vP_perm hP3 (bP (List.Perm.refl _))
    have hD : va_D A (List.flatten ([(oX9 (p0a 0) (st1 (st1 (st1 (st1 p0a 2 ra18) 3 ra25) 4 ra32) 5 ra39) (st1 (st1 (st1 (st1 p0k 2 z17) 3 z24) 4 z31) 5 z38) n36 w37)] : List va_W)) := vD_perm hD3 (bP (List.Perm.refl _))
    have hK : va_K (dC, dI) cls (List.flatten ([(tX9 (st1 (st1 (st1 (st1 p0k 2 z17) 3 z24) 4 z31) 5 z38))] : List (List (ClassId × FieldType)))) s := vK_perm hK3 (bP (List.Perm.refl _))
    refine W.widen (k := (hcX9 p0n n36)) (n := (3 * (gcX9 p0n n36))) (by have a0 := gcX9_add hg_p0 hst39; have q5 := gcX9_5 (n := n29) (grs_le hq35); rw [← en36] at q5; have q6 := grs_1 hq35; have q7 := grs_2 hq35; have q9 := grs_3 hq35; have q8 := hlo_34; omega) (by have a0 := gcX9_add hg_p0 hst39; have q5 := gcX9_5 (n := n29) (grs_le hq35); rw [← en36] at q5; have q6 := grs_1 hq35; have q7 := grs_2 hq35; have q9 := grs_3 hq35; have q8 := hlo_34; omega) ?_
    have hg_p0 : glX9 p0n n36 := glX9_tr hg_p0 hst39
    unfold fX9_add_G79_40 at hrun
    refine lv_aload_n hx hb dX9_add_79 rfl (lv_at hl 1 rfl) ?_
    refine lv_aload_n hx hb dX9_add_80 rfl (lv_at hl 1 rfl) ?_
    refine va_get (D := (dC, dI)) (ci := 3) (v := .ref (p0a 6)) (C := RX9) (T := TX9) (N := 6) hx hb hts i_X9 hown hK hP 0 rfl rfl 5 (by decide) (hts _ qw96) (fun _ h9 => h9) rfl dX9_add_81 ?_
    refine lv_iload hx hb dX9_add_84 (lv_at hl 0 rfl) ?_
    obtain ⟨o_41, hc_41, hrun⟩ := bnd9 hrun
    obtain ⟨hq42, hrun⟩ := chk9 hrun
    have hlo_41 := ln_fJ7_copyOf_59c91 hc_41
    obtain ⟨n43, en43, hrun⟩ := let9 hrun
    obtain ⟨w44, ew44, hrun⟩ := let9 hrun
    have hst46 : glX9 n36 n43 := by rw [en43]; exact glX9_6 (grs_le hq42)
    have hgn_p0 : glX9 n43 (o.2.2) := (mo_fX9_add_G92_47 hrun)
    have hP2 : va_P (dC, dI) cls (List.flatten ([[((p0a 6), .inl ((p0k 6), (n36 6), .inl (w37 6)))], [((p0a 0), .inr (3, [.int (w37 0 0), .ref ra18, .ref ra25, .ref ra32, .ref ra39, .ref (p0a 6)])), (ra18, .inl (z17, (n36 2), .inl (w37 2))), (ra25, .inl (z24, (n36 3), .inl (w37 3))), (ra32, .inl (z31, (n36 4), .inl (w37 4))), (ra39, .inl (z38, (n36 5), .inl (w37 5)))]] : List va_W)) H := vP_perm hP ((bP (List.Perm.refl _)).trans (List.Perm.append_right _ (List.perm_middle (a := (((p0a 6), .inl ((p0k 6), (n36 6), .inl (w37 6))) : Nat × va_E)) (l₁ := ([((p0a 0), .inr (3, [.int (w37 0 0), .ref ra18, .ref ra25, .ref ra32, .ref ra39, .ref (p0a 6)])), (ra18, .inl (z17, (n36 2), .inl (w37 2))), (ra25, .inl (z24, (n36 3), .inl (w37 3))), (ra32, .inl (z31, (n36 4), .inl (w37 4))), (ra39, .inl (z38, (n36 5), .inl (w37 5)))] : va_W)) (l₂ := ([] : va_W)))))
    have hD2 : va_D A (List.flatten ([[((p0a 6), .inl ((p0k 6), (n36 6), .inl (w37 6)))], [((p0a 0), .inr (3, [.int (w37 0 0), .ref ra18, .ref ra25, .ref ra32, .ref ra39, .ref (p0a 6)])), (ra18, .inl (z17, (n36 2), .inl (w37 2))), (ra25, .inl (z24, (n36 3), .inl (w37 3))), (ra32, .inl (z31, (n36 4), .inl (w37 4))), (ra39, .inl (z38, (n36 5), .inl (w37 5)))]] : List va_W)) := vD_perm hD ((bP (List.Perm.refl _)).trans (List.Perm.append_right _ (List.perm_middle (a := (((p0a 6), .inl ((p0k 6), (n36 6), .inl (w37 6))) : Nat × va_E)) (l₁ := ([((p0a 0), .inr (3, [.int (w37 0 0), .ref ra18, .ref ra25, .ref ra32, .ref ra39, .ref (p0a 6)])), (ra18, .inl (z17, (n36 2), .inl (w37 2))), (ra25, .inl (z24, (n36 3), .inl (w37 3))), (ra32, .inl (z31, (n36 4), .inl (w37 4))), (ra39, .inl (z38, (n36 5), .inl (w37 5)))] : va_W)) (l₂ := ([] : va_W)))))
    have hK2 : va_K (dC, dI) cls (List.flatten ([[((p0k 6), .int)], [(z17, .int), (z24, .int), (z31, .int), (z38, .int)]] : List (List (ClassId × FieldType)))) s := vK_perm hK ((bP (List.Perm.refl _)).trans (List.Perm.append_right _ (List.perm_middle (a := (((p0k 6), .int) : ClassId × FieldType)) (l₁ := ([(z17, .int), (z24, .int), (z31, .int), (z38, .int)] : List (ClassId × FieldType))) (l₂ := ([] : List (ClassId × FieldType))))))
    have hPx : va_P (dC, dI) cls ((List.flatten ([[((p0a 6), .inl ((p0k 6), (n36 6), .inl (w37 6)))]] : List va_W)) ++ (List.flatten ([[((p0a 0), .inr (3, [.int (w37 0 0), .ref ra18, .ref ra25, .ref ra32, .ref ra39, .ref (p0a 6)])), (ra18, .inl (z17, (n36 2), .inl (w37 2))), (ra25, .inl (z24, (n36 3), .inl (w37 3))), (ra32, .inl (z31, (n36 4), .inl (w37 4))), (ra39, .inl (z38, (n36 5), .inl (w37 5)))]] : List va_W))) H := vP_fa (vP_perm hP2 (bP (List.Perm.refl _)))
    have hDx : va_D A ((List.flatten ([[((p0a 6), .inl ((p0k 6), (n36 6), .inl (w37 6)))]] : List va_W)) ++ (List.flatten ([[((p0a 0), .inr (3, [.int (w37 0 0), .ref ra18, .ref ra25, .ref ra32, .ref ra39, .ref (p0a 6)])), (ra18, .inl (z17, (n36 2), .inl (w37 2))), (ra25, .inl (z24, (n36 3), .inl (w37 3))), (ra32, .inl (z31, (n36 4), .inl (w37 4))), (ra39, .inl (z38, (n36 5), .inl (w37 5)))]] : List va_W))) := vD_fa (vD_perm hD2 (bP (List.Perm.refl _)))
    have hKx : va_K (dC, dI) cls ((List.flatten ([[((p0k 6), .int)]] : List (List (ClassId × FieldType)))) ++ (List.flatten ([[(z17, .int), (z24, .int), (z31, .int), (z38, .int)]] : List (List (ClassId × FieldType))))) s := vK_fa (vK_perm hK2 (bP (List.Perm.refl _)))
    have hPc := vP_l hPx
    have hDc := vD_l hDx
    have hKc := vK_l hKx
    have hFc := vfree hDx hS hA
    refine va_callr (va_runS (As := [.ref (p0a 6), .int (((p0w 0 0) + ((p0w 0 0) / 2)) + 1)]) (rest := [.ref (p0a 0)]) ⟨hx, hb, hml, hown, hts⟩ (kJ7_copyOf_59c91 l dC dI (p0a := (p0a 6)) (p0k := (p0k 6)) (p0n := (n36 6)) (p0f := (w37 6)) (p1 := (((p0w 0 0) + ((p0w 0 0) / 2)) + 1)) (sz := _) (o := o_41) (hrun := hc_41)) (va_cwS 2 hts (gi_S qw107 qw108 qw109 (gi_z qw106)) rfl rfl rfl (by decide +kernel) ⟨Nat.le_of_ble_eq_true rfl, Nat.le_of_ble_eq_true rfl⟩) ⟨PRE.blind, PRE.of hE hS hFc hPc hKc hDc⟩ rfl rfl hl.1 rfl (lv_room (Nat.le_of_ble_eq_true rfl)) dX9_add_86 ⟨(show (hcX9 p0n n36) + 1 ≤ (hcX9 p0n (o.2.2)) from by have q0 := gsX9 hg_p0 hst46 hgn_p0; have q5 := gcX9_6 (n := n36) (grs_le hq42); rw [← en43] at q5; have q6 := grs_1 hq42; have q7 := grs_2 hq42; have q9 := grs_3 hq42; have q8 := hlo_41; omega), (show (3 * (gcX9 p0n n36)) + (nn (((p0w 0 0) + ((p0w 0 0) / 2)) + 1)) ≤ (3 * (gcX9 p0n (o.2.2))) from by have q0 := gsX9 hg_p0 hst46 hgn_p0; have q5 := gcX9_6 (n := n36) (grs_le hq42); rw [← en43] at q5; have q6 := grs_1 hq42; have q7 := grs_2 hq42; have q9 := grs_3 hq42; have q8 := hlo_41; omega)⟩) hS (fun q _ h => hFc q h) hFc (fun u ra46 t H locs ht hvm hw hB hz1 hk1 hS => ?_)
    obtain ⟨z45, hB⟩ := hB
    obtain ⟨b1, b2, b3⟩ := hB
    rw [ht] at b1
    obtain ⟨hP, hD, hK⟩ := JOINC (wc := (List.flatten ([[((p0a 6), .inl ((p0k 6), (n36 6), .inl (w37 6)))]] : List va_W))) (wr := (List.flatten ([[((p0a 0), .inr (3, [.int (w37 0 0), .ref ra18, .ref ra25, .ref ra32, .ref ra39, .ref (p0a 6)])), (ra18, .inl (z17, (n36 2), .inl (w37 2))), (ra25, .inl (z24, (n36 3), .inl (w37 3))), (ra32, .inl (z31, (n36 4), .inl (w37 4))), (ra39, .inl (z38, (n36 5), .inl (w37 5)))]] : List va_W))) (w1 := [(ra46, .inl (z45, o_41.1, .inl o_41.2))]) (t1 := [(z45, .int)]) hPx hDx hKx hk1 hFc b1 (va_K.moved hvm.symm b2) b3
    refine va_put (D := (dC, dI)) (ci := 3) (v := .ref ra46) (ty := .array .int) (C := RX9) (T := TX9) (N := 6) hx hb hts i_X9 tyX9 tyX9_ok nmX9 hown hK hP hD hS 1 rfl rfl 5 (by decide) (hts _ qw96) (fun _ h9 => h9) rfl (by decide +kernel) rfl rfl (Nat.le_of_ble_eq_true rfl) dX9_add_89 (fun H locs hP hD hS => ?_)
    have hP : va_P (dC, dI) cls (List.flatten ([[(ra46, .inl (z45, (n43 6), .inl (w44 6)))], [((p0a 0), .inr (3, [.int (w44 0 0), .ref ra18, .ref ra25, .ref ra32, .ref ra39, .ref ra46])), (ra18, .inl (z17, (n43 2), .inl (w44 2))), (ra25, .inl (z24, (n43 3), .inl (w44 3))), (ra32, .inl (z31, (n43 4), .inl (w44 4))), (ra39, .inl (z38, (n43 5), .inl (w44 5)))]] : List va_W)) H := by rw [en43, ew44]; exact hP
    have hD : va_D A (List.flatten ([[(ra46, .inl (z45, (n43 6), .inl (w44 6)))], [((p0a 0), .inr (3, [.int (w44 0 0), .ref ra18, .ref ra25, .ref ra32, .ref ra39, .ref ra46])), (ra18, .inl (z17, (n43 2), .inl (w44 2))), (ra25, .inl (z24, (n43 3), .inl (w44 3))), (ra32, .inl (z31, (n43 4), .inl (w44 4))), (ra39, .inl (z38, (n43 5), .inl (w44 5)))]] : List va_W)) := by rw [en43, ew44]; exact hD
    have hK : va_K (dC, dI) cls (List.flatten ([[(z45, .int)], [(z17, .int), (z24, .int), (z31, .int), (z38, .int)]] : List (List (ClassId × FieldType)))) s := hK
    have hP3 : va_P (dC, dI) cls (List.flatten ([(oX9 (p0a 0) (st1 (st1 (st1 (st1 (st1 p0a 2 ra18) 3 ra25) 4 ra32) 5 ra39) 6 ra46) (st1 (st1 (st1 (st1 (st1 p0k 2 z17) 3 z24) 4 z31) 5 z38) 6 z45) n43 w44)] : List va_W)) H := vP_perm hP ((bP (List.Perm.refl _)).trans (List.Perm.append_right _ (List.perm_middle (a := ((ra46, .inl (z45, (n43 6), .inl (w44 6))) : Nat × va_E)) (l₁ := ([((p0a 0), .inr (3, [.int (w44 0 0), .ref ra18, .ref ra25, .ref ra32, .ref ra39, .ref ra46])), (ra18, .inl (z17, (n43 2), .inl (w44 2))), (ra25, .inl (z24, (n43 3), .inl (w44 3))), (ra32, .inl (z31, (n43 4), .inl (w44 4))), (ra39, .inl (z38, (n43 5), .inl (w44 5)))] : va_W)) (l₂ := ([] : va_W))).symm))
    have hD3 : va_D A (List.flatten ([(oX9 (p0a 0) (st1 (st1 (st1 (st1 (st1 p0a 2 ra18) 3 ra25) 4 ra32) 5 ra39) 6 ra46) (st1 (st1 (st1 (st1 (st1 p0k 2 z17) 3 z24) 4 z31) 5 z38) 6 z45) n43 w44)] : List va_W)) := vD_perm hD ((bP (List.Perm.refl _)).trans (List.Perm.append_right _ (List.perm_middle (a := ((ra46, .inl (z45, (n43 6), .inl (w44 6))) : Nat × va_E)) (l₁ := ([((p0a 0), .inr (3, [.int (w44 0 0), .ref ra18, .ref ra25, .ref ra32, .ref ra39, .ref ra46])), (ra18, .inl (z17, (n43 2), .inl (w44 2))), (ra25, .inl (z24, (n43 3), .inl (w44 3))), (ra32, .inl (z31, (n43 4), .inl (w44 4))), (ra39, .inl (z38, (n43 5), .inl (w44 5)))] : va_W)) (l₂ := ([] : va_W))).symm))
    have hK3 : va_K (dC, dI) cls (List.flatten ([(tX9 (st1 (st1 (st1 (st1 (st1 p0k 2 z17) 3 z24) 4 z31) 5 z38) 6 z45))] : List (List (ClassId × FieldType)))) s := vK_perm hK ((bP (List.Perm.refl _)).trans (List.Perm.append_right _ (List.perm_middle (a := ((z45, .int) : ClassId × FieldType)) (l₁ := ([(z17, .int), (z24, .int), (z31, .int), (z38, .int)] : List (ClassId × FieldType))) (l₂ := ([] : List (ClassId × FieldType)))).symm))
    have hP : va_P (dC, dI) cls (List.flatten ([(oX9 (p0a 0) (st1 (st1 (st1 (st1 (st1 p0a 2 ra18) 3 ra25) 4 ra32) 5 ra39) 6 ra46) (st1 (st1 (st1 (st1 (st1 p0k 2 z17) 3 z24) 4 z31) 5 z38) 6 z45) n43 w44)] : List va_W)) H := vP_perm hP3 (bP (List.Perm.refl _))
    have hD : va_D A (List.flatten ([(oX9 (p0a 0) (st1 (st1 (st1 (st1 (st1 p0a 2 ra18) 3 ra25) 4 ra32) 5 ra39) 6 ra46) (st1 (st1 (st1 (st1 (st1 p0k 2 z17) 3 z24) 4 z31) 5 z38) 6 z45) n43 w44)] : List va_W)) := vD_perm hD3 (bP (List.Perm.refl _))
    have hK : va_K (dC, dI) cls (List.flatten ([(tX9 (st1 (st1 (st1 (st1 (st1 p0k 2 z17) 3 z24) 4 z31) 5 z38) 6 z45))] : List (List (ClassId × FieldType)))) s := vK_perm hK3 (bP (List.Perm.refl _))
    refine W.widen (k := (hcX9 p0n n43)) (n := (3 * (gcX9 p0n n43))) (by have a0 := gcX9_add hg_p0 hst46; have q5 := gcX9_6 (n := n36) (grs_le hq42); rw [← en43] at q5; have q6 := grs_1 hq42; have q7 := grs_2 hq42; have q9 := grs_3 hq42; have q8 := hlo_41; omega) (by have a0 := gcX9_add hg_p0 hst46; have q5 := gcX9_6 (n := n36) (grs_le hq42); rw [← en43] at q5; have q6 := grs_1 hq42; have q7 := grs_2 hq42; have q9 := grs_3 hq42; have q8 := hlo_41; omega) ?_
    have hg_p0 : glX9 p0n n43 := glX9_tr hg_p0 hst46
    unfold fX9_add_G92_47 at hrun
    exact J92 w44 n43 ra18 z17 ra25 z24 ra32 z31 ra39 z38 ra46 z45 _ _ _ hrun hP hD hK hS (lv_sub hl [1, 2, 3, 4, 5] rfl) hg_p0
