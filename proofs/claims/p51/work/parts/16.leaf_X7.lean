abbrev cX7_blame : ByteArray := prog_9_method_21_code
def yX7_blame : MethodName := ⟨RX7, "blame", "(II)V"⟩
abbrev cX7_declare : ByteArray := prog_9_method_22_code
def yX7_declare : MethodName := ⟨RX7, "declare", "(J)I"⟩
abbrev cX7_emitTruth : ByteArray := prog_9_method_14_code
def yX7_emitTruth : MethodName := ⟨RX7, "emitTruth", "()V"⟩
abbrev cX7_kindOfSign : ByteArray := prog_9_method_28_code
def yX7_kindOfSign : MethodName := ⟨RX7, "kindOfSign", "(I)I"⟩
abbrev cX7_noteCall : ByteArray := prog_9_method_18_code
def yX7_noteCall : MethodName := ⟨RX7, "noteCall", "(JII)V"⟩
abbrev cX7_raise : ByteArray := prog_9_method_20_code
def yX7_raise : MethodName := ⟨RX7, "raise", "(II)I"⟩
abbrev cX7_rowOf : ByteArray := prog_9_method_27_code
def yX7_rowOf : MethodName := ⟨RX7, "rowOf", "(I)I"⟩
theorem dX7_blame_0 : decode cX7_blame 0 = .ok (.aload_n 0, 1) := by decide +kernel
theorem dX7_blame_1 : decode cX7_blame 1 = .ok (.getfield 57, 3) := by decide +kernel
theorem dX7_blame_4 : decode cX7_blame 4 = .ok (.ifCond .eq 27, 3) := by decide +kernel
theorem dX7_blame_7 : decode cX7_blame 7 = .ok (.iload_n 2, 1) := by decide +kernel
theorem dX7_blame_8 : decode cX7_blame 8 = .ok (.aload_n 0, 1) := by decide +kernel
theorem dX7_blame_9 : decode cX7_blame 9 = .ok (.getfield 60, 3) := by decide +kernel
theorem dX7_blame_12 : decode cX7_blame 12 = .ok (.if_icmp .lt 19, 3) := by decide +kernel
theorem dX7_blame_15 : decode cX7_blame 15 = .ok (.iload_n 2, 1) := by decide +kernel
theorem dX7_blame_16 : decode cX7_blame 16 = .ok (.aload_n 0, 1) := by decide +kernel
theorem dX7_blame_17 : decode cX7_blame 17 = .ok (.getfield 60, 3) := by decide +kernel
theorem dX7_blame_20 : decode cX7_blame 20 = .ok (.if_icmp .ne 21, 3) := by decide +kernel
theorem dX7_blame_23 : decode cX7_blame 23 = .ok (.iload_n 1, 1) := by decide +kernel
theorem dX7_blame_24 : decode cX7_blame 24 = .ok (.aload_n 0, 1) := by decide +kernel
theorem dX7_blame_25 : decode cX7_blame 25 = .ok (.getfield 57, 3) := by decide +kernel
theorem dX7_blame_28 : decode cX7_blame 28 = .ok (.if_icmp .ge 13, 3) := by decide +kernel
theorem dX7_blame_31 : decode cX7_blame 31 = .ok (.aload_n 0, 1) := by decide +kernel
theorem dX7_blame_32 : decode cX7_blame 32 = .ok (.iload_n 1, 1) := by decide +kernel
theorem dX7_blame_33 : decode cX7_blame 33 = .ok (.putfield 57, 3) := by decide +kernel
theorem dX7_blame_36 : decode cX7_blame 36 = .ok (.aload_n 0, 1) := by decide +kernel
theorem dX7_blame_37 : decode cX7_blame 37 = .ok (.iload_n 2, 1) := by decide +kernel
theorem dX7_blame_38 : decode cX7_blame 38 = .ok (.putfield 60, 3) := by decide +kernel
theorem dX7_blame_41 : decode cX7_blame 41 = .ok (.return_, 1) := by decide +kernel
theorem dX7_declare_0 : decode cX7_declare 0 = .ok (.aload_n 0, 1) := by decide +kernel
theorem dX7_declare_1 : decode cX7_declare 1 = .ok (.getfield 41, 3) := by decide +kernel
theorem dX7_declare_4 : decode cX7_declare 4 = .ok (.aload_n 0, 1) := by decide +kernel
theorem dX7_declare_5 : decode cX7_declare 5 = .ok (.getfield 89, 3) := by decide +kernel
theorem dX7_declare_8 : decode cX7_declare 8 = .ok (.invokevirtual 217, 3) := by decide +kernel
theorem dX7_declare_11 : decode cX7_declare 11 = .ok (.istore_n 3, 1) := by decide +kernel
theorem dX7_declare_12 : decode cX7_declare 12 = .ok (.aload_n 0, 1) := by decide +kernel
theorem dX7_declare_13 : decode cX7_declare 13 = .ok (.getfield 92, 3) := by decide +kernel
theorem dX7_declare_16 : decode cX7_declare 16 = .ok (.sipush 320, 3) := by decide +kernel
theorem dX7_declare_19 : decode cX7_declare 19 = .ok (.if_icmp .ge 33, 3) := by decide +kernel
theorem dX7_declare_22 : decode cX7_declare 22 = .ok (.aload_n 0, 1) := by decide +kernel
theorem dX7_declare_23 : decode cX7_declare 23 = .ok (.getfield 9, 3) := by decide +kernel
theorem dX7_declare_26 : decode cX7_declare 26 = .ok (.aload_n 0, 1) := by decide +kernel
theorem dX7_declare_27 : decode cX7_declare 27 = .ok (.getfield 92, 3) := by decide +kernel
theorem dX7_declare_30 : decode cX7_declare 30 = .ok (.lload_n 1, 1) := by decide +kernel
theorem dX7_declare_31 : decode cX7_declare 31 = .ok (.lastore, 1) := by decide +kernel
theorem dX7_declare_32 : decode cX7_declare 32 = .ok (.aload_n 0, 1) := by decide +kernel
theorem dX7_declare_33 : decode cX7_declare 33 = .ok (.getfield 15, 3) := by decide +kernel
theorem dX7_declare_36 : decode cX7_declare 36 = .ok (.aload_n 0, 1) := by decide +kernel
theorem dX7_declare_37 : decode cX7_declare 37 = .ok (.getfield 92, 3) := by decide +kernel
theorem dX7_declare_40 : decode cX7_declare 40 = .ok (.iload_n 3, 1) := by decide +kernel
theorem dX7_declare_41 : decode cX7_declare 41 = .ok (.iastore, 1) := by decide +kernel
theorem dX7_declare_42 : decode cX7_declare 42 = .ok (.aload_n 0, 1) := by decide +kernel
theorem dX7_declare_43 : decode cX7_declare 43 = .ok (.dup, 1) := by decide +kernel
theorem dX7_declare_44 : decode cX7_declare 44 = .ok (.getfield 92, 3) := by decide +kernel
theorem dX7_declare_47 : decode cX7_declare 47 = .ok (.iconst 1, 1) := by decide +kernel
theorem dX7_declare_48 : decode cX7_declare 48 = .ok (.iadd, 1) := by decide +kernel
theorem dX7_declare_49 : decode cX7_declare 49 = .ok (.putfield 92, 3) := by decide +kernel
theorem dX7_declare_52 : decode cX7_declare 52 = .ok (.iload_n 3, 1) := by decide +kernel
theorem dX7_declare_53 : decode cX7_declare 53 = .ok (.ireturn, 1) := by decide +kernel
theorem dX7_emitTruth_0 : decode cX7_emitTruth 0 = .ok (.aload_n 0, 1) := by decide +kernel
theorem dX7_emitTruth_1 : decode cX7_emitTruth 1 = .ok (.getfield 41, 3) := by decide +kernel
theorem dX7_emitTruth_4 : decode cX7_emitTruth 4 = .ok (.iconst 0, 1) := by decide +kernel
theorem dX7_emitTruth_5 : decode cX7_emitTruth 5 = .ok (.iconst 0, 1) := by decide +kernel
theorem dX7_emitTruth_6 : decode cX7_emitTruth 6 = .ok (.iconst 0, 1) := by decide +kernel
theorem dX7_emitTruth_7 : decode cX7_emitTruth 7 = .ok (.invokevirtual 139, 3) := by decide +kernel
theorem dX7_emitTruth_10 : decode cX7_emitTruth 10 = .ok (.aload_n 0, 1) := by decide +kernel
theorem dX7_emitTruth_11 : decode cX7_emitTruth 11 = .ok (.getfield 41, 3) := by decide +kernel
theorem dX7_emitTruth_14 : decode cX7_emitTruth 14 = .ok (.bipush 16, 2) := by decide +kernel
theorem dX7_emitTruth_16 : decode cX7_emitTruth 16 = .ok (.iconst 0, 1) := by decide +kernel
theorem dX7_emitTruth_17 : decode cX7_emitTruth 17 = .ok (.iconst 0, 1) := by decide +kernel
theorem dX7_emitTruth_18 : decode cX7_emitTruth 18 = .ok (.invokevirtual 139, 3) := by decide +kernel
theorem dX7_emitTruth_21 : decode cX7_emitTruth 21 = .ok (.return_, 1) := by decide +kernel
theorem dX7_kindOfSign_0 : decode cX7_kindOfSign 0 = .ok (.iload_n 0, 1) := by decide +kernel
theorem dX7_kindOfSign_1 : decode cX7_kindOfSign 1 = .ok (.lookupswitch 182 #[(37, 147), (38, 149), (42, 143), (43, 139), (45, 141), (47, 145), (60, 164), (62, 170), (94, 155), (124, 152), (316, 158), (318, 161), (545, 179), (572, 167), (573, 176), (574, 173)], 139) := by decide +kernel
theorem dX7_kindOfSign_140 : decode cX7_kindOfSign 140 = .ok (.iconst 1, 1) := by decide +kernel
theorem dX7_kindOfSign_141 : decode cX7_kindOfSign 141 = .ok (.ireturn, 1) := by decide +kernel
theorem dX7_kindOfSign_142 : decode cX7_kindOfSign 142 = .ok (.iconst 2, 1) := by decide +kernel
theorem dX7_kindOfSign_143 : decode cX7_kindOfSign 143 = .ok (.ireturn, 1) := by decide +kernel
theorem dX7_kindOfSign_144 : decode cX7_kindOfSign 144 = .ok (.iconst 3, 1) := by decide +kernel
theorem dX7_kindOfSign_145 : decode cX7_kindOfSign 145 = .ok (.ireturn, 1) := by decide +kernel
theorem dX7_kindOfSign_146 : decode cX7_kindOfSign 146 = .ok (.iconst 4, 1) := by decide +kernel
theorem dX7_kindOfSign_147 : decode cX7_kindOfSign 147 = .ok (.ireturn, 1) := by decide +kernel
theorem dX7_kindOfSign_148 : decode cX7_kindOfSign 148 = .ok (.iconst 5, 1) := by decide +kernel
theorem dX7_kindOfSign_149 : decode cX7_kindOfSign 149 = .ok (.ireturn, 1) := by decide +kernel
theorem dX7_kindOfSign_150 : decode cX7_kindOfSign 150 = .ok (.bipush 6, 2) := by decide +kernel
theorem dX7_kindOfSign_152 : decode cX7_kindOfSign 152 = .ok (.ireturn, 1) := by decide +kernel
theorem dX7_kindOfSign_153 : decode cX7_kindOfSign 153 = .ok (.bipush 7, 2) := by decide +kernel
theorem dX7_kindOfSign_155 : decode cX7_kindOfSign 155 = .ok (.ireturn, 1) := by decide +kernel
theorem dX7_kindOfSign_156 : decode cX7_kindOfSign 156 = .ok (.bipush 8, 2) := by decide +kernel
theorem dX7_kindOfSign_158 : decode cX7_kindOfSign 158 = .ok (.ireturn, 1) := by decide +kernel
theorem dX7_kindOfSign_159 : decode cX7_kindOfSign 159 = .ok (.bipush 9, 2) := by decide +kernel
theorem dX7_kindOfSign_161 : decode cX7_kindOfSign 161 = .ok (.ireturn, 1) := by decide +kernel
theorem dX7_kindOfSign_162 : decode cX7_kindOfSign 162 = .ok (.bipush 10, 2) := by decide +kernel
theorem dX7_kindOfSign_164 : decode cX7_kindOfSign 164 = .ok (.ireturn, 1) := by decide +kernel
theorem dX7_kindOfSign_165 : decode cX7_kindOfSign 165 = .ok (.bipush 11, 2) := by decide +kernel
theorem dX7_kindOfSign_167 : decode cX7_kindOfSign 167 = .ok (.ireturn, 1) := by decide +kernel
theorem dX7_kindOfSign_168 : decode cX7_kindOfSign 168 = .ok (.bipush 12, 2) := by decide +kernel
theorem dX7_kindOfSign_170 : decode cX7_kindOfSign 170 = .ok (.ireturn, 1) := by decide +kernel
theorem dX7_kindOfSign_171 : decode cX7_kindOfSign 171 = .ok (.bipush 13, 2) := by decide +kernel
theorem dX7_kindOfSign_173 : decode cX7_kindOfSign 173 = .ok (.ireturn, 1) := by decide +kernel
theorem dX7_kindOfSign_174 : decode cX7_kindOfSign 174 = .ok (.bipush 14, 2) := by decide +kernel
theorem dX7_kindOfSign_176 : decode cX7_kindOfSign 176 = .ok (.ireturn, 1) := by decide +kernel
theorem dX7_kindOfSign_177 : decode cX7_kindOfSign 177 = .ok (.bipush 15, 2) := by decide +kernel
theorem dX7_kindOfSign_179 : decode cX7_kindOfSign 179 = .ok (.ireturn, 1) := by decide +kernel
theorem dX7_kindOfSign_180 : decode cX7_kindOfSign 180 = .ok (.bipush 16, 2) := by decide +kernel
theorem dX7_kindOfSign_182 : decode cX7_kindOfSign 182 = .ok (.ireturn, 1) := by decide +kernel
theorem dX7_kindOfSign_183 : decode cX7_kindOfSign 183 = .ok (.iconst (-1), 1) := by decide +kernel
theorem dX7_kindOfSign_184 : decode cX7_kindOfSign 184 = .ok (.ireturn, 1) := by decide +kernel
theorem dX7_noteCall_0 : decode cX7_noteCall 0 = .ok (.aload_n 0, 1) := by decide +kernel
theorem dX7_noteCall_1 : decode cX7_noteCall 1 = .ok (.getfield 63, 3) := by decide +kernel
theorem dX7_noteCall_4 : decode cX7_noteCall 4 = .ok (.sipush 600, 3) := by decide +kernel
theorem dX7_noteCall_7 : decode cX7_noteCall 7 = .ok (.if_icmp .ge 60, 3) := by decide +kernel
theorem dX7_noteCall_10 : decode cX7_noteCall 10 = .ok (.aload_n 0, 1) := by decide +kernel
theorem dX7_noteCall_11 : decode cX7_noteCall 11 = .ok (.getfield 25, 3) := by decide +kernel
theorem dX7_noteCall_14 : decode cX7_noteCall 14 = .ok (.aload_n 0, 1) := by decide +kernel
theorem dX7_noteCall_15 : decode cX7_noteCall 15 = .ok (.getfield 63, 3) := by decide +kernel
theorem dX7_noteCall_18 : decode cX7_noteCall 18 = .ok (.lload_n 1, 1) := by decide +kernel
theorem dX7_noteCall_19 : decode cX7_noteCall 19 = .ok (.lastore, 1) := by decide +kernel
theorem dX7_noteCall_20 : decode cX7_noteCall 20 = .ok (.aload_n 0, 1) := by decide +kernel
theorem dX7_noteCall_21 : decode cX7_noteCall 21 = .ok (.getfield 28, 3) := by decide +kernel
theorem dX7_noteCall_24 : decode cX7_noteCall 24 = .ok (.aload_n 0, 1) := by decide +kernel
theorem dX7_noteCall_25 : decode cX7_noteCall 25 = .ok (.getfield 63, 3) := by decide +kernel
theorem dX7_noteCall_28 : decode cX7_noteCall 28 = .ok (.aload_n 0, 1) := by decide +kernel
theorem dX7_noteCall_29 : decode cX7_noteCall 29 = .ok (.getfield 41, 3) := by decide +kernel
theorem dX7_noteCall_32 : decode cX7_noteCall 32 = .ok (.getfield 130, 3) := by decide +kernel
theorem dX7_noteCall_35 : decode cX7_noteCall 35 = .ok (.iastore, 1) := by decide +kernel
theorem dX7_noteCall_36 : decode cX7_noteCall 36 = .ok (.aload_n 0, 1) := by decide +kernel
theorem dX7_noteCall_37 : decode cX7_noteCall 37 = .ok (.getfield 31, 3) := by decide +kernel
theorem dX7_noteCall_40 : decode cX7_noteCall 40 = .ok (.aload_n 0, 1) := by decide +kernel
theorem dX7_noteCall_41 : decode cX7_noteCall 41 = .ok (.getfield 63, 3) := by decide +kernel
theorem dX7_noteCall_44 : decode cX7_noteCall 44 = .ok (.iload_n 3, 1) := by decide +kernel
theorem dX7_noteCall_45 : decode cX7_noteCall 45 = .ok (.iastore, 1) := by decide +kernel
theorem dX7_noteCall_46 : decode cX7_noteCall 46 = .ok (.aload_n 0, 1) := by decide +kernel
theorem dX7_noteCall_47 : decode cX7_noteCall 47 = .ok (.getfield 34, 3) := by decide +kernel
theorem dX7_noteCall_50 : decode cX7_noteCall 50 = .ok (.aload_n 0, 1) := by decide +kernel
theorem dX7_noteCall_51 : decode cX7_noteCall 51 = .ok (.getfield 63, 3) := by decide +kernel
theorem dX7_noteCall_54 : decode cX7_noteCall 54 = .ok (.iload 4, 2) := by decide +kernel
theorem dX7_noteCall_56 : decode cX7_noteCall 56 = .ok (.iastore, 1) := by decide +kernel
theorem dX7_noteCall_57 : decode cX7_noteCall 57 = .ok (.aload_n 0, 1) := by decide +kernel
theorem dX7_noteCall_58 : decode cX7_noteCall 58 = .ok (.dup, 1) := by decide +kernel
theorem dX7_noteCall_59 : decode cX7_noteCall 59 = .ok (.getfield 63, 3) := by decide +kernel
theorem dX7_noteCall_62 : decode cX7_noteCall 62 = .ok (.iconst 1, 1) := by decide +kernel
theorem dX7_noteCall_63 : decode cX7_noteCall 63 = .ok (.iadd, 1) := by decide +kernel
theorem dX7_noteCall_64 : decode cX7_noteCall 64 = .ok (.putfield 63, 3) := by decide +kernel
theorem dX7_noteCall_67 : decode cX7_noteCall 67 = .ok (.return_, 1) := by decide +kernel
theorem dX7_raise_0 : decode cX7_raise 0 = .ok (.iload_n 1, 1) := by decide +kernel
theorem dX7_raise_1 : decode cX7_raise 1 = .ok (.bipush 10, 2) := by decide +kernel
theorem dX7_raise_3 : decode cX7_raise 3 = .ok (.if_icmp .lt 23, 3) := by decide +kernel
theorem dX7_raise_6 : decode cX7_raise 6 = .ok (.aload_n 0, 1) := by decide +kernel
theorem dX7_raise_7 : decode cX7_raise 7 = .ok (.getfield 54, 3) := by decide +kernel
theorem dX7_raise_10 : decode cX7_raise 10 = .ok (.ifCond .lt 11, 3) := by decide +kernel
theorem dX7_raise_13 : decode cX7_raise 13 = .ok (.iload_n 2, 1) := by decide +kernel
theorem dX7_raise_14 : decode cX7_raise 14 = .ok (.aload_n 0, 1) := by decide +kernel
theorem dX7_raise_15 : decode cX7_raise 15 = .ok (.getfield 54, 3) := by decide +kernel
theorem dX7_raise_18 : decode cX7_raise 18 = .ok (.if_icmp .ge 8, 3) := by decide +kernel
theorem dX7_raise_21 : decode cX7_raise 21 = .ok (.aload_n 0, 1) := by decide +kernel
theorem dX7_raise_22 : decode cX7_raise 22 = .ok (.iload_n 2, 1) := by decide +kernel
theorem dX7_raise_23 : decode cX7_raise 23 = .ok (.putfield 54, 3) := by decide +kernel
theorem dX7_raise_26 : decode cX7_raise 26 = .ok (.iload_n 1, 1) := by decide +kernel
theorem dX7_raise_27 : decode cX7_raise 27 = .ok (.iconst 1, 1) := by decide +kernel
theorem dX7_raise_28 : decode cX7_raise 28 = .ok (.iadd, 1) := by decide +kernel
theorem dX7_raise_29 : decode cX7_raise 29 = .ok (.ireturn, 1) := by decide +kernel
theorem dX7_rowOf_0 : decode cX7_rowOf 0 = .ok (.iload_n 0, 1) := by decide +kernel
theorem dX7_rowOf_1 : decode cX7_rowOf 1 = .ok (.sipush 380, 3) := by decide +kernel
theorem dX7_rowOf_4 : decode cX7_rowOf 4 = .ok (.if_icmp .ne 5, 3) := by decide +kernel
theorem dX7_rowOf_7 : decode cX7_rowOf 7 = .ok (.iconst 0, 1) := by decide +kernel
theorem dX7_rowOf_8 : decode cX7_rowOf 8 = .ok (.ireturn, 1) := by decide +kernel
theorem dX7_rowOf_9 : decode cX7_rowOf 9 = .ok (.iload_n 0, 1) := by decide +kernel
theorem dX7_rowOf_10 : decode cX7_rowOf 10 = .ok (.sipush 294, 3) := by decide +kernel
theorem dX7_rowOf_13 : decode cX7_rowOf 13 = .ok (.if_icmp .ne 5, 3) := by decide +kernel
theorem dX7_rowOf_16 : decode cX7_rowOf 16 = .ok (.iconst 1, 1) := by decide +kernel
theorem dX7_rowOf_17 : decode cX7_rowOf 17 = .ok (.ireturn, 1) := by decide +kernel
theorem dX7_rowOf_18 : decode cX7_rowOf 18 = .ok (.iload_n 0, 1) := by decide +kernel
theorem dX7_rowOf_19 : decode cX7_rowOf 19 = .ok (.invokestatic 202, 3) := by decide +kernel
theorem dX7_rowOf_22 : decode cX7_rowOf 22 = .ok (.istore_n 1, 1) := by decide +kernel
theorem dX7_rowOf_23 : decode cX7_rowOf 23 = .ok (.iload_n 1, 1) := by decide +kernel
theorem dX7_rowOf_24 : decode cX7_rowOf 24 = .ok (.ifCond .ge 5, 3) := by decide +kernel
theorem dX7_rowOf_27 : decode cX7_rowOf 27 = .ok (.iconst (-1), 1) := by decide +kernel
theorem dX7_rowOf_28 : decode cX7_rowOf 28 = .ok (.ireturn, 1) := by decide +kernel
theorem dX7_rowOf_29 : decode cX7_rowOf 29 = .ok (.iload_n 1, 1) := by decide +kernel
theorem dX7_rowOf_30 : decode cX7_rowOf 30 = .ok (.bipush 11, 2) := by decide +kernel
theorem dX7_rowOf_32 : decode cX7_rowOf 32 = .ok (.if_icmp .lt 5, 3) := by decide +kernel
theorem dX7_rowOf_35 : decode cX7_rowOf 35 = .ok (.iconst 2, 1) := by decide +kernel
theorem dX7_rowOf_36 : decode cX7_rowOf 36 = .ok (.ireturn, 1) := by decide +kernel
theorem dX7_rowOf_37 : decode cX7_rowOf 37 = .ok (.iload_n 1, 1) := by decide +kernel
theorem dX7_rowOf_38 : decode cX7_rowOf 38 = .ok (.iconst 1, 1) := by decide +kernel
theorem dX7_rowOf_39 : decode cX7_rowOf 39 = .ok (.if_icmp .eq 20, 3) := by decide +kernel
theorem dX7_rowOf_42 : decode cX7_rowOf 42 = .ok (.iload_n 1, 1) := by decide +kernel
theorem dX7_rowOf_43 : decode cX7_rowOf 43 = .ok (.iconst 2, 1) := by decide +kernel
theorem dX7_rowOf_44 : decode cX7_rowOf 44 = .ok (.if_icmp .eq 15, 3) := by decide +kernel
theorem dX7_rowOf_47 : decode cX7_rowOf 47 = .ok (.iload_n 1, 1) := by decide +kernel
theorem dX7_rowOf_48 : decode cX7_rowOf 48 = .ok (.bipush 7, 2) := by decide +kernel
theorem dX7_rowOf_50 : decode cX7_rowOf 50 = .ok (.if_icmp .eq 9, 3) := by decide +kernel
theorem dX7_rowOf_53 : decode cX7_rowOf 53 = .ok (.iload_n 1, 1) := by decide +kernel
theorem dX7_rowOf_54 : decode cX7_rowOf 54 = .ok (.bipush 8, 2) := by decide +kernel
theorem dX7_rowOf_56 : decode cX7_rowOf 56 = .ok (.if_icmp .ne 7, 3) := by decide +kernel
theorem dX7_rowOf_59 : decode cX7_rowOf 59 = .ok (.iconst 3, 1) := by decide +kernel
theorem dX7_rowOf_60 : decode cX7_rowOf 60 = .ok (.goto 4, 3) := by decide +kernel
theorem dX7_rowOf_63 : decode cX7_rowOf 63 = .ok (.iconst 4, 1) := by decide +kernel
theorem dX7_rowOf_64 : decode cX7_rowOf 64 = .ok (.ireturn, 1) := by decide +kernel
theorem qw165 : Cond.fieldLink RX7 41 "Gearbox$Reader" "program" "LGearbox$Program;" ∈ gw := mq_1 (i := 90) rfl rfl
theorem qw175 : Cond.fieldLink RX7 54 "Gearbox$Reader" "tallPlace" "I" ∈ gw := mq_1 (i := 93) rfl rfl
theorem qw176 : Cond.fieldLink RX7 57 "Gearbox$Reader" "fault" "I" ∈ gw := mq_1 (i := 94) rfl rfl
theorem qw177 : Cond.fieldLink RX7 60 "Gearbox$Reader" "faultPlace" "I" ∈ gw := mq_1 (i := 87) rfl rfl
theorem qw178 : Cond.fieldLink RX7 63 "Gearbox$Reader" "calls" "I" ∈ gw := mq_1 (i := 105) rfl rfl
theorem qw509 : Cond.fieldLink RX7 89 "Gearbox$Reader" "function" "I" ∈ gw := mq_1 (i := 91) rfl rfl
theorem qw510 : Cond.code yX6_newVariable cX6_newVariable 2 (Option.some Jvm.ClassFile.FieldType.int) ∈ gw := mq_5 (i := 84) rfl rfl
theorem qw511 : Cond.methodLink RX7 217 yX6_newVariable ∈ gw := mq_5 (i := 81) rfl rfl
theorem qw512 : Cond.instanceMethod yX6_newVariable ∈ gw := mq_5 (i := 82) rfl rfl
theorem qw513 : Cond.selects RX6 yX6_newVariable yX6_newVariable ∈ gw := mq_5 (i := 83) rfl rfl
theorem qw514 : Cond.fieldLink RX7 92 "Gearbox$Reader" "seen" "I" ∈ gw := mq_1 (i := 97) rfl rfl
theorem qw515 : Cond.methodLink RX7 139 yX6_emit ∈ gw := mq_5 (i := 85) rfl rfl
theorem qw518 : Cond.fieldLink RX7 130 "Gearbox$Program" "ops" "I" ∈ gw := mq_3 (i := 176) rfl rfl
theorem qw525 : Cond.initialized RX7 ∈ gw := mq_1 (i := 18) rfl rfl
theorem qw536 : Cond.code yX7_kindOfSign cX7_kindOfSign 1 (Option.some Jvm.ClassFile.FieldType.int) ∈ gw := mq_5 (i := 143) rfl rfl
theorem qw537 : Cond.methodLink RX7 202 yX7_kindOfSign ∈ gw := mq_5 (i := 141) rfl rfl
theorem qw538 : Cond.static yX7_kindOfSign ∈ gw := mq_5 (i := 142) rfl rfl
def sX7_blame_0_0 (w_faultPlace : Int32) (w_fault : Int32) (p0 : Int32) (p1 : Int32) : Int32 := (if w_fault = 0 then p1 else (if p1 < w_faultPlace then p1 else (if p1 = w_faultPlace then (if w_fault ≤ p0 then w_faultPlace else p1) else w_faultPlace)))
def sX7_blame_0_6 (w_faultPlace : Int32) (w_fault : Int32) (p0 : Int32) (p1 : Int32) : Int32 := (if w_fault = 0 then p0 else (if p1 < w_faultPlace then p0 else (if p1 = w_faultPlace then (if w_fault ≤ p0 then w_fault else p0) else w_fault)))
set_option maxHeartbeats 4000000 in
set_option maxRecDepth 100000 in
theorem kX7_blame {zs : Nat × Nat} (l : Launch) (dC : Nat → ClassId) (dI : Nat → Nat → Nat) (h0 : Nat) (w_faultPlace : Int32) (w_function : Int32) (w_open : Int32) (w_tallPlace : Int32) (w_fault : Int32) (w_seenNameA : Nat) (w_seenVariableA : Nat) (w_seen : Int32) (w_loopHeadA : Nat) (w_loopEndA : Nat) (w_loops : Int32) (w_callNameA : Nat) (w_callOpA : Nat) (w_callPlaceA : Nat) (w_callArgumentsA : Nat) (w_calls : Int32) (w_tokensO : Nat) (w_programO : Nat) (p0 : Int32) (p1 : Int32) (sz : Nat)  : Met l yX7_blame (wz yX7_blame cX7_blame 3 (Option.none : Option Jvm.ClassFile.FieldType)) ({ frames := 0, cells := 0, slots := 0, locals := 0 }) (va_Pc [.ref h0, .int p0, .int p1] (PRE zs dC dI [(h0, .inr (1, [.int w_faultPlace, .ref w_tokensO, .ref w_programO, .int w_function, .int w_open, .int w_tallPlace, .int w_fault, .ref w_seenNameA, .ref w_seenVariableA, .int w_seen, .ref w_loopHeadA, .ref w_loopEndA, .int w_loops, .ref w_callNameA, .ref w_callOpA, .ref w_callPlaceA, .ref w_callArgumentsA, .int w_calls]))] [] sz)) (va_Qv (fun (_ : Unit) => True) (fun _ t => POST dC dI [(h0, .inr (1, [.int (sX7_blame_0_0 w_faultPlace w_fault p0 p1), .ref w_tokensO, .ref w_programO, .int w_function, .int w_open, .int w_tallPlace, .int (sX7_blame_0_6 w_faultPlace w_fault p0 p1), .ref w_seenNameA, .ref w_seenVariableA, .int w_seen, .ref w_loopHeadA, .ref w_loopEndA, .int w_loops, .ref w_callNameA, .ref w_callOpA, .ref w_callPlaceA, .ref w_callArgumentsA, .int w_calls]))] [] (va_A [(h0, .inr (1, [.int w_faultPlace, .ref w_tokensO, .ref w_programO, .int w_function, .int w_open, .int w_tallPlace, .int w_fault, .ref w_seenNameA, .ref w_seenVariableA, .int w_seen, .ref w_loopHeadA, .ref w_loopEndA, .int w_loops, .ref w_callNameA, .ref w_callOpA, .ref w_callPlaceA, .ref w_callArgumentsA, .int w_calls]))] sz) t) (va_A [(h0, .inr (1, [.int w_faultPlace, .ref w_tokensO, .ref w_programO, .int w_function, .int w_open, .int w_tallPlace, .int w_fault, .ref w_seenNameA, .ref w_seenVariableA, .int w_seen, .ref w_loopHeadA, .ref w_loopEndA, .int w_loops, .ref w_callNameA, .ref w_callOpA, .ref w_callPlaceA, .ref w_callArgumentsA, .int w_calls]))] sz)) 0 0 (va_A [(h0, .inr (1, [.int w_faultPlace, .ref w_tokensO, .ref w_programO, .int w_function, .int w_open, .int w_tallPlace, .int w_fault, .ref w_seenNameA, .ref w_seenVariableA, .int w_seen, .ref w_loopHeadA, .ref w_loopEndA, .int w_loops, .ref w_callNameA, .ref w_callOpA, .ref w_callPlaceA, .ref w_callArgumentsA, .int w_calls]))] sz) := by
  refine Met.ofW (cc := cX7_blame) (maxL := 3) (ret := (Option.none : Option Jvm.ClassFile.FieldType)) (by decide) rfl ?_
  intro p e s m args below meth c s₁ B hml hv
  obtain ⟨rfl, hsz, hP, hK, hD0, hE⟩ := hv
  have hx := B.exec
  have hb := B.bytes
  have hr := B.returns
  have hts0 := atoms_spec (ws := wz yX7_blame cX7_blame 3 (Option.none : Option Jvm.ClassFile.FieldType)) B.pre
  have hts : ∀ w ∈ gw, w.before _ s = true := fun w h => hts0 w (List.mem_cons_of_mem _ h)
  have hown : s.vm.findClass RX7 = some m.cls := findClass_of_methodNamed B.named
  have hlocks := B.notSynchronized
  subst hsz
  have hD := hD0.self (sz := s.heap.size)
  generalize hAe : va_A [(h0, .inr (1, [.int w_faultPlace, .ref w_tokensO, .ref w_programO, .int w_function, .int w_open, .int w_tallPlace, .int w_fault, .ref w_seenNameA, .ref w_seenVariableA, .int w_seen, .ref w_loopHeadA, .ref w_loopEndA, .int w_loops, .ref w_callNameA, .ref w_callOpA, .ref w_callPlaceA, .ref w_callArgumentsA, .int w_calls]))] s.heap.size = A at hD hE ⊢
  have hA : ∀ q : Nat, s.heap.size ≤ q → A q := fun q h => by rw [← hAe]; exact Or.inr h
  have hS : va_S A s.heap s.heap [] := va_S.rf
  have hP : va_P (dC, dI) cls [(h0, .inr (1, [.int w_faultPlace, .ref w_tokensO, .ref w_programO, .int w_function, .int w_open, .int w_tallPlace, .int w_fault, .ref w_seenNameA, .ref w_seenVariableA, .int w_seen, .ref w_loopHeadA, .ref w_loopEndA, .int w_loops, .ref w_callNameA, .ref w_callOpA, .ref w_callPlaceA, .ref w_callArgumentsA, .int w_calls]))] s.heap := hP
  have hl := lv_entry ([.ref h0, .int p0, .int p1]) (n := 3) (Nat.le_of_ble_eq_true rfl)
  rw [lg_entry_eq]
  generalize (lg_sl ([.ref h0, .int p0, .int p1]) ++ List.replicate (3 - (lg_sl ([.ref h0, .int p0, .int p1])).length) Slot.unset).toArray = ls at hl ⊢
  have hl : lv_has ls 3 [(0, .ref h0), (1, .int p0), (2, .int p1)] := hl
  refine lv_aload_n hx hb dX7_blame_0 rfl (lv_at hl 0 rfl) ?_
  refine va_get (D := (dC, dI)) (ci := 1) (v := .int w_fault) (C := RX7) (T := TX7) (N := 18) hx hb hts i_X7 hown hK hP 0 rfl rfl 6 (by decide) (hts _ qw176) (fun _ h9 => h9) rfl dX7_blame_1 ?_
  by_cases hc1 : w_fault = 0
  · refine lv_if_eq (tgt := 31) hx hb dX7_blame_4 (by decide) (fun _ => ?_) (fun c => absurd hc1 c)
    refine lv_aload_n hx hb dX7_blame_31 rfl (lv_at hl 0 rfl) ?_
    refine lv_iload_n hx hb dX7_blame_32 rfl (lv_at hl 1 rfl) ?_
    refine va_put (D := (dC, dI)) (ci := 1) (v := .int p0) (ty := .int) (C := RX7) (T := TX7) (N := 18) hx hb hts i_X7 tyX7 tyX7_ok nmX7 hown hK hP hD hS 0 rfl rfl 6 (by decide) (hts _ qw176) (fun _ h9 => h9) rfl (by decide +kernel) rfl rfl (Nat.le_of_ble_eq_true rfl) dX7_blame_33 (fun H locs hP hD hS => ?_)
    have hP : va_P (dC, dI) cls [(h0, .inr (1, [.int w_faultPlace, .ref w_tokensO, .ref w_programO, .int w_function, .int w_open, .int w_tallPlace, .int p0, .ref w_seenNameA, .ref w_seenVariableA, .int w_seen, .ref w_loopHeadA, .ref w_loopEndA, .int w_loops, .ref w_callNameA, .ref w_callOpA, .ref w_callPlaceA, .ref w_callArgumentsA, .int w_calls]))] H := hP
    have hD : va_D A [(h0, .inr (1, [.int w_faultPlace, .ref w_tokensO, .ref w_programO, .int w_function, .int w_open, .int w_tallPlace, .int p0, .ref w_seenNameA, .ref w_seenVariableA, .int w_seen, .ref w_loopHeadA, .ref w_loopEndA, .int w_loops, .ref w_callNameA, .ref w_callOpA, .ref w_callPlaceA, .ref w_callArgumentsA, .int w_calls]))] := hD
    refine lv_aload_n hx hb dX7_blame_36 rfl (lv_at hl 0 rfl) ?_
    refine lv_iload_n hx hb dX7_blame_37 rfl (lv_at hl 2 rfl) ?_
    refine va_put (D := (dC, dI)) (ci := 1) (v := .int p1) (ty := .int) (C := RX7) (T := TX7) (N := 18) hx hb hts i_X7 tyX7 tyX7_ok nmX7 hown hK hP hD hS 0 rfl rfl 0 (by decide) (hts _ qw177) (fun _ h9 => h9) rfl (by decide +kernel) rfl rfl (Nat.le_of_ble_eq_true rfl) dX7_blame_38 (fun H locs hP hD hS => ?_)
    have hP : va_P (dC, dI) cls [(h0, .inr (1, [.int p1, .ref w_tokensO, .ref w_programO, .int w_function, .int w_open, .int w_tallPlace, .int p0, .ref w_seenNameA, .ref w_seenVariableA, .int w_seen, .ref w_loopHeadA, .ref w_loopEndA, .int w_loops, .ref w_callNameA, .ref w_callOpA, .ref w_callPlaceA, .ref w_callArgumentsA, .int w_calls]))] H := hP
    have hD : va_D A [(h0, .inr (1, [.int p1, .ref w_tokensO, .ref w_programO, .int w_function, .int w_open, .int w_tallPlace, .int p0, .ref w_seenNameA, .ref w_seenVariableA, .int w_seen, .ref w_loopHeadA, .ref w_loopEndA, .int w_loops, .ref w_callNameA, .ref w_callOpA, .ref w_callPlaceA, .ref w_callArgumentsA, .int w_calls]))] := hD
    have e_sX7_blame_0_0 : sX7_blame_0_0 w_faultPlace w_fault p0 p1 = p1 := by unfold sX7_blame_0_0; rw [if_pos hc1]
    have e_sX7_blame_0_6 : sX7_blame_0_6 w_faultPlace w_fault p0 p1 = p0 := by unfold sX7_blame_0_6; rw [if_pos hc1]
    have hP9 : va_P (dC, dI) cls [(h0, .inr (1, [.int (sX7_blame_0_0 w_faultPlace w_fault p0 p1), .ref w_tokensO, .ref w_programO, .int w_function, .int w_open, .int w_tallPlace, .int (sX7_blame_0_6 w_faultPlace w_fault p0 p1), .ref w_seenNameA, .ref w_seenVariableA, .int w_seen, .ref w_loopHeadA, .ref w_loopEndA, .int w_loops, .ref w_callNameA, .ref w_callOpA, .ref w_callPlaceA, .ref w_callArgumentsA, .int w_calls]))] H := by rw [e_sX7_blame_0_0, e_sX7_blame_0_6]; exact hP.sub [0] rfl
    have hD9 : va_D A [(h0, .inr (1, [.int (sX7_blame_0_0 w_faultPlace w_fault p0 p1), .ref w_tokensO, .ref w_programO, .int w_function, .int w_open, .int w_tallPlace, .int (sX7_blame_0_6 w_faultPlace w_fault p0 p1), .ref w_seenNameA, .ref w_seenVariableA, .int w_seen, .ref w_loopHeadA, .ref w_loopEndA, .int w_loops, .ref w_callNameA, .ref w_callOpA, .ref w_callPlaceA, .ref w_callArgumentsA, .int w_calls]))] := by rw [e_sX7_blame_0_0, e_sX7_blame_0_6]; exact hD.sub [0] (by decide) rfl
    have hK9 : va_K (dC, dI) cls [] s := hK.sub [] rfl
    refine W.widen (k := 0) (n := 0) (Nat.le_of_ble_eq_true rfl) (Nat.le_of_ble_eq_true rfl) ?_
    exact W.vret hx hb hr (fun t ht hW => ⟨⟨(), rfl, trivial, ⟨by rw [ht]; exact hP9, va_K.moved hW.alike hK9, hD9⟩⟩, hS.F ht⟩) hS.2.2 dX7_blame_41
  · refine lv_if_eq (tgt := 31) hx hb dX7_blame_4 (by decide) (fun c => absurd c hc1) (fun _ => ?_)
    refine lv_iload_n hx hb dX7_blame_7 rfl (lv_at hl 2 rfl) ?_
    refine lv_aload_n hx hb dX7_blame_8 rfl (lv_at hl 0 rfl) ?_
    refine va_get (D := (dC, dI)) (ci := 1) (v := .int w_faultPlace) (C := RX7) (T := TX7) (N := 18) hx hb hts i_X7 hown hK hP 0 rfl rfl 0 (by decide) (hts _ qw177) (fun _ h9 => h9) rfl dX7_blame_9 ?_
    by_cases hc2 : p1 < w_faultPlace
    · refine lv_icmp_lt (tgt := 31) hx hb dX7_blame_12 (by decide) (fun _ => ?_) (fun c => absurd hc2 c)
      refine lv_aload_n hx hb dX7_blame_31 rfl (lv_at hl 0 rfl) ?_
      refine lv_iload_n hx hb dX7_blame_32 rfl (lv_at hl 1 rfl) ?_
      refine va_put (D := (dC, dI)) (ci := 1) (v := .int p0) (ty := .int) (C := RX7) (T := TX7) (N := 18) hx hb hts i_X7 tyX7 tyX7_ok nmX7 hown hK hP hD hS 0 rfl rfl 6 (by decide) (hts _ qw176) (fun _ h9 => h9) rfl (by decide +kernel) rfl rfl (Nat.le_of_ble_eq_true rfl) dX7_blame_33 (fun H locs hP hD hS => ?_)
      have hP : va_P (dC, dI) cls [(h0, .inr (1, [.int w_faultPlace, .ref w_tokensO, .ref w_programO, .int w_function, .int w_open, .int w_tallPlace, .int p0, .ref w_seenNameA, .ref w_seenVariableA, .int w_seen, .ref w_loopHeadA, .ref w_loopEndA, .int w_loops, .ref w_callNameA, .ref w_callOpA, .ref w_callPlaceA, .ref w_callArgumentsA, .int w_calls]))] H := hP
      have hD : va_D A [(h0, .inr (1, [.int w_faultPlace, .ref w_tokensO, .ref w_programO, .int w_function, .int w_open, .int w_tallPlace, .int p0, .ref w_seenNameA, .ref w_seenVariableA, .int w_seen, .ref w_loopHeadA, .ref w_loopEndA, .int w_loops, .ref w_callNameA, .ref w_callOpA, .ref w_callPlaceA, .ref w_callArgumentsA, .int w_calls]))] := hD
      refine lv_aload_n hx hb dX7_blame_36 rfl (lv_at hl 0 rfl) ?_
      refine lv_iload_n hx hb dX7_blame_37 rfl (lv_at hl 2 rfl) ?_
      refine va_put (D := (dC, dI)) (ci := 1) (v := .int p1) (ty := .int) (C := RX7) (T := TX7) (N := 18) hx hb hts i_X7 tyX7 tyX7_ok nmX7 hown hK hP hD hS 0 rfl rfl 0 (by decide) (hts _ qw177) (fun _ h9 => h9) rfl (by decide +kernel) rfl rfl (Nat.le_of_ble_eq_true rfl) dX7_blame_38 (fun H locs hP hD hS => ?_)
      have hP : va_P (dC, dI) cls [(h0, .inr (1, [.int p1, .ref w_tokensO, .ref w_programO, .int w_function, .int w_open, .int w_tallPlace, .int p0, .ref w_seenNameA, .ref w_seenVariableA, .int w_seen, .ref w_loopHeadA, .ref w_loopEndA, .int w_loops, .ref w_callNameA, .ref w_callOpA, .ref w_callPlaceA, .ref w_callArgumentsA, .int w_calls]))] H := hP
      have hD : va_D A [(h0, .inr (1, [.int p1, .ref w_tokensO, .ref w_programO, .int w_function, .int w_open, .int w_tallPlace, .int p0, .ref w_seenNameA, .ref w_seenVariableA, .int w_seen, .ref w_loopHeadA, .ref w_loopEndA, .int w_loops, .ref w_callNameA, .ref w_callOpA, .ref w_callPlaceA, .ref w_callArgumentsA, .int w_calls]))] := hD
      have e_sX7_blame_0_0 : sX7_blame_0_0 w_faultPlace w_fault p0 p1 = p1 := by unfold sX7_blame_0_0; rw [if_neg hc1, if_pos hc2]
      have e_sX7_blame_0_6 : sX7_blame_0_6 w_faultPlace w_fault p0 p1 = p0 := by unfold sX7_blame_0_6; rw [if_neg hc1, if_pos hc2]
      have hP9 : va_P (dC, dI) cls [(h0, .inr (1, [.int (sX7_blame_0_0 w_faultPlace w_fault p0 p1), .ref w_tokensO, .ref w_programO, .int w_function, .int w_open, .int w_tallPlace, .int (sX7_blame_0_6 w_faultPlace w_fault p0 p1), .ref w_seenNameA, .ref w_seenVariableA, .int w_seen, .ref w_loopHeadA, .ref w_loopEndA, .int w_loops, .ref w_callNameA, .ref w_callOpA, .ref w_callPlaceA, .ref w_callArgumentsA, .int w_calls]))] H := by rw [e_sX7_blame_0_0, e_sX7_blame_0_6]; exact hP.sub [0] rfl
      have hD9 : va_D A [(h0, .inr (1, [.int (sX7_blame_0_0 w_faultPlace w_fault p0 p1), .ref w_tokensO, .ref w_programO, .int w_function, .int w_open, .int w_tallPlace, .int (sX7_blame_0_6 w_faultPlace w_fault p0 p1), .ref w_seenNameA, .ref w_seenVariableA, .int w_seen, .ref w_loopHeadA, .ref w_loopEndA, .int w_loops, .ref w_callNameA, .ref w_callOpA, .ref w_callPlaceA, .ref w_callArgumentsA, .int w_calls]))] := by rw [e_sX7_blame_0_0, e_sX7_blame_0_6]; exact hD.sub [0] (by decide) rfl
      have hK9 : va_K (dC, dI) cls [] s := hK.sub [] rfl
      refine W.widen (k := 0) (n := 0) (Nat.le_of_ble_eq_true rfl) (Nat.le_of_ble_eq_true rfl) ?_
      exact W.vret hx hb hr (fun t ht hW => ⟨⟨(), rfl, trivial, ⟨by rw [ht]; exact hP9, va_K.moved hW.alike hK9, hD9⟩⟩, hS.F ht⟩) hS.2.2 dX7_blame_41
    · refine lv_icmp_lt (tgt := 31) hx hb dX7_blame_12 (by decide) (fun c => absurd c hc2) (fun _ => ?_)
      refine lv_iload_n hx hb dX7_blame_15 rfl (lv_at hl 2 rfl) ?_
      refine lv_aload_n hx hb dX7_blame_16 rfl (lv_at hl 0 rfl) ?_
      refine va_get (D := (dC, dI)) (ci := 1) (v := .int w_faultPlace) (C := RX7) (T := TX7) (N := 18) hx hb hts i_X7 hown hK hP 0 rfl rfl 0 (by decide) (hts _ qw177) (fun _ h9 => h9) rfl dX7_blame_17 ?_
      by_cases hc3 : p1 = w_faultPlace
      · refine lv_icmp_ne (tgt := 41) hx hb dX7_blame_20 (by decide) (fun c => absurd hc3 c) (fun _ => ?_)
        refine lv_iload_n hx hb dX7_blame_23 rfl (lv_at hl 1 rfl) ?_
        refine lv_aload_n hx hb dX7_blame_24 rfl (lv_at hl 0 rfl) ?_
        refine va_get (D := (dC, dI)) (ci := 1) (v := .int w_fault) (C := RX7) (T := TX7) (N := 18) hx hb hts i_X7 hown hK hP 0 rfl rfl 6 (by decide) (hts _ qw176) (fun _ h9 => h9) rfl dX7_blame_25 ?_
        by_cases hc4 : w_fault ≤ p0
        · refine lv_icmp_ge (tgt := 41) hx hb dX7_blame_28 (by decide) (fun _ => ?_) (fun c => absurd hc4 c)
          have e_sX7_blame_0_0 : sX7_blame_0_0 w_faultPlace w_fault p0 p1 = w_faultPlace := by unfold sX7_blame_0_0; rw [if_neg hc1, if_neg hc2, if_pos hc3, if_pos hc4]
          have e_sX7_blame_0_6 : sX7_blame_0_6 w_faultPlace w_fault p0 p1 = w_fault := by unfold sX7_blame_0_6; rw [if_neg hc1, if_neg hc2, if_pos hc3, if_pos hc4]
          have hP9 : va_P (dC, dI) cls [(h0, .inr (1, [.int (sX7_blame_0_0 w_faultPlace w_fault p0 p1), .ref w_tokensO, .ref w_programO, .int w_function, .int w_open, .int w_tallPlace, .int (sX7_blame_0_6 w_faultPlace w_fault p0 p1), .ref w_seenNameA, .ref w_seenVariableA, .int w_seen, .ref w_loopHeadA, .ref w_loopEndA, .int w_loops, .ref w_callNameA, .ref w_callOpA, .ref w_callPlaceA, .ref w_callArgumentsA, .int w_calls]))] s.heap := by rw [e_sX7_blame_0_0, e_sX7_blame_0_6]; exact hP.sub [0] rfl
          have hD9 : va_D A [(h0, .inr (1, [.int (sX7_blame_0_0 w_faultPlace w_fault p0 p1), .ref w_tokensO, .ref w_programO, .int w_function, .int w_open, .int w_tallPlace, .int (sX7_blame_0_6 w_faultPlace w_fault p0 p1), .ref w_seenNameA, .ref w_seenVariableA, .int w_seen, .ref w_loopHeadA, .ref w_loopEndA, .int w_loops, .ref w_callNameA, .ref w_callOpA, .ref w_callPlaceA, .ref w_callArgumentsA, .int w_calls]))] := by rw [e_sX7_blame_0_0, e_sX7_blame_0_6]; exact hD.sub [0] (by decide) rfl
          have hK9 : va_K (dC, dI) cls [] s := hK.sub [] rfl
          refine W.widen (k := 0) (n := 0) (Nat.le_of_ble_eq_true rfl) (Nat.le_of_ble_eq_true rfl) ?_
          exact W.vret hx hb hr (fun t ht hW => ⟨⟨(), rfl, trivial, ⟨by rw [ht]; exact hP9, va_K.moved hW.alike hK9, hD9⟩⟩, hS.F ht⟩) hS.2.2 dX7_blame_41
        · refine lv_icmp_ge (tgt := 41) hx hb dX7_blame_28 (by decide) (fun c => absurd c hc4) (fun _ => ?_)
          refine lv_aload_n hx hb dX7_blame_31 rfl (lv_at hl 0 rfl) ?_
          refine lv_iload_n hx hb dX7_blame_32 rfl (lv_at hl 1 rfl) ?_
          refine va_put (D := (dC, dI)) (ci := 1) (v := .int p0) (ty := .int) (C := RX7) (T := TX7) (N := 18) hx hb hts i_X7 tyX7 tyX7_ok nmX7 hown hK hP hD hS 0 rfl rfl 6 (by decide) (hts _ qw176) (fun _ h9 => h9) rfl (by decide +kernel) rfl rfl (Nat.le_of_ble_eq_true rfl) dX7_blame_33 (fun H locs hP hD hS => ?_)
          have hP : va_P (dC, dI) cls [(h0, .inr (1, [.int w_faultPlace, .ref w_tokensO, .ref w_programO, .int w_function, .int w_open, .int w_tallPlace, .int p0, .ref w_seenNameA, .ref w_seenVariableA, .int w_seen, .ref w_loopHeadA, .ref w_loopEndA, .int w_loops, .ref w_callNameA, .ref w_callOpA, .ref w_callPlaceA, .ref w_callArgumentsA, .int w_calls]))] H := hP
          have hD : va_D A [(h0, .inr (1, [.int w_faultPlace, .ref w_tokensO, .ref w_programO, .int w_function, .int w_open, .int w_tallPlace, .int p0, .ref w_seenNameA, .ref w_seenVariableA, .int w_seen, .ref w_loopHeadA, .ref w_loopEndA, .int w_loops, .ref w_callNameA, .ref w_callOpA, .ref w_callPlaceA, .ref w_callArgumentsA, .int w_calls]))] := hD
          refine lv_aload_n hx hb dX7_blame_36 rfl (lv_at hl 0 rfl) ?_
          refine lv_iload_n hx hb dX7_blame_37 rfl (lv_at hl 2 rfl) ?_
          refine va_put (D := (dC, dI)) (ci := 1) (v := .int p1) (ty := .int) (C := RX7) (T := TX7) (N := 18) hx hb hts i_X7 tyX7 tyX7_ok nmX7 hown hK hP hD hS 0 rfl rfl 0 (by decide) (hts _ qw177) (fun _ h9 => h9) rfl (by decide +kernel) rfl rfl (Nat.le_of_ble_eq_true rfl) dX7_blame_38 (fun H locs hP hD hS => ?_)
          have hP : va_P (dC, dI) cls [(h0, .inr (1, [.int p1, .ref w_tokensO, .ref w_programO, .int w_function, .int w_open, .int w_tallPlace, .int p0, .ref w_seenNameA, .ref w_seenVariableA, .int w_seen, .ref w_loopHeadA, .ref w_loopEndA, .int w_loops, .ref w_callNameA, .ref w_callOpA, .ref w_callPlaceA, .ref w_callArgumentsA, .int w_calls]))] H := hP
          have hD : va_D A [(h0, .inr (1, [.int p1, .ref w_tokensO, .ref w_programO, .int w_function, .int w_open, .int w_tallPlace, .int p0, .ref w_seenNameA, .ref w_seenVariableA, .int w_seen, .ref w_loopHeadA, .ref w_loopEndA, .int w_loops, .ref w_callNameA, .ref w_callOpA, .ref w_callPlaceA, .ref w_callArgumentsA, .int w_calls]))] := hD
          have e_sX7_blame_0_0 : sX7_blame_0_0 w_faultPlace w_fault p0 p1 = p1 := by unfold sX7_blame_0_0; rw [if_neg hc1, if_neg hc2, if_pos hc3, if_neg hc4]
          have e_sX7_blame_0_6 : sX7_blame_0_6 w_faultPlace w_fault p0 p1 = p0 := by unfold sX7_blame_0_6; rw [if_neg hc1, if_neg hc2, if_pos hc3, if_neg hc4]
          have hP9 : va_P (dC, dI) cls [(h0, .inr (1, [.int (sX7_blame_0_0 w_faultPlace w_fault p0 p1), .ref w_tokensO, .ref w_programO, .int w_function, .int w_open, .int w_tallPlace, .int (sX7_blame_0_6 w_faultPlace w_fault p0 p1), .ref w_seenNameA, .ref w_seenVariableA, .int w_seen, .ref w_loopHeadA, .ref w_loopEndA, .int w_loops, .ref w_callNameA, .ref w_callOpA, .ref w_callPlaceA, .ref w_callArgumentsA, .int w_calls]))] H := by rw [e_sX7_blame_0_0, e_sX7_blame_0_6]; exact hP.sub [0] rfl
          have hD9 : va_D A [(h0, .inr (1, [.int (sX7_blame_0_0 w_faultPlace w_fault p0 p1), .ref w_tokensO, .ref w_programO, .int w_function, .int w_open, .int w_tallPlace, .int (sX7_blame_0_6 w_faultPlace w_fault p0 p1), .ref w_seenNameA, .ref w_seenVariableA, .int w_seen, .ref w_loopHeadA, .ref w_loopEndA, .int w_loops, .ref w_callNameA, .ref w_callOpA, .ref w_callPlaceA, .ref w_callArgumentsA, .int w_calls]))] := by rw [e_sX7_blame_0_0, e_sX7_blame_0_6]; exact hD.sub [0] (by decide) rfl
          have hK9 : va_K (dC, dI) cls [] s := hK.sub [] rfl
          refine W.widen (k := 0) (n := 0) (Nat.le_of_ble_eq_true rfl) (Nat.le_of_ble_eq_true rfl) ?_
          exact W.vret hx hb hr (fun t ht hW => ⟨⟨(), rfl, trivial, ⟨by rw [ht]; exact hP9, va_K.moved hW.alike hK9, hD9⟩⟩, hS.F ht⟩) hS.2.2 dX7_blame_41
      · refine lv_icmp_ne (tgt := 41) hx hb dX7_blame_20 (by decide) (fun _ => ?_) (fun c => absurd c hc3)
        have e_sX7_blame_0_0 : sX7_blame_0_0 w_faultPlace w_fault p0 p1 = w_faultPlace := by unfold sX7_blame_0_0; rw [if_neg hc1, if_neg hc2, if_neg hc3]
        have e_sX7_blame_0_6 : sX7_blame_0_6 w_faultPlace w_fault p0 p1 = w_fault := by unfold sX7_blame_0_6; rw [if_neg hc1, if_neg hc2, if_neg hc3]
        have hP9 : va_P (dC, dI) cls [(h0, .inr (1, [.int (sX7_blame_0_0 w_faultPlace w_fault p0 p1), .ref w_tokensO, .ref w_programO, .int w_function, .int w_open, .int w_tallPlace, .int (sX7_blame_0_6 w_faultPlace w_fault p0 p1), .ref w_seenNameA, .ref w_seenVariableA, .int w_seen, .ref w_loopHeadA, .ref w_loopEndA, .int w_loops, .ref w_callNameA, .ref w_callOpA, .ref w_callPlaceA, .ref w_callArgumentsA, .int w_calls]))] s.heap := by rw [e_sX7_blame_0_0, e_sX7_blame_0_6]; exact hP.sub [0] rfl
        have hD9 : va_D A [(h0, .inr (1, [.int (sX7_blame_0_0 w_faultPlace w_fault p0 p1), .ref w_tokensO, .ref w_programO, .int w_function, .int w_open, .int w_tallPlace, .int (sX7_blame_0_6 w_faultPlace w_fault p0 p1), .ref w_seenNameA, .ref w_seenVariableA, .int w_seen, .ref w_loopHeadA, .ref w_loopEndA, .int w_loops, .ref w_callNameA, .ref w_callOpA, .ref w_callPlaceA, .ref w_callArgumentsA, .int w_calls]))] := by rw [e_sX7_blame_0_0, e_sX7_blame_0_6]; exact hD.sub [0] (by decide) rfl
        have hK9 : va_K (dC, dI) cls [] s := hK.sub [] rfl
        refine W.widen (k := 0) (n := 0) (Nat.le_of_ble_eq_true rfl) (Nat.le_of_ble_eq_true rfl) ?_
        exact W.vret hx hb hr (fun t ht hW => ⟨⟨(), rfl, trivial, ⟨by rw [ht]; exact hP9, va_K.moved hW.alike hK9, hD9⟩⟩, hS.F ht⟩) hS.2.2 dX7_blame_41
def sX7_declare_0_9 (w_seen : Int32) : Int32 := (if 320 ≤ w_seen then w_seen else (w_seen + 1))
def sX7_declare_3 (w_seenNameF : Nat → Int64) (w_seen : Int32) (p0 : Int64) : Nat → Int64 := (if 320 ≤ w_seen then w_seenNameF else (vp_updL w_seenNameF (Int32.toNatClampNeg w_seen) p0))
def sX7_declare_4 (w_function : Int32) (w_seenVariableF : Nat → Int32) (w_seen : Int32) (w_program_variablesF : Nat → Int32) : Nat → Int32 := (if 320 ≤ w_seen then w_seenVariableF else (upd w_seenVariableF (Int32.toNatClampNeg w_seen) (sX6_newVariable_r w_program_variablesF w_function)))
set_option maxHeartbeats 4000000 in
set_option maxRecDepth 100000 in
theorem kX7_declare {zs : Nat × Nat} (l : Launch) (dC : Nat → ClassId) (dI : Nat → Nat → Nat) (h0 : Nat) (w_faultPlace : Int32) (w_function : Int32) (w_open : Int32) (w_tallPlace : Int32) (w_fault : Int32) (w_seenNameA : Nat) (w_seenNameC : ClassId) (w_seenNameF : Nat → Int64) (w_seenVariableA : Nat) (w_seenVariableC : ClassId) (w_seenVariableF : Nat → Int32) (w_seen : Int32) (w_loopHeadA : Nat) (w_loopEndA : Nat) (w_loops : Int32) (w_callNameA : Nat) (w_callOpA : Nat) (w_callPlaceA : Nat) (w_callArgumentsA : Nat) (w_calls : Int32) (w_tokensO : Nat) (w_programO : Nat) (w_program_functions : Int32) (w_program_nameA : Nat) (w_program_namePlaceA : Nat) (w_program_parametersA : Nat) (w_program_variablesA : Nat) (w_program_variablesC : ClassId) (w_program_variablesF : Nat → Int32) (w_program_fromA : Nat) (w_program_toA : Nat) (w_program_ops : Int32) (w_program_opA : Nat) (w_program_argumentA : Nat) (w_program_ticksA : Nat) (w_program_labels : Int32) (w_program_labelAtA : Nat) (p0 : Int64) (sz : Nat) (hq1 : vp_in w_function 6) (hq2 : ¬ (320 ≤ w_seen) → vp_in w_seen 320) : Met l yX7_declare (wz yX7_declare cX7_declare 4 (Option.some Jvm.ClassFile.FieldType.int)) ({ frames := 1, cells := 0, slots := 0, locals := 21 }) (va_Pc [.ref h0, .long p0] (PRE zs dC dI [(h0, .inr (1, [.int w_faultPlace, .ref w_tokensO, .ref w_programO, .int w_function, .int w_open, .int w_tallPlace, .int w_fault, .ref w_seenNameA, .ref w_seenVariableA, .int w_seen, .ref w_loopHeadA, .ref w_loopEndA, .int w_loops, .ref w_callNameA, .ref w_callOpA, .ref w_callPlaceA, .ref w_callArgumentsA, .int w_calls])), (w_programO, .inr (2, [.int w_program_functions, .ref w_program_nameA, .ref w_program_namePlaceA, .ref w_program_parametersA, .ref w_program_variablesA, .ref w_program_fromA, .ref w_program_toA, .int w_program_ops, .ref w_program_opA, .ref w_program_argumentA, .ref w_program_ticksA, .int w_program_labels, .ref w_program_labelAtA])), (w_program_variablesA, .inl (w_program_variablesC, 6, .inl w_program_variablesF)), (w_seenNameA, .inl (w_seenNameC, 320, .inr (.inl w_seenNameF))), (w_seenVariableA, .inl (w_seenVariableC, 320, .inl w_seenVariableF))] [(w_program_variablesC, .int), (w_seenNameC, .long), (w_seenVariableC, .int)] sz)) (va_Qi (fun (r : Int32) (_ : Unit) => r = (sX6_newVariable_r w_program_variablesF w_function)) (fun _ t => POST dC dI [(h0, .inr (1, [.int w_faultPlace, .ref w_tokensO, .ref w_programO, .int w_function, .int w_open, .int w_tallPlace, .int w_fault, .ref w_seenNameA, .ref w_seenVariableA, .int (sX7_declare_0_9 w_seen), .ref w_loopHeadA, .ref w_loopEndA, .int w_loops, .ref w_callNameA, .ref w_callOpA, .ref w_callPlaceA, .ref w_callArgumentsA, .int w_calls])), (w_programO, .inr (2, [.int w_program_functions, .ref w_program_nameA, .ref w_program_namePlaceA, .ref w_program_parametersA, .ref w_program_variablesA, .ref w_program_fromA, .ref w_program_toA, .int w_program_ops, .ref w_program_opA, .ref w_program_argumentA, .ref w_program_ticksA, .int w_program_labels, .ref w_program_labelAtA])), (w_program_variablesA, .inl (w_program_variablesC, 6, .inl (sX6_newVariable_1 w_program_variablesF w_function))), (w_seenNameA, .inl (w_seenNameC, 320, .inr (.inl (sX7_declare_3 w_seenNameF w_seen p0)))), (w_seenVariableA, .inl (w_seenVariableC, 320, .inl (sX7_declare_4 w_function w_seenVariableF w_seen w_program_variablesF)))] [(w_program_variablesC, .int), (w_seenNameC, .long), (w_seenVariableC, .int)] (va_A [(h0, .inr (1, [.int w_faultPlace, .ref w_tokensO, .ref w_programO, .int w_function, .int w_open, .int w_tallPlace, .int w_fault, .ref w_seenNameA, .ref w_seenVariableA, .int w_seen, .ref w_loopHeadA, .ref w_loopEndA, .int w_loops, .ref w_callNameA, .ref w_callOpA, .ref w_callPlaceA, .ref w_callArgumentsA, .int w_calls])), (w_programO, .inr (2, [.int w_program_functions, .ref w_program_nameA, .ref w_program_namePlaceA, .ref w_program_parametersA, .ref w_program_variablesA, .ref w_program_fromA, .ref w_program_toA, .int w_program_ops, .ref w_program_opA, .ref w_program_argumentA, .ref w_program_ticksA, .int w_program_labels, .ref w_program_labelAtA])), (w_program_variablesA, .inl (w_program_variablesC, 6, .inl w_program_variablesF)), (w_seenNameA, .inl (w_seenNameC, 320, .inr (.inl w_seenNameF))), (w_seenVariableA, .inl (w_seenVariableC, 320, .inl w_seenVariableF))] sz) t) (va_A [(h0, .inr (1, [.int w_faultPlace, .ref w_tokensO, .ref w_programO, .int w_function, .int w_open, .int w_tallPlace, .int w_fault, .ref w_seenNameA, .ref w_seenVariableA, .int w_seen, .ref w_loopHeadA, .ref w_loopEndA, .int w_loops, .ref w_callNameA, .ref w_callOpA, .ref w_callPlaceA, .ref w_callArgumentsA, .int w_calls])), (w_programO, .inr (2, [.int w_program_functions, .ref w_program_nameA, .ref w_program_namePlaceA, .ref w_program_parametersA, .ref w_program_variablesA, .ref w_program_fromA, .ref w_program_toA, .int w_program_ops, .ref w_program_opA, .ref w_program_argumentA, .ref w_program_ticksA, .int w_program_labels, .ref w_program_labelAtA])), (w_program_variablesA, .inl (w_program_variablesC, 6, .inl w_program_variablesF)), (w_seenNameA, .inl (w_seenNameC, 320, .inr (.inl w_seenNameF))), (w_seenVariableA, .inl (w_seenVariableC, 320, .inl w_seenVariableF))] sz)) 0 0 (va_A [(h0, .inr (1, [.int w_faultPlace, .ref w_tokensO, .ref w_programO, .int w_function, .int w_open, .int w_tallPlace, .int w_fault, .ref w_seenNameA, .ref w_seenVariableA, .int w_seen, .ref w_loopHeadA, .ref w_loopEndA, .int w_loops, .ref w_callNameA, .ref w_callOpA, .ref w_callPlaceA, .ref w_callArgumentsA, .int w_calls])), (w_programO, .inr (2, [.int w_program_functions, .ref w_program_nameA, .ref w_program_namePlaceA, .ref w_program_parametersA, .ref w_program_variablesA, .ref w_program_fromA, .ref w_program_toA, .int w_program_ops, .ref w_program_opA, .ref w_program_argumentA, .ref w_program_ticksA, .int w_program_labels, .ref w_program_labelAtA])), (w_program_variablesA, .inl (w_program_variablesC, 6, .inl w_program_variablesF)), (w_seenNameA, .inl (w_seenNameC, 320, .inr (.inl w_seenNameF))), (w_seenVariableA, .inl (w_seenVariableC, 320, .inl w_seenVariableF))] sz) := by
  refine Met.ofW (cc := cX7_declare) (maxL := 4) (ret := (Option.some Jvm.ClassFile.FieldType.int)) (by decide) rfl ?_
  intro p e s m args below meth c s₁ B hml hv
  obtain ⟨rfl, hsz, hP, hK, hD0, hE⟩ := hv
  have hx := B.exec
  have hb := B.bytes
  have hr := B.returns
  have hts0 := atoms_spec (ws := wz yX7_declare cX7_declare 4 (Option.some Jvm.ClassFile.FieldType.int)) B.pre
  have hts : ∀ w ∈ gw, w.before _ s = true := fun w h => hts0 w (List.mem_cons_of_mem _ h)
  have hown : s.vm.findClass RX7 = some m.cls := findClass_of_methodNamed B.named
  have hlocks := B.notSynchronized
  subst hsz
  have hD := hD0.self (sz := s.heap.size)
  generalize hAe : va_A [(h0, .inr (1, [.int w_faultPlace, .ref w_tokensO, .ref w_programO, .int w_function, .int w_open, .int w_tallPlace, .int w_fault, .ref w_seenNameA, .ref w_seenVariableA, .int w_seen, .ref w_loopHeadA, .ref w_loopEndA, .int w_loops, .ref w_callNameA, .ref w_callOpA, .ref w_callPlaceA, .ref w_callArgumentsA, .int w_calls])), (w_programO, .inr (2, [.int w_program_functions, .ref w_program_nameA, .ref w_program_namePlaceA, .ref w_program_parametersA, .ref w_program_variablesA, .ref w_program_fromA, .ref w_program_toA, .int w_program_ops, .ref w_program_opA, .ref w_program_argumentA, .ref w_program_ticksA, .int w_program_labels, .ref w_program_labelAtA])), (w_program_variablesA, .inl (w_program_variablesC, 6, .inl w_program_variablesF)), (w_seenNameA, .inl (w_seenNameC, 320, .inr (.inl w_seenNameF))), (w_seenVariableA, .inl (w_seenVariableC, 320, .inl w_seenVariableF))] s.heap.size = A at hD hE ⊢
  have hA : ∀ q : Nat, s.heap.size ≤ q → A q := fun q h => by rw [← hAe]; exact Or.inr h
  have hS : va_S A s.heap s.heap [] := va_S.rf
  have hP : va_P (dC, dI) cls [(h0, .inr (1, [.int w_faultPlace, .ref w_tokensO, .ref w_programO, .int w_function, .int w_open, .int w_tallPlace, .int w_fault, .ref w_seenNameA, .ref w_seenVariableA, .int w_seen, .ref w_loopHeadA, .ref w_loopEndA, .int w_loops, .ref w_callNameA, .ref w_callOpA, .ref w_callPlaceA, .ref w_callArgumentsA, .int w_calls])), (w_programO, .inr (2, [.int w_program_functions, .ref w_program_nameA, .ref w_program_namePlaceA, .ref w_program_parametersA, .ref w_program_variablesA, .ref w_program_fromA, .ref w_program_toA, .int w_program_ops, .ref w_program_opA, .ref w_program_argumentA, .ref w_program_ticksA, .int w_program_labels, .ref w_program_labelAtA])), (w_program_variablesA, .inl (w_program_variablesC, 6, .inl w_program_variablesF)), (w_seenNameA, .inl (w_seenNameC, 320, .inr (.inl w_seenNameF))), (w_seenVariableA, .inl (w_seenVariableC, 320, .inl w_seenVariableF))] s.heap := hP
  have hl := lv_entry ([.ref h0, .long p0]) (n := 4) (Nat.le_of_ble_eq_true rfl)
  rw [lg_entry_eq]
  generalize (lg_sl ([.ref h0, .long p0]) ++ List.replicate (4 - (lg_sl ([.ref h0, .long p0])).length) Slot.unset).toArray = ls at hl ⊢
  have hl : lv_has ls 4 [(0, .ref h0), (1, .long p0)] := hl
  refine lv_aload_n hx hb dX7_declare_0 rfl (lv_at hl 0 rfl) ?_
  refine va_get (D := (dC, dI)) (ci := 1) (v := .ref w_programO) (C := RX7) (T := TX7) (N := 18) hx hb hts i_X7 hown hK hP 0 rfl rfl 2 (by decide) (hts _ qw165) (fun _ h9 => h9) rfl dX7_declare_1 ?_
  refine lv_aload_n hx hb dX7_declare_4 rfl (lv_at hl 0 rfl) ?_
  refine va_get (D := (dC, dI)) (ci := 1) (v := .int w_function) (C := RX7) (T := TX7) (N := 18) hx hb hts i_X7 hown hK hP 0 rfl rfl 3 (by decide) (hts _ qw509) (fun _ h9 => h9) rfl dX7_declare_5 ?_
  have hPc := hP.sub (ws' := [(w_programO, .inr (2, [.int w_program_functions, .ref w_program_nameA, .ref w_program_namePlaceA, .ref w_program_parametersA, .ref w_program_variablesA, .ref w_program_fromA, .ref w_program_toA, .int w_program_ops, .ref w_program_opA, .ref w_program_argumentA, .ref w_program_ticksA, .int w_program_labels, .ref w_program_labelAtA])), (w_program_variablesA, .inl (w_program_variablesC, 6, .inl w_program_variablesF))]) [1, 2] rfl
  have hDc := hD.sub (ws' := [(w_programO, .inr (2, [.int w_program_functions, .ref w_program_nameA, .ref w_program_namePlaceA, .ref w_program_parametersA, .ref w_program_variablesA, .ref w_program_fromA, .ref w_program_toA, .int w_program_ops, .ref w_program_opA, .ref w_program_argumentA, .ref w_program_ticksA, .int w_program_labels, .ref w_program_labelAtA])), (w_program_variablesA, .inl (w_program_variablesC, 6, .inl w_program_variablesF))]) [1, 2] (by decide) rfl
  have hKc := hK.sub (tys' := [(w_program_variablesC, .int)]) [0] rfl
  have hFc := va_free (wc := [(w_programO, .inr (2, [.int w_program_functions, .ref w_program_nameA, .ref w_program_namePlaceA, .ref w_program_parametersA, .ref w_program_variablesA, .ref w_program_fromA, .ref w_program_toA, .int w_program_ops, .ref w_program_opA, .ref w_program_argumentA, .ref w_program_ticksA, .int w_program_labels, .ref w_program_labelAtA])), (w_program_variablesA, .inl (w_program_variablesC, 6, .inl w_program_variablesF))]) hD hS hA [1, 2] rfl
  refine va_calli (va_runV (As := [.int w_function]) (rest := []) ⟨hx, hb, hml, hown, hts⟩ (kX6_newVariable l dC dI (h0 := w_programO) (w_functions := w_program_functions) (w_nameA := w_program_nameA) (w_namePlaceA := w_program_namePlaceA) (w_parametersA := w_program_parametersA) (w_variablesA := w_program_variablesA) (w_variablesC := w_program_variablesC) (w_variablesF := w_program_variablesF) (w_fromA := w_program_fromA) (w_toA := w_program_toA) (w_ops := w_program_ops) (w_opA := w_program_opA) (w_argumentA := w_program_argumentA) (w_ticksA := w_program_ticksA) (w_labels := w_program_labels) (w_labelAtA := w_program_labelAtA) (p0 := w_function) (sz := _) (hq1 := (hq1))) (cwV 1 hts (gi_V qw511 qw512 qw513 qw173 (gi_z qw510)) rfl rfl rfl (by decide +kernel) ⟨Nat.le_of_ble_eq_true rfl, Nat.le_of_ble_eq_true rfl⟩) ⟨PRE.blind, va_recv hKc hPc (ci := 2) (q0 := 0) rfl rfl, PRE.of hE hS hFc hPc hKc hDc⟩ rfl rfl hl.1 rfl (lv_room (Nat.le_of_ble_eq_true rfl)) dX7_declare_8 ⟨Nat.le_of_ble_eq_true rfl, Nat.le_of_ble_eq_true rfl⟩) hS (fun q _ h => hFc q h) hFc (fun r1 u t H locs ht hvm hw hB hz1 hk1 hS => ?_)
  obtain ⟨hP, hD, hK⟩ := JOIN (wr := [(h0, .inr (1, [.int w_faultPlace, .ref w_tokensO, .ref w_programO, .int w_function, .int w_open, .int w_tallPlace, .int w_fault, .ref w_seenNameA, .ref w_seenVariableA, .int w_seen, .ref w_loopHeadA, .ref w_loopEndA, .int w_loops, .ref w_callNameA, .ref w_callOpA, .ref w_callPlaceA, .ref w_callArgumentsA, .int w_calls])), (w_seenNameA, .inl (w_seenNameC, 320, .inr (.inl w_seenNameF))), (w_seenVariableA, .inl (w_seenVariableC, 320, .inl w_seenVariableF))]) hP hD hK [1, 2] [0, 3, 4] [1, 2] rfl rfl (by decide) (by decide) rfl hk1 hFc ht hvm hB
  have hP : va_P (dC, dI) cls [(h0, .inr (1, [.int w_faultPlace, .ref w_tokensO, .ref w_programO, .int w_function, .int w_open, .int w_tallPlace, .int w_fault, .ref w_seenNameA, .ref w_seenVariableA, .int w_seen, .ref w_loopHeadA, .ref w_loopEndA, .int w_loops, .ref w_callNameA, .ref w_callOpA, .ref w_callPlaceA, .ref w_callArgumentsA, .int w_calls])), (w_seenNameA, .inl (w_seenNameC, 320, .inr (.inl w_seenNameF))), (w_seenVariableA, .inl (w_seenVariableC, 320, .inl w_seenVariableF)), (w_programO, .inr (2, [.int w_program_functions, .ref w_program_nameA, .ref w_program_namePlaceA, .ref w_program_parametersA, .ref w_program_variablesA, .ref w_program_fromA, .ref w_program_toA, .int w_program_ops, .ref w_program_opA, .ref w_program_argumentA, .ref w_program_ticksA, .int w_program_labels, .ref w_program_labelAtA])), (w_program_variablesA, .inl (w_program_variablesC, 6, .inl (sX6_newVariable_1 w_program_variablesF w_function)))] H := hP
  have hD : va_D A [(h0, .inr (1, [.int w_faultPlace, .ref w_tokensO, .ref w_programO, .int w_function, .int w_open, .int w_tallPlace, .int w_fault, .ref w_seenNameA, .ref w_seenVariableA, .int w_seen, .ref w_loopHeadA, .ref w_loopEndA, .int w_loops, .ref w_callNameA, .ref w_callOpA, .ref w_callPlaceA, .ref w_callArgumentsA, .int w_calls])), (w_seenNameA, .inl (w_seenNameC, 320, .inr (.inl w_seenNameF))), (w_seenVariableA, .inl (w_seenVariableC, 320, .inl w_seenVariableF)), (w_programO, .inr (2, [.int w_program_functions, .ref w_program_nameA, .ref w_program_namePlaceA, .ref w_program_parametersA, .ref w_program_variablesA, .ref w_program_fromA, .ref w_program_toA, .int w_program_ops, .ref w_program_opA, .ref w_program_argumentA, .ref w_program_ticksA, .int w_program_labels, .ref w_program_labelAtA])), (w_program_variablesA, .inl (w_program_variablesC, 6, .inl (sX6_newVariable_1 w_program_variablesF w_function)))] := hD
  have hK : va_K (dC, dI) cls [(w_seenNameC, .long), (w_seenVariableC, .int), (w_program_variablesC, .int)] s := hK
  refine W.widen (k := 0) (n := 0) (Nat.le_of_ble_eq_true rfl) (Nat.le_of_ble_eq_true rfl) ?_
  obtain rfl : r1 = (sX6_newVariable_r w_program_variablesF w_function) := hw
  refine lv_istore_n (lv' := [(3, .int (sX6_newVariable_r w_program_variablesF w_function)), (0, .ref h0), (1, .long p0)]) hx hb dX7_declare_11 rfl hl (by decide) rfl (fun ls hl => ?_)
  refine lv_aload_n hx hb dX7_declare_12 rfl (lv_at hl 1 rfl) ?_
  refine va_get (D := (dC, dI)) (ci := 1) (v := .int w_seen) (C := RX7) (T := TX7) (N := 18) hx hb hts i_X7 hown hK hP 0 rfl rfl 9 (by decide) (hts _ qw514) (fun _ h9 => h9) rfl dX7_declare_13 ?_
  refine lv_sipush (v := 320) hx hb dX7_declare_16 (by decide) ?_
  by_cases hc1 : 320 ≤ w_seen
  · refine lv_icmp_ge (tgt := 52) hx hb dX7_declare_19 (by decide) (fun _ => ?_) (fun c => absurd hc1 c)
    refine lv_iload_n hx hb dX7_declare_52 rfl (lv_at hl 0 rfl) ?_
    have e_sX7_declare_0_9 : sX7_declare_0_9 w_seen = w_seen := by unfold sX7_declare_0_9; rw [if_pos hc1]
    have e_sX7_declare_3 : sX7_declare_3 w_seenNameF w_seen p0 = w_seenNameF := by unfold sX7_declare_3; rw [if_pos hc1]
    have e_sX7_declare_4 : sX7_declare_4 w_function w_seenVariableF w_seen w_program_variablesF = w_seenVariableF := by unfold sX7_declare_4; rw [if_pos hc1]
    have hP9 : va_P (dC, dI) cls [(h0, .inr (1, [.int w_faultPlace, .ref w_tokensO, .ref w_programO, .int w_function, .int w_open, .int w_tallPlace, .int w_fault, .ref w_seenNameA, .ref w_seenVariableA, .int (sX7_declare_0_9 w_seen), .ref w_loopHeadA, .ref w_loopEndA, .int w_loops, .ref w_callNameA, .ref w_callOpA, .ref w_callPlaceA, .ref w_callArgumentsA, .int w_calls])), (w_programO, .inr (2, [.int w_program_functions, .ref w_program_nameA, .ref w_program_namePlaceA, .ref w_program_parametersA, .ref w_program_variablesA, .ref w_program_fromA, .ref w_program_toA, .int w_program_ops, .ref w_program_opA, .ref w_program_argumentA, .ref w_program_ticksA, .int w_program_labels, .ref w_program_labelAtA])), (w_program_variablesA, .inl (w_program_variablesC, 6, .inl (sX6_newVariable_1 w_program_variablesF w_function))), (w_seenNameA, .inl (w_seenNameC, 320, .inr (.inl (sX7_declare_3 w_seenNameF w_seen p0)))), (w_seenVariableA, .inl (w_seenVariableC, 320, .inl (sX7_declare_4 w_function w_seenVariableF w_seen w_program_variablesF)))] H := by rw [e_sX7_declare_0_9, e_sX7_declare_3, e_sX7_declare_4]; exact hP.sub [0, 3, 4, 1, 2] rfl
    have hD9 : va_D A [(h0, .inr (1, [.int w_faultPlace, .ref w_tokensO, .ref w_programO, .int w_function, .int w_open, .int w_tallPlace, .int w_fault, .ref w_seenNameA, .ref w_seenVariableA, .int (sX7_declare_0_9 w_seen), .ref w_loopHeadA, .ref w_loopEndA, .int w_loops, .ref w_callNameA, .ref w_callOpA, .ref w_callPlaceA, .ref w_callArgumentsA, .int w_calls])), (w_programO, .inr (2, [.int w_program_functions, .ref w_program_nameA, .ref w_program_namePlaceA, .ref w_program_parametersA, .ref w_program_variablesA, .ref w_program_fromA, .ref w_program_toA, .int w_program_ops, .ref w_program_opA, .ref w_program_argumentA, .ref w_program_ticksA, .int w_program_labels, .ref w_program_labelAtA])), (w_program_variablesA, .inl (w_program_variablesC, 6, .inl (sX6_newVariable_1 w_program_variablesF w_function))), (w_seenNameA, .inl (w_seenNameC, 320, .inr (.inl (sX7_declare_3 w_seenNameF w_seen p0)))), (w_seenVariableA, .inl (w_seenVariableC, 320, .inl (sX7_declare_4 w_function w_seenVariableF w_seen w_program_variablesF)))] := by rw [e_sX7_declare_0_9, e_sX7_declare_3, e_sX7_declare_4]; exact hD.sub [0, 3, 4, 1, 2] (by decide) rfl
    have hK9 : va_K (dC, dI) cls [(w_program_variablesC, .int), (w_seenNameC, .long), (w_seenVariableC, .int)] s := hK.sub [2, 0, 1] rfl
    refine W.widen (k := 0) (n := 0) (Nat.le_of_ble_eq_true rfl) (Nat.le_of_ble_eq_true rfl) ?_
    exact W.iret (v := (sX6_newVariable_r w_program_variablesF w_function)) hx hb hr (fun t ht hW => ⟨⟨(sX6_newVariable_r w_program_variablesF w_function), (), rfl, rfl, ⟨by rw [ht]; exact hP9, va_K.moved hW.alike hK9, hD9⟩⟩, hS.F ht⟩) hS.2.2 dX7_declare_53
  · refine lv_icmp_ge (tgt := 52) hx hb dX7_declare_19 (by decide) (fun c => absurd c hc1) (fun _ => ?_)
    refine lv_aload_n hx hb dX7_declare_22 rfl (lv_at hl 1 rfl) ?_
    refine va_get (D := (dC, dI)) (ci := 1) (v := .ref w_seenNameA) (C := RX7) (T := TX7) (N := 18) hx hb hts i_X7 hown hK hP 0 rfl rfl 7 (by decide) (hts _ qw17) (fun _ h9 => h9) rfl dX7_declare_23 ?_
    refine lv_aload_n hx hb dX7_declare_26 rfl (lv_at hl 1 rfl) ?_
    refine va_get (D := (dC, dI)) (ci := 1) (v := .int w_seen) (C := RX7) (T := TX7) (N := 18) hx hb hts i_X7 hown hK hP 0 rfl rfl 9 (by decide) (hts _ qw514) (fun _ h9 => h9) rfl dX7_declare_27 ?_
    refine lv_lload_n hx hb dX7_declare_30 rfl (lv_at hl 2 rfl) ?_
    refine va_last hx hb hK hP hD hS 1 0 rfl rfl (hq2 hc1) dX7_declare_31 (fun H locs hP hD hS => ?_)
    have hP : va_P (dC, dI) cls [(h0, .inr (1, [.int w_faultPlace, .ref w_tokensO, .ref w_programO, .int w_function, .int w_open, .int w_tallPlace, .int w_fault, .ref w_seenNameA, .ref w_seenVariableA, .int w_seen, .ref w_loopHeadA, .ref w_loopEndA, .int w_loops, .ref w_callNameA, .ref w_callOpA, .ref w_callPlaceA, .ref w_callArgumentsA, .int w_calls])), (w_seenNameA, .inl (w_seenNameC, 320, .inr (.inl (vp_updL w_seenNameF (Int32.toNatClampNeg w_seen) p0)))), (w_seenVariableA, .inl (w_seenVariableC, 320, .inl w_seenVariableF)), (w_programO, .inr (2, [.int w_program_functions, .ref w_program_nameA, .ref w_program_namePlaceA, .ref w_program_parametersA, .ref w_program_variablesA, .ref w_program_fromA, .ref w_program_toA, .int w_program_ops, .ref w_program_opA, .ref w_program_argumentA, .ref w_program_ticksA, .int w_program_labels, .ref w_program_labelAtA])), (w_program_variablesA, .inl (w_program_variablesC, 6, .inl (sX6_newVariable_1 w_program_variablesF w_function)))] H := hP
    have hD : va_D A [(h0, .inr (1, [.int w_faultPlace, .ref w_tokensO, .ref w_programO, .int w_function, .int w_open, .int w_tallPlace, .int w_fault, .ref w_seenNameA, .ref w_seenVariableA, .int w_seen, .ref w_loopHeadA, .ref w_loopEndA, .int w_loops, .ref w_callNameA, .ref w_callOpA, .ref w_callPlaceA, .ref w_callArgumentsA, .int w_calls])), (w_seenNameA, .inl (w_seenNameC, 320, .inr (.inl (vp_updL w_seenNameF (Int32.toNatClampNeg w_seen) p0)))), (w_seenVariableA, .inl (w_seenVariableC, 320, .inl w_seenVariableF)), (w_programO, .inr (2, [.int w_program_functions, .ref w_program_nameA, .ref w_program_namePlaceA, .ref w_program_parametersA, .ref w_program_variablesA, .ref w_program_fromA, .ref w_program_toA, .int w_program_ops, .ref w_program_opA, .ref w_program_argumentA, .ref w_program_ticksA, .int w_program_labels, .ref w_program_labelAtA])), (w_program_variablesA, .inl (w_program_variablesC, 6, .inl (sX6_newVariable_1 w_program_variablesF w_function)))] := hD
    refine lv_aload_n hx hb dX7_declare_32 rfl (lv_at hl 1 rfl) ?_
    refine va_get (D := (dC, dI)) (ci := 1) (v := .ref w_seenVariableA) (C := RX7) (T := TX7) (N := 18) hx hb hts i_X7 hown hK hP 0 rfl rfl 8 (by decide) (hts _ qw18) (fun _ h9 => h9) rfl dX7_declare_33 ?_
    refine lv_aload_n hx hb dX7_declare_36 rfl (lv_at hl 1 rfl) ?_
    refine va_get (D := (dC, dI)) (ci := 1) (v := .int w_seen) (C := RX7) (T := TX7) (N := 18) hx hb hts i_X7 hown hK hP 0 rfl rfl 9 (by decide) (hts _ qw514) (fun _ h9 => h9) rfl dX7_declare_37 ?_
    refine lv_iload_n hx hb dX7_declare_40 rfl (lv_at hl 0 rfl) ?_
    refine va_iast hx hb hK hP hD hS 2 1 rfl rfl (hq2 hc1) dX7_declare_41 (fun H locs hP hD hS => ?_)
    have hP : va_P (dC, dI) cls [(h0, .inr (1, [.int w_faultPlace, .ref w_tokensO, .ref w_programO, .int w_function, .int w_open, .int w_tallPlace, .int w_fault, .ref w_seenNameA, .ref w_seenVariableA, .int w_seen, .ref w_loopHeadA, .ref w_loopEndA, .int w_loops, .ref w_callNameA, .ref w_callOpA, .ref w_callPlaceA, .ref w_callArgumentsA, .int w_calls])), (w_seenNameA, .inl (w_seenNameC, 320, .inr (.inl (vp_updL w_seenNameF (Int32.toNatClampNeg w_seen) p0)))), (w_seenVariableA, .inl (w_seenVariableC, 320, .inl (upd w_seenVariableF (Int32.toNatClampNeg w_seen) (sX6_newVariable_r w_program_variablesF w_function)))), (w_programO, .inr (2, [.int w_program_functions, .ref w_program_nameA, .ref w_program_namePlaceA, .ref w_program_parametersA, .ref w_program_variablesA, .ref w_program_fromA, .ref w_program_toA, .int w_program_ops, .ref w_program_opA, .ref w_program_argumentA, .ref w_program_ticksA, .int w_program_labels, .ref w_program_labelAtA])), (w_program_variablesA, .inl (w_program_variablesC, 6, .inl (sX6_newVariable_1 w_program_variablesF w_function)))] H := hP
    have hD : va_D A [(h0, .inr (1, [.int w_faultPlace, .ref w_tokensO, .ref w_programO, .int w_function, .int w_open, .int w_tallPlace, .int w_fault, .ref w_seenNameA, .ref w_seenVariableA, .int w_seen, .ref w_loopHeadA, .ref w_loopEndA, .int w_loops, .ref w_callNameA, .ref w_callOpA, .ref w_callPlaceA, .ref w_callArgumentsA, .int w_calls])), (w_seenNameA, .inl (w_seenNameC, 320, .inr (.inl (vp_updL w_seenNameF (Int32.toNatClampNeg w_seen) p0)))), (w_seenVariableA, .inl (w_seenVariableC, 320, .inl (upd w_seenVariableF (Int32.toNatClampNeg w_seen) (sX6_newVariable_r w_program_variablesF w_function)))), (w_programO, .inr (2, [.int w_program_functions, .ref w_program_nameA, .ref w_program_namePlaceA, .ref w_program_parametersA, .ref w_program_variablesA, .ref w_program_fromA, .ref w_program_toA, .int w_program_ops, .ref w_program_opA, .ref w_program_argumentA, .ref w_program_ticksA, .int w_program_labels, .ref w_program_labelAtA])), (w_program_variablesA, .inl (w_program_variablesC, 6, .inl (sX6_newVariable_1 w_program_variablesF w_function)))] := hD
    refine lv_aload_n hx hb dX7_declare_42 rfl (lv_at hl 1 rfl) ?_
    refine lv_dup hx hb dX7_declare_43 rfl ?_
    refine va_get (D := (dC, dI)) (ci := 1) (v := .int w_seen) (C := RX7) (T := TX7) (N := 18) hx hb hts i_X7 hown hK hP 0 rfl rfl 9 (by decide) (hts _ qw514) (fun _ h9 => h9) rfl dX7_declare_44 ?_
    refine lv_iconst (v := 1) hx hb dX7_declare_47 (by decide) ?_
    refine lv_iadd hx hb dX7_declare_48 ?_
    refine va_put (D := (dC, dI)) (ci := 1) (v := .int (w_seen + 1)) (ty := .int) (C := RX7) (T := TX7) (N := 18) hx hb hts i_X7 tyX7 tyX7_ok nmX7 hown hK hP hD hS 0 rfl rfl 9 (by decide) (hts _ qw514) (fun _ h9 => h9) rfl (by decide +kernel) rfl rfl (Nat.le_of_ble_eq_true rfl) dX7_declare_49 (fun H locs hP hD hS => ?_)
    have hP : va_P (dC, dI) cls [(h0, .inr (1, [.int w_faultPlace, .ref w_tokensO, .ref w_programO, .int w_function, .int w_open, .int w_tallPlace, .int w_fault, .ref w_seenNameA, .ref w_seenVariableA, .int (w_seen + 1), .ref w_loopHeadA, .ref w_loopEndA, .int w_loops, .ref w_callNameA, .ref w_callOpA, .ref w_callPlaceA, .ref w_callArgumentsA, .int w_calls])), (w_seenNameA, .inl (w_seenNameC, 320, .inr (.inl (vp_updL w_seenNameF (Int32.toNatClampNeg w_seen) p0)))), (w_seenVariableA, .inl (w_seenVariableC, 320, .inl (upd w_seenVariableF (Int32.toNatClampNeg w_seen) (sX6_newVariable_r w_program_variablesF w_function)))), (w_programO, .inr (2, [.int w_program_functions, .ref w_program_nameA, .ref w_program_namePlaceA, .ref w_program_parametersA, .ref w_program_variablesA, .ref w_program_fromA, .ref w_program_toA, .int w_program_ops, .ref w_program_opA, .ref w_program_argumentA, .ref w_program_ticksA, .int w_program_labels, .ref w_program_labelAtA])), (w_program_variablesA, .inl (w_program_variablesC, 6, .inl (sX6_newVariable_1 w_program_variablesF w_function)))] H := hP
    have hD : va_D A [(h0, .inr (1, [.int w_faultPlace, .ref w_tokensO, .ref w_programO, .int w_function, .int w_open, .int w_tallPlace, .int w_fault, .ref w_seenNameA, .ref w_seenVariableA, .int (w_seen + 1), .ref w_loopHeadA, .ref w_loopEndA, .int w_loops, .ref w_callNameA, .ref w_callOpA, .ref w_callPlaceA, .ref w_callArgumentsA, .int w_calls])), (w_seenNameA, .inl (w_seenNameC, 320, .inr (.inl (vp_updL w_seenNameF (Int32.toNatClampNeg w_seen) p0)))), (w_seenVariableA, .inl (w_seenVariableC, 320, .inl (upd w_seenVariableF (Int32.toNatClampNeg w_seen) (sX6_newVariable_r w_program_variablesF w_function)))), (w_programO, .inr (2, [.int w_program_functions, .ref w_program_nameA, .ref w_program_namePlaceA, .ref w_program_parametersA, .ref w_program_variablesA, .ref w_program_fromA, .ref w_program_toA, .int w_program_ops, .ref w_program_opA, .ref w_program_argumentA, .ref w_program_ticksA, .int w_program_labels, .ref w_program_labelAtA])), (w_program_variablesA, .inl (w_program_variablesC, 6, .inl (sX6_newVariable_1 w_program_variablesF w_function)))] := hD
    refine lv_iload_n hx hb dX7_declare_52 rfl (lv_at hl 0 rfl) ?_
    have e_sX7_declare_0_9 : sX7_declare_0_9 w_seen = (w_seen + 1) := by unfold sX7_declare_0_9; rw [if_neg hc1]
    have e_sX7_declare_3 : sX7_declare_3 w_seenNameF w_seen p0 = (vp_updL w_seenNameF (Int32.toNatClampNeg w_seen) p0) := by unfold sX7_declare_3; rw [if_neg hc1]
    have e_sX7_declare_4 : sX7_declare_4 w_function w_seenVariableF w_seen w_program_variablesF = (upd w_seenVariableF (Int32.toNatClampNeg w_seen) (sX6_newVariable_r w_program_variablesF w_function)) := by unfold sX7_declare_4; rw [if_neg hc1]
    have hP9 : va_P (dC, dI) cls [(h0, .inr (1, [.int w_faultPlace, .ref w_tokensO, .ref w_programO, .int w_function, .int w_open, .int w_tallPlace, .int w_fault, .ref w_seenNameA, .ref w_seenVariableA, .int (sX7_declare_0_9 w_seen), .ref w_loopHeadA, .ref w_loopEndA, .int w_loops, .ref w_callNameA, .ref w_callOpA, .ref w_callPlaceA, .ref w_callArgumentsA, .int w_calls])), (w_programO, .inr (2, [.int w_program_functions, .ref w_program_nameA, .ref w_program_namePlaceA, .ref w_program_parametersA, .ref w_program_variablesA, .ref w_program_fromA, .ref w_program_toA, .int w_program_ops, .ref w_program_opA, .ref w_program_argumentA, .ref w_program_ticksA, .int w_program_labels, .ref w_program_labelAtA])), (w_program_variablesA, .inl (w_program_variablesC, 6, .inl (sX6_newVariable_1 w_program_variablesF w_function))), (w_seenNameA, .inl (w_seenNameC, 320, .inr (.inl (sX7_declare_3 w_seenNameF w_seen p0)))), (w_seenVariableA, .inl (w_seenVariableC, 320, .inl (sX7_declare_4 w_function w_seenVariableF w_seen w_program_variablesF)))] H := by rw [e_sX7_declare_0_9, e_sX7_declare_3, e_sX7_declare_4]; exact hP.sub [0, 3, 4, 1, 2] rfl
    have hD9 : va_D A [(h0, .inr (1, [.int w_faultPlace, .ref w_tokensO, .ref w_programO, .int w_function, .int w_open, .int w_tallPlace, .int w_fault, .ref w_seenNameA, .ref w_seenVariableA, .int (sX7_declare_0_9 w_seen), .ref w_loopHeadA, .ref w_loopEndA, .int w_loops, .ref w_callNameA, .ref w_callOpA, .ref w_callPlaceA, .ref w_callArgumentsA, .int w_calls])), (w_programO, .inr (2, [.int w_program_functions, .ref w_program_nameA, .ref w_program_namePlaceA, .ref w_program_parametersA, .ref w_program_variablesA, .ref w_program_fromA, .ref w_program_toA, .int w_program_ops, .ref w_program_opA, .ref w_program_argumentA, .ref w_program_ticksA, .int w_program_labels, .ref w_program_labelAtA])), (w_program_variablesA, .inl (w_program_variablesC, 6, .inl (sX6_newVariable_1 w_program_variablesF w_function))), (w_seenNameA, .inl (w_seenNameC, 320, .inr (.inl (sX7_declare_3 w_seenNameF w_seen p0)))), (w_seenVariableA, .inl (w_seenVariableC, 320, .inl (sX7_declare_4 w_function w_seenVariableF w_seen w_program_variablesF)))] := by rw [e_sX7_declare_0_9, e_sX7_declare_3, e_sX7_declare_4]; exact hD.sub [0, 3, 4, 1, 2] (by decide) rfl
    have hK9 : va_K (dC, dI) cls [(w_program_variablesC, .int), (w_seenNameC, .long), (w_seenVariableC, .int)] s := hK.sub [2, 0, 1] rfl
    refine W.widen (k := 0) (n := 0) (Nat.le_of_ble_eq_true rfl) (Nat.le_of_ble_eq_true rfl) ?_
    exact W.iret (v := (sX6_newVariable_r w_program_variablesF w_function)) hx hb hr (fun t ht hW => ⟨⟨(sX6_newVariable_r w_program_variablesF w_function), (), rfl, rfl, ⟨by rw [ht]; exact hP9, va_K.moved hW.alike hK9, hD9⟩⟩, hS.F ht⟩) hS.2.2 dX7_declare_53
set_option maxHeartbeats 4000000 in
set_option maxRecDepth 100000 in
theorem kX7_emitTruth {zs : Nat × Nat} (l : Launch) (dC : Nat → ClassId) (dI : Nat → Nat → Nat) (h0 : Nat) (w_faultPlace : Int32) (w_function : Int32) (w_open : Int32) (w_tallPlace : Int32) (w_fault : Int32) (w_seenNameA : Nat) (w_seenVariableA : Nat) (w_seen : Int32) (w_loopHeadA : Nat) (w_loopEndA : Nat) (w_loops : Int32) (w_callNameA : Nat) (w_callOpA : Nat) (w_callPlaceA : Nat) (w_callArgumentsA : Nat) (w_calls : Int32) (w_tokensO : Nat) (w_programO : Nat) (w_program_functions : Int32) (w_program_nameA : Nat) (w_program_namePlaceA : Nat) (w_program_parametersA : Nat) (w_program_variablesA : Nat) (w_program_fromA : Nat) (w_program_toA : Nat) (w_program_ops : Int32) (w_program_opA : Nat) (w_program_opC : ClassId) (w_program_opF : Nat → Int32) (w_program_argumentA : Nat) (w_program_argumentC : ClassId) (w_program_argumentF : Nat → Int32) (w_program_ticksA : Nat) (w_program_ticksC : ClassId) (w_program_ticksF : Nat → Int32) (w_program_labels : Int32) (w_program_labelAtA : Nat) (sz : Nat) (hq1 : (¬ (3200 ≤ w_program_ops) → vp_in w_program_ops 3200)) (hq2 : (¬ (3200 ≤ (sX6_emit_0_7 w_program_ops)) → vp_in (sX6_emit_0_7 w_program_ops) 3200)) : Met l yX7_emitTruth (wz yX7_emitTruth cX7_emitTruth 1 (Option.none : Option Jvm.ClassFile.FieldType)) ({ frames := 1, cells := 0, slots := 0, locals := 23 }) (va_Pc [.ref h0] (PRE zs dC dI [(h0, .inr (1, [.int w_faultPlace, .ref w_tokensO, .ref w_programO, .int w_function, .int w_open, .int w_tallPlace, .int w_fault, .ref w_seenNameA, .ref w_seenVariableA, .int w_seen, .ref w_loopHeadA, .ref w_loopEndA, .int w_loops, .ref w_callNameA, .ref w_callOpA, .ref w_callPlaceA, .ref w_callArgumentsA, .int w_calls])), (w_programO, .inr (2, [.int w_program_functions, .ref w_program_nameA, .ref w_program_namePlaceA, .ref w_program_parametersA, .ref w_program_variablesA, .ref w_program_fromA, .ref w_program_toA, .int w_program_ops, .ref w_program_opA, .ref w_program_argumentA, .ref w_program_ticksA, .int w_program_labels, .ref w_program_labelAtA])), (w_program_opA, .inl (w_program_opC, 3200, .inl w_program_opF)), (w_program_argumentA, .inl (w_program_argumentC, 3200, .inl w_program_argumentF)), (w_program_ticksA, .inl (w_program_ticksC, 3200, .inl w_program_ticksF))] [(w_program_opC, .int), (w_program_argumentC, .int), (w_program_ticksC, .int)] sz)) (va_Qv (fun (_ : Unit) => True) (fun _ t => POST dC dI [(h0, .inr (1, [.int w_faultPlace, .ref w_tokensO, .ref w_programO, .int w_function, .int w_open, .int w_tallPlace, .int w_fault, .ref w_seenNameA, .ref w_seenVariableA, .int w_seen, .ref w_loopHeadA, .ref w_loopEndA, .int w_loops, .ref w_callNameA, .ref w_callOpA, .ref w_callPlaceA, .ref w_callArgumentsA, .int w_calls])), (w_programO, .inr (2, [.int w_program_functions, .ref w_program_nameA, .ref w_program_namePlaceA, .ref w_program_parametersA, .ref w_program_variablesA, .ref w_program_fromA, .ref w_program_toA, .int (sX6_emit_0_7 (sX6_emit_0_7 w_program_ops)), .ref w_program_opA, .ref w_program_argumentA, .ref w_program_ticksA, .int w_program_labels, .ref w_program_labelAtA])), (w_program_opA, .inl (w_program_opC, 3200, .inl (sX6_emit_1 (sX6_emit_0_7 w_program_ops) (sX6_emit_1 w_program_ops w_program_opF 0) 16))), (w_program_argumentA, .inl (w_program_argumentC, 3200, .inl (sX6_emit_2 (sX6_emit_0_7 w_program_ops) (sX6_emit_2 w_program_ops w_program_argumentF 0) 0))), (w_program_ticksA, .inl (w_program_ticksC, 3200, .inl (sX6_emit_3 (sX6_emit_0_7 w_program_ops) (sX6_emit_3 w_program_ops w_program_ticksF 0) 0)))] [(w_program_opC, .int), (w_program_argumentC, .int), (w_program_ticksC, .int)] (va_A [(h0, .inr (1, [.int w_faultPlace, .ref w_tokensO, .ref w_programO, .int w_function, .int w_open, .int w_tallPlace, .int w_fault, .ref w_seenNameA, .ref w_seenVariableA, .int w_seen, .ref w_loopHeadA, .ref w_loopEndA, .int w_loops, .ref w_callNameA, .ref w_callOpA, .ref w_callPlaceA, .ref w_callArgumentsA, .int w_calls])), (w_programO, .inr (2, [.int w_program_functions, .ref w_program_nameA, .ref w_program_namePlaceA, .ref w_program_parametersA, .ref w_program_variablesA, .ref w_program_fromA, .ref w_program_toA, .int w_program_ops, .ref w_program_opA, .ref w_program_argumentA, .ref w_program_ticksA, .int w_program_labels, .ref w_program_labelAtA])), (w_program_opA, .inl (w_program_opC, 3200, .inl w_program_opF)), (w_program_argumentA, .inl (w_program_argumentC, 3200, .inl w_program_argumentF)), (w_program_ticksA, .inl (w_program_ticksC, 3200, .inl w_program_ticksF))] sz) t) (va_A [(h0, .inr (1, [.int w_faultPlace, .ref w_tokensO, .ref w_programO, .int w_function, .int w_open, .int w_tallPlace, .int w_fault, .ref w_seenNameA, .ref w_seenVariableA, .int w_seen, .ref w_loopHeadA, .ref w_loopEndA, .int w_loops, .ref w_callNameA, .ref w_callOpA, .ref w_callPlaceA, .ref w_callArgumentsA, .int w_calls])), (w_programO, .inr (2, [.int w_program_functions, .ref w_program_nameA, .ref w_program_namePlaceA, .ref w_program_parametersA, .ref w_program_variablesA, .ref w_program_fromA, .ref w_program_toA, .int w_program_ops, .ref w_program_opA, .ref w_program_argumentA, .ref w_program_ticksA, .int w_program_labels, .ref w_program_labelAtA])), (w_program_opA, .inl (w_program_opC, 3200, .inl w_program_opF)), (w_program_argumentA, .inl (w_program_argumentC, 3200, .inl w_program_argumentF)), (w_program_ticksA, .inl (w_program_ticksC, 3200, .inl w_program_ticksF))] sz)) 0 0 (va_A [(h0, .inr (1, [.int w_faultPlace, .ref w_tokensO, .ref w_programO, .int w_function, .int w_open, .int w_tallPlace, .int w_fault, .ref w_seenNameA, .ref w_seenVariableA, .int w_seen, .ref w_loopHeadA, .ref w_loopEndA, .int w_loops, .ref w_callNameA, .ref w_callOpA, .ref w_callPlaceA, .ref w_callArgumentsA, .int w_calls])), (w_programO, .inr (2, [.int w_program_functions, .ref w_program_nameA, .ref w_program_namePlaceA, .ref w_program_parametersA, .ref w_program_variablesA, .ref w_program_fromA, .ref w_program_toA, .int w_program_ops, .ref w_program_opA, .ref w_program_argumentA, .ref w_program_ticksA, .int w_program_labels, .ref w_program_labelAtA])), (w_program_opA, .inl (w_program_opC, 3200, .inl w_program_opF)), (w_program_argumentA, .inl (w_program_argumentC, 3200, .inl w_program_argumentF)), (w_program_ticksA, .inl (w_program_ticksC, 3200, .inl w_program_ticksF))] sz) := by
  refine Met.ofW (cc := cX7_emitTruth) (maxL := 1) (ret := (Option.none : Option Jvm.ClassFile.FieldType)) (by decide) rfl ?_
  intro p e s m args below meth c s₁ B hml hv
  obtain ⟨rfl, hsz, hP, hK, hD0, hE⟩ := hv
  have hx := B.exec
  have hb := B.bytes
  have hr := B.returns
  have hts0 := atoms_spec (ws := wz yX7_emitTruth cX7_emitTruth 1 (Option.none : Option Jvm.ClassFile.FieldType)) B.pre
  have hts : ∀ w ∈ gw, w.before _ s = true := fun w h => hts0 w (List.mem_cons_of_mem _ h)
  have hown : s.vm.findClass RX7 = some m.cls := findClass_of_methodNamed B.named
  have hlocks := B.notSynchronized
  subst hsz
  have hD := hD0.self (sz := s.heap.size)
  generalize hAe : va_A [(h0, .inr (1, [.int w_faultPlace, .ref w_tokensO, .ref w_programO, .int w_function, .int w_open, .int w_tallPlace, .int w_fault, .ref w_seenNameA, .ref w_seenVariableA, .int w_seen, .ref w_loopHeadA, .ref w_loopEndA, .int w_loops, .ref w_callNameA, .ref w_callOpA, .ref w_callPlaceA, .ref w_callArgumentsA, .int w_calls])), (w_programO, .inr (2, [.int w_program_functions, .ref w_program_nameA, .ref w_program_namePlaceA, .ref w_program_parametersA, .ref w_program_variablesA, .ref w_program_fromA, .ref w_program_toA, .int w_program_ops, .ref w_program_opA, .ref w_program_argumentA, .ref w_program_ticksA, .int w_program_labels, .ref w_program_labelAtA])), (w_program_opA, .inl (w_program_opC, 3200, .inl w_program_opF)), (w_program_argumentA, .inl (w_program_argumentC, 3200, .inl w_program_argumentF)), (w_program_ticksA, .inl (w_program_ticksC, 3200, .inl w_program_ticksF))] s.heap.size = A at hD hE ⊢
  have hA : ∀ q : Nat, s.heap.size ≤ q → A q := fun q h => by rw [← hAe]; exact Or.inr h
  have hS : va_S A s.heap s.heap [] := va_S.rf
  have hP : va_P (dC, dI) cls [(h0, .inr (1, [.int w_faultPlace, .ref w_tokensO, .ref w_programO, .int w_function, .int w_open, .int w_tallPlace, .int w_fault, .ref w_seenNameA, .ref w_seenVariableA, .int w_seen, .ref w_loopHeadA, .ref w_loopEndA, .int w_loops, .ref w_callNameA, .ref w_callOpA, .ref w_callPlaceA, .ref w_callArgumentsA, .int w_calls])), (w_programO, .inr (2, [.int w_program_functions, .ref w_program_nameA, .ref w_program_namePlaceA, .ref w_program_parametersA, .ref w_program_variablesA, .ref w_program_fromA, .ref w_program_toA, .int w_program_ops, .ref w_program_opA, .ref w_program_argumentA, .ref w_program_ticksA, .int w_program_labels, .ref w_program_labelAtA])), (w_program_opA, .inl (w_program_opC, 3200, .inl w_program_opF)), (w_program_argumentA, .inl (w_program_argumentC, 3200, .inl w_program_argumentF)), (w_program_ticksA, .inl (w_program_ticksC, 3200, .inl w_program_ticksF))] s.heap := hP
  have hl := lv_entry ([.ref h0]) (n := 1) (Nat.le_of_ble_eq_true rfl)
  rw [lg_entry_eq]
  generalize (lg_sl ([.ref h0]) ++ List.replicate (1 - (lg_sl ([.ref h0])).length) Slot.unset).toArray = ls at hl ⊢
  have hl : lv_has ls 1 [(0, .ref h0)] := hl
  refine lv_aload_n hx hb dX7_emitTruth_0 rfl (lv_at hl 0 rfl) ?_
  refine va_get (D := (dC, dI)) (ci := 1) (v := .ref w_programO) (C := RX7) (T := TX7) (N := 18) hx hb hts i_X7 hown hK hP 0 rfl rfl 2 (by decide) (hts _ qw165) (fun _ h9 => h9) rfl dX7_emitTruth_1 ?_
  refine lv_iconst (v := 0) hx hb dX7_emitTruth_4 (by decide) ?_
  refine lv_iconst (v := 0) hx hb dX7_emitTruth_5 (by decide) ?_
  refine lv_iconst (v := 0) hx hb dX7_emitTruth_6 (by decide) ?_
  have hPc := hP.sub (ws' := [(w_programO, .inr (2, [.int w_program_functions, .ref w_program_nameA, .ref w_program_namePlaceA, .ref w_program_parametersA, .ref w_program_variablesA, .ref w_program_fromA, .ref w_program_toA, .int w_program_ops, .ref w_program_opA, .ref w_program_argumentA, .ref w_program_ticksA, .int w_program_labels, .ref w_program_labelAtA])), (w_program_opA, .inl (w_program_opC, 3200, .inl w_program_opF)), (w_program_argumentA, .inl (w_program_argumentC, 3200, .inl w_program_argumentF)), (w_program_ticksA, .inl (w_program_ticksC, 3200, .inl w_program_ticksF))]) [1, 2, 3, 4] rfl
  have hDc := hD.sub (ws' := [(w_programO, .inr (2, [.int w_program_functions, .ref w_program_nameA, .ref w_program_namePlaceA, .ref w_program_parametersA, .ref w_program_variablesA, .ref w_program_fromA, .ref w_program_toA, .int w_program_ops, .ref w_program_opA, .ref w_program_argumentA, .ref w_program_ticksA, .int w_program_labels, .ref w_program_labelAtA])), (w_program_opA, .inl (w_program_opC, 3200, .inl w_program_opF)), (w_program_argumentA, .inl (w_program_argumentC, 3200, .inl w_program_argumentF)), (w_program_ticksA, .inl (w_program_ticksC, 3200, .inl w_program_ticksF))]) [1, 2, 3, 4] (by decide) rfl
  have hKc := hK.sub (tys' := [(w_program_opC, .int), (w_program_argumentC, .int), (w_program_ticksC, .int)]) [0, 1, 2] rfl
  have hFc := va_free (wc := [(w_programO, .inr (2, [.int w_program_functions, .ref w_program_nameA, .ref w_program_namePlaceA, .ref w_program_parametersA, .ref w_program_variablesA, .ref w_program_fromA, .ref w_program_toA, .int w_program_ops, .ref w_program_opA, .ref w_program_argumentA, .ref w_program_ticksA, .int w_program_labels, .ref w_program_labelAtA])), (w_program_opA, .inl (w_program_opC, 3200, .inl w_program_opF)), (w_program_argumentA, .inl (w_program_argumentC, 3200, .inl w_program_argumentF)), (w_program_ticksA, .inl (w_program_ticksC, 3200, .inl w_program_ticksF))]) hD hS hA [1, 2, 3, 4] rfl
  refine va_callv (va_runV (As := [.int 0, .int 0, .int 0]) (rest := []) ⟨hx, hb, hml, hown, hts⟩ (kX6_emit l dC dI (h0 := w_programO) (w_functions := w_program_functions) (w_nameA := w_program_nameA) (w_namePlaceA := w_program_namePlaceA) (w_parametersA := w_program_parametersA) (w_variablesA := w_program_variablesA) (w_fromA := w_program_fromA) (w_toA := w_program_toA) (w_ops := w_program_ops) (w_opA := w_program_opA) (w_opC := w_program_opC) (w_opF := w_program_opF) (w_argumentA := w_program_argumentA) (w_argumentC := w_program_argumentC) (w_argumentF := w_program_argumentF) (w_ticksA := w_program_ticksA) (w_ticksC := w_program_ticksC) (w_ticksF := w_program_ticksF) (w_labels := w_program_labels) (w_labelAtA := w_program_labelAtA) (p0 := 0) (p1 := 0) (p2 := 0) (sz := _) (hq1 := (hq1))) (cwV 3 hts (gi_V qw515 qw214 qw215 qw173 (gi_z qw212)) rfl rfl rfl (by decide +kernel) ⟨Nat.le_of_ble_eq_true rfl, Nat.le_of_ble_eq_true rfl⟩) ⟨PRE.blind, va_recv hKc hPc (ci := 2) (q0 := 0) rfl rfl, PRE.of hE hS hFc hPc hKc hDc⟩ rfl rfl hl.1 rfl (lv_room (Nat.le_of_ble_eq_true rfl)) dX7_emitTruth_7 ⟨Nat.le_of_ble_eq_true rfl, Nat.le_of_ble_eq_true rfl⟩) hS (fun q _ h => hFc q h) hFc (fun u t H locs ht hvm hw hB hz1 hk1 hS => ?_)
  obtain ⟨hP, hD, hK⟩ := JOIN (wr := [(h0, .inr (1, [.int w_faultPlace, .ref w_tokensO, .ref w_programO, .int w_function, .int w_open, .int w_tallPlace, .int w_fault, .ref w_seenNameA, .ref w_seenVariableA, .int w_seen, .ref w_loopHeadA, .ref w_loopEndA, .int w_loops, .ref w_callNameA, .ref w_callOpA, .ref w_callPlaceA, .ref w_callArgumentsA, .int w_calls]))]) hP hD hK [1, 2, 3, 4] [0] [] rfl rfl (by decide) (by decide) rfl hk1 hFc ht hvm hB
  have hP : va_P (dC, dI) cls [(h0, .inr (1, [.int w_faultPlace, .ref w_tokensO, .ref w_programO, .int w_function, .int w_open, .int w_tallPlace, .int w_fault, .ref w_seenNameA, .ref w_seenVariableA, .int w_seen, .ref w_loopHeadA, .ref w_loopEndA, .int w_loops, .ref w_callNameA, .ref w_callOpA, .ref w_callPlaceA, .ref w_callArgumentsA, .int w_calls])), (w_programO, .inr (2, [.int w_program_functions, .ref w_program_nameA, .ref w_program_namePlaceA, .ref w_program_parametersA, .ref w_program_variablesA, .ref w_program_fromA, .ref w_program_toA, .int (sX6_emit_0_7 w_program_ops), .ref w_program_opA, .ref w_program_argumentA, .ref w_program_ticksA, .int w_program_labels, .ref w_program_labelAtA])), (w_program_opA, .inl (w_program_opC, 3200, .inl (sX6_emit_1 w_program_ops w_program_opF 0))), (w_program_argumentA, .inl (w_program_argumentC, 3200, .inl (sX6_emit_2 w_program_ops w_program_argumentF 0))), (w_program_ticksA, .inl (w_program_ticksC, 3200, .inl (sX6_emit_3 w_program_ops w_program_ticksF 0)))] H := hP
  have hD : va_D A [(h0, .inr (1, [.int w_faultPlace, .ref w_tokensO, .ref w_programO, .int w_function, .int w_open, .int w_tallPlace, .int w_fault, .ref w_seenNameA, .ref w_seenVariableA, .int w_seen, .ref w_loopHeadA, .ref w_loopEndA, .int w_loops, .ref w_callNameA, .ref w_callOpA, .ref w_callPlaceA, .ref w_callArgumentsA, .int w_calls])), (w_programO, .inr (2, [.int w_program_functions, .ref w_program_nameA, .ref w_program_namePlaceA, .ref w_program_parametersA, .ref w_program_variablesA, .ref w_program_fromA, .ref w_program_toA, .int (sX6_emit_0_7 w_program_ops), .ref w_program_opA, .ref w_program_argumentA, .ref w_program_ticksA, .int w_program_labels, .ref w_program_labelAtA])), (w_program_opA, .inl (w_program_opC, 3200, .inl (sX6_emit_1 w_program_ops w_program_opF 0))), (w_program_argumentA, .inl (w_program_argumentC, 3200, .inl (sX6_emit_2 w_program_ops w_program_argumentF 0))), (w_program_ticksA, .inl (w_program_ticksC, 3200, .inl (sX6_emit_3 w_program_ops w_program_ticksF 0)))] := hD
  have hK : va_K (dC, dI) cls [(w_program_opC, .int), (w_program_argumentC, .int), (w_program_ticksC, .int)] s := hK
  refine W.widen (k := 0) (n := 0) (Nat.le_of_ble_eq_true rfl) (Nat.le_of_ble_eq_true rfl) ?_
  refine lv_aload_n hx hb dX7_emitTruth_10 rfl (lv_at hl 0 rfl) ?_
  refine va_get (D := (dC, dI)) (ci := 1) (v := .ref w_programO) (C := RX7) (T := TX7) (N := 18) hx hb hts i_X7 hown hK hP 0 rfl rfl 2 (by decide) (hts _ qw165) (fun _ h9 => h9) rfl dX7_emitTruth_11 ?_
  refine lv_bipush (v := 16) hx hb dX7_emitTruth_14 (by decide) ?_
  refine lv_iconst (v := 0) hx hb dX7_emitTruth_16 (by decide) ?_
  refine lv_iconst (v := 0) hx hb dX7_emitTruth_17 (by decide) ?_
  have hPc := hP.sub (ws' := [(w_programO, .inr (2, [.int w_program_functions, .ref w_program_nameA, .ref w_program_namePlaceA, .ref w_program_parametersA, .ref w_program_variablesA, .ref w_program_fromA, .ref w_program_toA, .int (sX6_emit_0_7 w_program_ops), .ref w_program_opA, .ref w_program_argumentA, .ref w_program_ticksA, .int w_program_labels, .ref w_program_labelAtA])), (w_program_opA, .inl (w_program_opC, 3200, .inl (sX6_emit_1 w_program_ops w_program_opF 0))), (w_program_argumentA, .inl (w_program_argumentC, 3200, .inl (sX6_emit_2 w_program_ops w_program_argumentF 0))), (w_program_ticksA, .inl (w_program_ticksC, 3200, .inl (sX6_emit_3 w_program_ops w_program_ticksF 0)))]) [1, 2, 3, 4] rfl
  have hDc := hD.sub (ws' := [(w_programO, .inr (2, [.int w_program_functions, .ref w_program_nameA, .ref w_program_namePlaceA, .ref w_program_parametersA, .ref w_program_variablesA, .ref w_program_fromA, .ref w_program_toA, .int (sX6_emit_0_7 w_program_ops), .ref w_program_opA, .ref w_program_argumentA, .ref w_program_ticksA, .int w_program_labels, .ref w_program_labelAtA])), (w_program_opA, .inl (w_program_opC, 3200, .inl (sX6_emit_1 w_program_ops w_program_opF 0))), (w_program_argumentA, .inl (w_program_argumentC, 3200, .inl (sX6_emit_2 w_program_ops w_program_argumentF 0))), (w_program_ticksA, .inl (w_program_ticksC, 3200, .inl (sX6_emit_3 w_program_ops w_program_ticksF 0)))]) [1, 2, 3, 4] (by decide) rfl
  have hKc := hK.sub (tys' := [(w_program_opC, .int), (w_program_argumentC, .int), (w_program_ticksC, .int)]) [0, 1, 2] rfl
  have hFc := va_free (wc := [(w_programO, .inr (2, [.int w_program_functions, .ref w_program_nameA, .ref w_program_namePlaceA, .ref w_program_parametersA, .ref w_program_variablesA, .ref w_program_fromA, .ref w_program_toA, .int (sX6_emit_0_7 w_program_ops), .ref w_program_opA, .ref w_program_argumentA, .ref w_program_ticksA, .int w_program_labels, .ref w_program_labelAtA])), (w_program_opA, .inl (w_program_opC, 3200, .inl (sX6_emit_1 w_program_ops w_program_opF 0))), (w_program_argumentA, .inl (w_program_argumentC, 3200, .inl (sX6_emit_2 w_program_ops w_program_argumentF 0))), (w_program_ticksA, .inl (w_program_ticksC, 3200, .inl (sX6_emit_3 w_program_ops w_program_ticksF 0)))]) hD hS hA [1, 2, 3, 4] rfl
  refine va_callv (va_runV (As := [.int 16, .int 0, .int 0]) (rest := []) ⟨hx, hb, hml, hown, hts⟩ (kX6_emit l dC dI (h0 := w_programO) (w_functions := w_program_functions) (w_nameA := w_program_nameA) (w_namePlaceA := w_program_namePlaceA) (w_parametersA := w_program_parametersA) (w_variablesA := w_program_variablesA) (w_fromA := w_program_fromA) (w_toA := w_program_toA) (w_ops := (sX6_emit_0_7 w_program_ops)) (w_opA := w_program_opA) (w_opC := w_program_opC) (w_opF := (sX6_emit_1 w_program_ops w_program_opF 0)) (w_argumentA := w_program_argumentA) (w_argumentC := w_program_argumentC) (w_argumentF := (sX6_emit_2 w_program_ops w_program_argumentF 0)) (w_ticksA := w_program_ticksA) (w_ticksC := w_program_ticksC) (w_ticksF := (sX6_emit_3 w_program_ops w_program_ticksF 0)) (w_labels := w_program_labels) (w_labelAtA := w_program_labelAtA) (p0 := 16) (p1 := 0) (p2 := 0) (sz := _) (hq1 := (hq2))) (cwV 3 hts (gi_V qw515 qw214 qw215 qw173 (gi_z qw212)) rfl rfl rfl (by decide +kernel) ⟨Nat.le_of_ble_eq_true rfl, Nat.le_of_ble_eq_true rfl⟩) ⟨PRE.blind, va_recv hKc hPc (ci := 2) (q0 := 0) rfl rfl, PRE.of hE hS hFc hPc hKc hDc⟩ rfl rfl hl.1 rfl (lv_room (Nat.le_of_ble_eq_true rfl)) dX7_emitTruth_18 ⟨Nat.le_of_ble_eq_true rfl, Nat.le_of_ble_eq_true rfl⟩) hS (fun q _ h => hFc q h) hFc (fun u t H locs ht hvm hw hB hz1 hk1 hS => ?_)
  obtain ⟨hP, hD, hK⟩ := JOIN (wr := [(h0, .inr (1, [.int w_faultPlace, .ref w_tokensO, .ref w_programO, .int w_function, .int w_open, .int w_tallPlace, .int w_fault, .ref w_seenNameA, .ref w_seenVariableA, .int w_seen, .ref w_loopHeadA, .ref w_loopEndA, .int w_loops, .ref w_callNameA, .ref w_callOpA, .ref w_callPlaceA, .ref w_callArgumentsA, .int w_calls]))]) hP hD hK [1, 2, 3, 4] [0] [] rfl rfl (by decide) (by decide) rfl hk1 hFc ht hvm hB
  have hP : va_P (dC, dI) cls [(h0, .inr (1, [.int w_faultPlace, .ref w_tokensO, .ref w_programO, .int w_function, .int w_open, .int w_tallPlace, .int w_fault, .ref w_seenNameA, .ref w_seenVariableA, .int w_seen, .ref w_loopHeadA, .ref w_loopEndA, .int w_loops, .ref w_callNameA, .ref w_callOpA, .ref w_callPlaceA, .ref w_callArgumentsA, .int w_calls])), (w_programO, .inr (2, [.int w_program_functions, .ref w_program_nameA, .ref w_program_namePlaceA, .ref w_program_parametersA, .ref w_program_variablesA, .ref w_program_fromA, .ref w_program_toA, .int (sX6_emit_0_7 (sX6_emit_0_7 w_program_ops)), .ref w_program_opA, .ref w_program_argumentA, .ref w_program_ticksA, .int w_program_labels, .ref w_program_labelAtA])), (w_program_opA, .inl (w_program_opC, 3200, .inl (sX6_emit_1 (sX6_emit_0_7 w_program_ops) (sX6_emit_1 w_program_ops w_program_opF 0) 16))), (w_program_argumentA, .inl (w_program_argumentC, 3200, .inl (sX6_emit_2 (sX6_emit_0_7 w_program_ops) (sX6_emit_2 w_program_ops w_program_argumentF 0) 0))), (w_program_ticksA, .inl (w_program_ticksC, 3200, .inl (sX6_emit_3 (sX6_emit_0_7 w_program_ops) (sX6_emit_3 w_program_ops w_program_ticksF 0) 0)))] H := hP
  have hD : va_D A [(h0, .inr (1, [.int w_faultPlace, .ref w_tokensO, .ref w_programO, .int w_function, .int w_open, .int w_tallPlace, .int w_fault, .ref w_seenNameA, .ref w_seenVariableA, .int w_seen, .ref w_loopHeadA, .ref w_loopEndA, .int w_loops, .ref w_callNameA, .ref w_callOpA, .ref w_callPlaceA, .ref w_callArgumentsA, .int w_calls])), (w_programO, .inr (2, [.int w_program_functions, .ref w_program_nameA, .ref w_program_namePlaceA, .ref w_program_parametersA, .ref w_program_variablesA, .ref w_program_fromA, .ref w_program_toA, .int (sX6_emit_0_7 (sX6_emit_0_7 w_program_ops)), .ref w_program_opA, .ref w_program_argumentA, .ref w_program_ticksA, .int w_program_labels, .ref w_program_labelAtA])), (w_program_opA, .inl (w_program_opC, 3200, .inl (sX6_emit_1 (sX6_emit_0_7 w_program_ops) (sX6_emit_1 w_program_ops w_program_opF 0) 16))), (w_program_argumentA, .inl (w_program_argumentC, 3200, .inl (sX6_emit_2 (sX6_emit_0_7 w_program_ops) (sX6_emit_2 w_program_ops w_program_argumentF 0) 0))), (w_program_ticksA, .inl (w_program_ticksC, 3200, .inl (sX6_emit_3 (sX6_emit_0_7 w_program_ops) (sX6_emit_3 w_program_ops w_program_ticksF 0) 0)))] := hD
  have hK : va_K (dC, dI) cls [(w_program_opC, .int), (w_program_argumentC, .int), (w_program_ticksC, .int)] s := hK
  refine W.widen (k := 0) (n := 0) (Nat.le_of_ble_eq_true rfl) (Nat.le_of_ble_eq_true rfl) ?_
  have hP9 : va_P (dC, dI) cls [(h0, .inr (1, [.int w_faultPlace, .ref w_tokensO, .ref w_programO, .int w_function, .int w_open, .int w_tallPlace, .int w_fault, .ref w_seenNameA, .ref w_seenVariableA, .int w_seen, .ref w_loopHeadA, .ref w_loopEndA, .int w_loops, .ref w_callNameA, .ref w_callOpA, .ref w_callPlaceA, .ref w_callArgumentsA, .int w_calls])), (w_programO, .inr (2, [.int w_program_functions, .ref w_program_nameA, .ref w_program_namePlaceA, .ref w_program_parametersA, .ref w_program_variablesA, .ref w_program_fromA, .ref w_program_toA, .int (sX6_emit_0_7 (sX6_emit_0_7 w_program_ops)), .ref w_program_opA, .ref w_program_argumentA, .ref w_program_ticksA, .int w_program_labels, .ref w_program_labelAtA])), (w_program_opA, .inl (w_program_opC, 3200, .inl (sX6_emit_1 (sX6_emit_0_7 w_program_ops) (sX6_emit_1 w_program_ops w_program_opF 0) 16))), (w_program_argumentA, .inl (w_program_argumentC, 3200, .inl (sX6_emit_2 (sX6_emit_0_7 w_program_ops) (sX6_emit_2 w_program_ops w_program_argumentF 0) 0))), (w_program_ticksA, .inl (w_program_ticksC, 3200, .inl (sX6_emit_3 (sX6_emit_0_7 w_program_ops) (sX6_emit_3 w_program_ops w_program_ticksF 0) 0)))] H := by exact hP.sub [0, 1, 2, 3, 4] rfl
  have hD9 : va_D A [(h0, .inr (1, [.int w_faultPlace, .ref w_tokensO, .ref w_programO, .int w_function, .int w_open, .int w_tallPlace, .int w_fault, .ref w_seenNameA, .ref w_seenVariableA, .int w_seen, .ref w_loopHeadA, .ref w_loopEndA, .int w_loops, .ref w_callNameA, .ref w_callOpA, .ref w_callPlaceA, .ref w_callArgumentsA, .int w_calls])), (w_programO, .inr (2, [.int w_program_functions, .ref w_program_nameA, .ref w_program_namePlaceA, .ref w_program_parametersA, .ref w_program_variablesA, .ref w_program_fromA, .ref w_program_toA, .int (sX6_emit_0_7 (sX6_emit_0_7 w_program_ops)), .ref w_program_opA, .ref w_program_argumentA, .ref w_program_ticksA, .int w_program_labels, .ref w_program_labelAtA])), (w_program_opA, .inl (w_program_opC, 3200, .inl (sX6_emit_1 (sX6_emit_0_7 w_program_ops) (sX6_emit_1 w_program_ops w_program_opF 0) 16))), (w_program_argumentA, .inl (w_program_argumentC, 3200, .inl (sX6_emit_2 (sX6_emit_0_7 w_program_ops) (sX6_emit_2 w_program_ops w_program_argumentF 0) 0))), (w_program_ticksA, .inl (w_program_ticksC, 3200, .inl (sX6_emit_3 (sX6_emit_0_7 w_program_ops) (sX6_emit_3 w_program_ops w_program_ticksF 0) 0)))] := by exact hD.sub [0, 1, 2, 3, 4] (by decide) rfl
  have hK9 : va_K (dC, dI) cls [(w_program_opC, .int), (w_program_argumentC, .int), (w_program_ticksC, .int)] s := hK.sub [0, 1, 2] rfl
  refine W.widen (k := 0) (n := 0) (Nat.le_of_ble_eq_true rfl) (Nat.le_of_ble_eq_true rfl) ?_
  exact W.vret hx hb hr (fun t ht hW => ⟨⟨(), rfl, trivial, ⟨by rw [ht]; exact hP9, va_K.moved hW.alike hK9, hD9⟩⟩, hS.F ht⟩) hS.2.2 dX7_emitTruth_21
def sX7_kindOfSign_r (p0 : Int32) : Int32 := (if p0 = 37 then 5 else (if p0 = 38 then 6 else (if p0 = 42 then 3 else (if p0 = 43 then 1 else (if p0 = 45 then 2 else (if p0 = 47 then 4 else (if p0 = 60 then 11 else (if p0 = 62 then 13 else (if p0 = 94 then 8 else (if p0 = 124 then 7 else (if p0 = 316 then 9 else (if p0 = 318 then 10 else (if p0 = 545 then 16 else (if p0 = 572 then 12 else (if p0 = 573 then 15 else (if p0 = 574 then 14 else (-1)))))))))))))))))
set_option maxHeartbeats 4000000 in
set_option maxRecDepth 100000 in
theorem kX7_kindOfSign {zs : Nat × Nat} (l : Launch) (dC : Nat → ClassId) (dI : Nat → Nat → Nat) (p0 : Int32) (sz : Nat)  : Met l yX7_kindOfSign (wz yX7_kindOfSign cX7_kindOfSign 1 (Option.some Jvm.ClassFile.FieldType.int)) ({ frames := 0, cells := 0, slots := 0, locals := 0 }) (va_Pc [.int p0] (PRE zs dC dI [] [] sz)) (va_Qi (fun (r : Int32) (_ : Unit) => r = (sX7_kindOfSign_r p0)) (fun _ t => POST dC dI [] [] (va_A [] sz) t) (va_A [] sz)) 0 0 (va_A [] sz) := by
  refine Met.ofW (cc := cX7_kindOfSign) (maxL := 1) (ret := (Option.some Jvm.ClassFile.FieldType.int)) (by decide) rfl ?_
  intro p e s m args below meth c s₁ B hml hv
  obtain ⟨rfl, hsz, hP, hK, hD0, hE⟩ := hv
  have hx := B.exec
  have hb := B.bytes
  have hr := B.returns
  have hts0 := atoms_spec (ws := wz yX7_kindOfSign cX7_kindOfSign 1 (Option.some Jvm.ClassFile.FieldType.int)) B.pre
  have hts : ∀ w ∈ gw, w.before _ s = true := fun w h => hts0 w (List.mem_cons_of_mem _ h)
  have hown : s.vm.findClass RX7 = some m.cls := findClass_of_methodNamed B.named
  have hlocks := B.notSynchronized
  subst hsz
  have hD := hD0.self (sz := s.heap.size)
  generalize hAe : va_A [] s.heap.size = A at hD hE ⊢
  have hA : ∀ q : Nat, s.heap.size ≤ q → A q := fun q h => by rw [← hAe]; exact Or.inr h
  have hS : va_S A s.heap s.heap [] := va_S.rf
  have hP : va_P (dC, dI) cls [] s.heap := hP
  have hl := lv_entry ([.int p0]) (n := 1) (Nat.le_of_ble_eq_true rfl)
  rw [lg_entry_eq]
  generalize (lg_sl ([.int p0]) ++ List.replicate (1 - (lg_sl ([.int p0])).length) Slot.unset).toArray = ls at hl ⊢
  have hl : lv_has ls 1 [(0, .int p0)] := hl
  refine lv_iload_n hx hb dX7_kindOfSign_0 rfl (lv_at hl 0 rfl) ?_
  by_cases hc1 : p0 = 37
  · refine lv_lookup (off := 147) (tgt := 148) hx hb dX7_kindOfSign_1 (by decide) (by rw [hc1]; decide) (by decide) ?_
    refine lv_iconst (v := 5) hx hb dX7_kindOfSign_148 (by decide) ?_
    have e_sX7_kindOfSign_r : sX7_kindOfSign_r p0 = 5 := by unfold sX7_kindOfSign_r; rw [if_pos hc1]
    have hP9 : va_P (dC, dI) cls [] s.heap := by exact hP.sub [] rfl
    have hD9 : va_D A [] := by exact hD.sub [] (by decide) rfl
    have hK9 : va_K (dC, dI) cls [] s := hK.sub [] rfl
    refine W.widen (k := 0) (n := 0) (Nat.le_of_ble_eq_true rfl) (Nat.le_of_ble_eq_true rfl) ?_
    exact W.iret (v := 5) hx hb hr (fun t ht hW => ⟨⟨5, (), rfl, e_sX7_kindOfSign_r.symm, ⟨by rw [ht]; exact hP9, va_K.moved hW.alike hK9, hD9⟩⟩, hS.F ht⟩) hS.2.2 dX7_kindOfSign_149
  · by_cases hc2 : p0 = 38
    · refine lv_lookup (off := 149) (tgt := 150) hx hb dX7_kindOfSign_1 (by decide) (by rw [hc2]; decide) (by decide) ?_
      refine lv_bipush (v := 6) hx hb dX7_kindOfSign_150 (by decide) ?_
      have e_sX7_kindOfSign_r : sX7_kindOfSign_r p0 = 6 := by unfold sX7_kindOfSign_r; rw [if_neg hc1, if_pos hc2]
      have hP9 : va_P (dC, dI) cls [] s.heap := by exact hP.sub [] rfl
      have hD9 : va_D A [] := by exact hD.sub [] (by decide) rfl
      have hK9 : va_K (dC, dI) cls [] s := hK.sub [] rfl
      refine W.widen (k := 0) (n := 0) (Nat.le_of_ble_eq_true rfl) (Nat.le_of_ble_eq_true rfl) ?_
      exact W.iret (v := 6) hx hb hr (fun t ht hW => ⟨⟨6, (), rfl, e_sX7_kindOfSign_r.symm, ⟨by rw [ht]; exact hP9, va_K.moved hW.alike hK9, hD9⟩⟩, hS.F ht⟩) hS.2.2 dX7_kindOfSign_152
    · by_cases hc3 : p0 = 42
      · refine lv_lookup (off := 143) (tgt := 144) hx hb dX7_kindOfSign_1 (by decide) (by rw [hc3]; decide) (by decide) ?_
        refine lv_iconst (v := 3) hx hb dX7_kindOfSign_144 (by decide) ?_
        have e_sX7_kindOfSign_r : sX7_kindOfSign_r p0 = 3 := by unfold sX7_kindOfSign_r; rw [if_neg hc1, if_neg hc2, if_pos hc3]
        have hP9 : va_P (dC, dI) cls [] s.heap := by exact hP.sub [] rfl
        have hD9 : va_D A [] := by exact hD.sub [] (by decide) rfl
        have hK9 : va_K (dC, dI) cls [] s := hK.sub [] rfl
        refine W.widen (k := 0) (n := 0) (Nat.le_of_ble_eq_true rfl) (Nat.le_of_ble_eq_true rfl) ?_
        exact W.iret (v := 3) hx hb hr (fun t ht hW => ⟨⟨3, (), rfl, e_sX7_kindOfSign_r.symm, ⟨by rw [ht]; exact hP9, va_K.moved hW.alike hK9, hD9⟩⟩, hS.F ht⟩) hS.2.2 dX7_kindOfSign_145
      · by_cases hc4 : p0 = 43
        · refine lv_lookup (off := 139) (tgt := 140) hx hb dX7_kindOfSign_1 (by decide) (by rw [hc4]; decide) (by decide) ?_
          refine lv_iconst (v := 1) hx hb dX7_kindOfSign_140 (by decide) ?_
          have e_sX7_kindOfSign_r : sX7_kindOfSign_r p0 = 1 := by unfold sX7_kindOfSign_r; rw [if_neg hc1, if_neg hc2, if_neg hc3, if_pos hc4]
          have hP9 : va_P (dC, dI) cls [] s.heap := by exact hP.sub [] rfl
          have hD9 : va_D A [] := by exact hD.sub [] (by decide) rfl
          have hK9 : va_K (dC, dI) cls [] s := hK.sub [] rfl
          refine W.widen (k := 0) (n := 0) (Nat.le_of_ble_eq_true rfl) (Nat.le_of_ble_eq_true rfl) ?_
          exact W.iret (v := 1) hx hb hr (fun t ht hW => ⟨⟨1, (), rfl, e_sX7_kindOfSign_r.symm, ⟨by rw [ht]; exact hP9, va_K.moved hW.alike hK9, hD9⟩⟩, hS.F ht⟩) hS.2.2 dX7_kindOfSign_141
        · by_cases hc5 : p0 = 45
          · refine lv_lookup (off := 141) (tgt := 142) hx hb dX7_kindOfSign_1 (by decide) (by rw [hc5]; decide) (by decide) ?_
            refine lv_iconst (v := 2) hx hb dX7_kindOfSign_142 (by decide) ?_
            have e_sX7_kindOfSign_r : sX7_kindOfSign_r p0 = 2 := by unfold sX7_kindOfSign_r; rw [if_neg hc1, if_neg hc2, if_neg hc3, if_neg hc4, if_pos hc5]
            have hP9 : va_P (dC, dI) cls [] s.heap := by exact hP.sub [] rfl
            have hD9 : va_D A [] := by exact hD.sub [] (by decide) rfl
            have hK9 : va_K (dC, dI) cls [] s := hK.sub [] rfl
            refine W.widen (k := 0) (n := 0) (Nat.le_of_ble_eq_true rfl) (Nat.le_of_ble_eq_true rfl) ?_
            exact W.iret (v := 2) hx hb hr (fun t ht hW => ⟨⟨2, (), rfl, e_sX7_kindOfSign_r.symm, ⟨by rw [ht]; exact hP9, va_K.moved hW.alike hK9, hD9⟩⟩, hS.F ht⟩) hS.2.2 dX7_kindOfSign_143
          · by_cases hc6 : p0 = 47
            · refine lv_lookup (off := 145) (tgt := 146) hx hb dX7_kindOfSign_1 (by decide) (by rw [hc6]; decide) (by decide) ?_
              refine lv_iconst (v := 4) hx hb dX7_kindOfSign_146 (by decide) ?_
              have e_sX7_kindOfSign_r : sX7_kindOfSign_r p0 = 4 := by unfold sX7_kindOfSign_r; rw [if_neg hc1, if_neg hc2, if_neg hc3, if_neg hc4, if_neg hc5, if_pos hc6]
              have hP9 : va_P (dC, dI) cls [] s.heap := by exact hP.sub [] rfl
              have hD9 : va_D A [] := by exact hD.sub [] (by decide) rfl
              have hK9 : va_K (dC, dI) cls [] s := hK.sub [] rfl
              refine W.widen (k := 0) (n := 0) (Nat.le_of_ble_eq_true rfl) (Nat.le_of_ble_eq_true rfl) ?_
              exact W.iret (v := 4) hx hb hr (fun t ht hW => ⟨⟨4, (), rfl, e_sX7_kindOfSign_r.symm, ⟨by rw [ht]; exact hP9, va_K.moved hW.alike hK9, hD9⟩⟩, hS.F ht⟩) hS.2.2 dX7_kindOfSign_147
            · by_cases hc7 : p0 = 60
              · refine lv_lookup (off := 164) (tgt := 165) hx hb dX7_kindOfSign_1 (by decide) (by rw [hc7]; decide) (by decide) ?_
                refine lv_bipush (v := 11) hx hb dX7_kindOfSign_165 (by decide) ?_
                have e_sX7_kindOfSign_r : sX7_kindOfSign_r p0 = 11 := by unfold sX7_kindOfSign_r; rw [if_neg hc1, if_neg hc2, if_neg hc3, if_neg hc4, if_neg hc5, if_neg hc6, if_pos hc7]
                have hP9 : va_P (dC, dI) cls [] s.heap := by exact hP.sub [] rfl
                have hD9 : va_D A [] := by exact hD.sub [] (by decide) rfl
                have hK9 : va_K (dC, dI) cls [] s := hK.sub [] rfl
                refine W.widen (k := 0) (n := 0) (Nat.le_of_ble_eq_true rfl) (Nat.le_of_ble_eq_true rfl) ?_
                exact W.iret (v := 11) hx hb hr (fun t ht hW => ⟨⟨11, (), rfl, e_sX7_kindOfSign_r.symm, ⟨by rw [ht]; exact hP9, va_K.moved hW.alike hK9, hD9⟩⟩, hS.F ht⟩) hS.2.2 dX7_kindOfSign_167
              · by_cases hc8 : p0 = 62
                · refine lv_lookup (off := 170) (tgt := 171) hx hb dX7_kindOfSign_1 (by decide) (by rw [hc8]; decide) (by decide) ?_
                  refine lv_bipush (v := 13) hx hb dX7_kindOfSign_171 (by decide) ?_
                  have e_sX7_kindOfSign_r : sX7_kindOfSign_r p0 = 13 := by unfold sX7_kindOfSign_r; rw [if_neg hc1, if_neg hc2, if_neg hc3, if_neg hc4, if_neg hc5, if_neg hc6, if_neg hc7, if_pos hc8]
                  have hP9 : va_P (dC, dI) cls [] s.heap := by exact hP.sub [] rfl
                  have hD9 : va_D A [] := by exact hD.sub [] (by decide) rfl
                  have hK9 : va_K (dC, dI) cls [] s := hK.sub [] rfl
                  refine W.widen (k := 0) (n := 0) (Nat.le_of_ble_eq_true rfl) (Nat.le_of_ble_eq_true rfl) ?_
                  exact W.iret (v := 13) hx hb hr (fun t ht hW => ⟨⟨13, (), rfl, e_sX7_kindOfSign_r.symm, ⟨by rw [ht]; exact hP9, va_K.moved hW.alike hK9, hD9⟩⟩, hS.F ht⟩) hS.2.2 dX7_kindOfSign_173
                · by_cases hc9 : p0 = 94
                  · refine lv_lookup (off := 155) (tgt := 156) hx hb dX7_kindOfSign_1 (by decide) (by rw [hc9]; decide) (by decide) ?_
                    refine lv_bipush (v := 8) hx hb dX7_kindOfSign_156 (by decide) ?_
                    have e_sX7_kindOfSign_r : sX7_kindOfSign_r p0 = 8 := by unfold sX7_kindOfSign_r; rw [if_neg hc1, if_neg hc2, if_neg hc3, if_neg hc4, if_neg hc5, if_neg hc6, if_neg hc7, if_neg hc8, if_pos hc9]
                    have hP9 : va_P (dC, dI) cls [] s.heap := by exact hP.sub [] rfl
                    have hD9 : va_D A [] := by exact hD.sub [] (by decide) rfl
                    have hK9 : va_K (dC, dI) cls [] s := hK.sub [] rfl
                    refine W.widen (k := 0) (n := 0) (Nat.le_of_ble_eq_true rfl) (Nat.le_of_ble_eq_true rfl) ?_
                    exact W.iret (v := 8) hx hb hr (fun t ht hW => ⟨⟨8, (), rfl, e_sX7_kindOfSign_r.symm, ⟨by rw [ht]; exact hP9, va_K.moved hW.alike hK9, hD9⟩⟩, hS.F ht⟩) hS.2.2 dX7_kindOfSign_158
                  · by_cases hc10 : p0 = 124
                    · refine lv_lookup (off := 152) (tgt := 153) hx hb dX7_kindOfSign_1 (by decide) (by rw [hc10]; decide) (by decide) ?_
                      refine lv_bipush (v := 7) hx hb dX7_kindOfSign_153 (by decide) ?_
                      have e_sX7_kindOfSign_r : sX7_kindOfSign_r p0 = 7 := by unfold sX7_kindOfSign_r; rw [if_neg hc1, if_neg hc2, if_neg hc3, if_neg hc4, if_neg hc5, if_neg hc6, if_neg hc7, if_neg hc8, if_neg hc9, if_pos hc10]
                      have hP9 : va_P (dC, dI) cls [] s.heap := by exact hP.sub [] rfl
                      have hD9 : va_D A [] := by exact hD.sub [] (by decide) rfl
                      have hK9 : va_K (dC, dI) cls [] s := hK.sub [] rfl
                      refine W.widen (k := 0) (n := 0) (Nat.le_of_ble_eq_true rfl) (Nat.le_of_ble_eq_true rfl) ?_
                      exact W.iret (v := 7) hx hb hr (fun t ht hW => ⟨⟨7, (), rfl, e_sX7_kindOfSign_r.symm, ⟨by rw [ht]; exact hP9, va_K.moved hW.alike hK9, hD9⟩⟩, hS.F ht⟩) hS.2.2 dX7_kindOfSign_155
                    · by_cases hc11 : p0 = 316
                      · refine lv_lookup (off := 158) (tgt := 159) hx hb dX7_kindOfSign_1 (by decide) (by rw [hc11]; decide) (by decide) ?_
                        refine lv_bipush (v := 9) hx hb dX7_kindOfSign_159 (by decide) ?_
                        have e_sX7_kindOfSign_r : sX7_kindOfSign_r p0 = 9 := by unfold sX7_kindOfSign_r; rw [if_neg hc1, if_neg hc2, if_neg hc3, if_neg hc4, if_neg hc5, if_neg hc6, if_neg hc7, if_neg hc8, if_neg hc9, if_neg hc10, if_pos hc11]
                        have hP9 : va_P (dC, dI) cls [] s.heap := by exact hP.sub [] rfl
                        have hD9 : va_D A [] := by exact hD.sub [] (by decide) rfl
                        have hK9 : va_K (dC, dI) cls [] s := hK.sub [] rfl
                        refine W.widen (k := 0) (n := 0) (Nat.le_of_ble_eq_true rfl) (Nat.le_of_ble_eq_true rfl) ?_
                        exact W.iret (v := 9) hx hb hr (fun t ht hW => ⟨⟨9, (), rfl, e_sX7_kindOfSign_r.symm, ⟨by rw [ht]; exact hP9, va_K.moved hW.alike hK9, hD9⟩⟩, hS.F ht⟩) hS.2.2 dX7_kindOfSign_161
                      · by_cases hc12 : p0 = 318
                        · refine lv_lookup (off := 161) (tgt := 162) hx hb dX7_kindOfSign_1 (by decide) (by rw [hc12]; decide) (by decide) ?_
                          refine lv_bipush (v := 10) hx hb dX7_kindOfSign_162 (by decide) ?_
                          have e_sX7_kindOfSign_r : sX7_kindOfSign_r p0 = 10 := by unfold sX7_kindOfSign_r; rw [if_neg hc1, if_neg hc2, if_neg hc3, if_neg hc4, if_neg hc5, if_neg hc6, if_neg hc7, if_neg hc8, if_neg hc9, if_neg hc10, if_neg hc11, if_pos hc12]
                          have hP9 : va_P (dC, dI) cls [] s.heap := by exact hP.sub [] rfl
                          have hD9 : va_D A [] := by exact hD.sub [] (by decide) rfl
                          have hK9 : va_K (dC, dI) cls [] s := hK.sub [] rfl
                          refine W.widen (k := 0) (n := 0) (Nat.le_of_ble_eq_true rfl) (Nat.le_of_ble_eq_true rfl) ?_
                          exact W.iret (v := 10) hx hb hr (fun t ht hW => ⟨⟨10, (), rfl, e_sX7_kindOfSign_r.symm, ⟨by rw [ht]; exact hP9, va_K.moved hW.alike hK9, hD9⟩⟩, hS.F ht⟩) hS.2.2 dX7_kindOfSign_164
                        · by_cases hc13 : p0 = 545
                          · refine lv_lookup (off := 179) (tgt := 180) hx hb dX7_kindOfSign_1 (by decide) (by rw [hc13]; decide) (by decide) ?_
                            refine lv_bipush (v := 16) hx hb dX7_kindOfSign_180 (by decide) ?_
                            have e_sX7_kindOfSign_r : sX7_kindOfSign_r p0 = 16 := by unfold sX7_kindOfSign_r; rw [if_neg hc1, if_neg hc2, if_neg hc3, if_neg hc4, if_neg hc5, if_neg hc6, if_neg hc7, if_neg hc8, if_neg hc9, if_neg hc10, if_neg hc11, if_neg hc12, if_pos hc13]
                            have hP9 : va_P (dC, dI) cls [] s.heap := by exact hP.sub [] rfl
                            have hD9 : va_D A [] := by exact hD.sub [] (by decide) rfl
                            have hK9 : va_K (dC, dI) cls [] s := hK.sub [] rfl
                            refine W.widen (k := 0) (n := 0) (Nat.le_of_ble_eq_true rfl) (Nat.le_of_ble_eq_true rfl) ?_
                            exact W.iret (v := 16) hx hb hr (fun t ht hW => ⟨⟨16, (), rfl, e_sX7_kindOfSign_r.symm, ⟨by rw [ht]; exact hP9, va_K.moved hW.alike hK9, hD9⟩⟩, hS.F ht⟩) hS.2.2 dX7_kindOfSign_182
                          · by_cases hc14 : p0 = 572
                            · refine lv_lookup (off := 167) (tgt := 168) hx hb dX7_kindOfSign_1 (by decide) (by rw [hc14]; decide) (by decide) ?_
                              refine lv_bipush (v := 12) hx hb dX7_kindOfSign_168 (by decide) ?_
                              have e_sX7_kindOfSign_r : sX7_kindOfSign_r p0 = 12 := by unfold sX7_kindOfSign_r; rw [if_neg hc1, if_neg hc2, if_neg hc3, if_neg hc4, if_neg hc5, if_neg hc6, if_neg hc7, if_neg hc8, if_neg hc9, if_neg hc10, if_neg hc11, if_neg hc12, if_neg hc13, if_pos hc14]
                              have hP9 : va_P (dC, dI) cls [] s.heap := by exact hP.sub [] rfl
                              have hD9 : va_D A [] := by exact hD.sub [] (by decide) rfl
                              have hK9 : va_K (dC, dI) cls [] s := hK.sub [] rfl
                              refine W.widen (k := 0) (n := 0) (Nat.le_of_ble_eq_true rfl) (Nat.le_of_ble_eq_true rfl) ?_
                              exact W.iret (v := 12) hx hb hr (fun t ht hW => ⟨⟨12, (), rfl, e_sX7_kindOfSign_r.symm, ⟨by rw [ht]; exact hP9, va_K.moved hW.alike hK9, hD9⟩⟩, hS.F ht⟩) hS.2.2 dX7_kindOfSign_170
                            · by_cases hc15 : p0 = 573
                              · refine lv_lookup (off := 176) (tgt := 177) hx hb dX7_kindOfSign_1 (by decide) (by rw [hc15]; decide) (by decide) ?_
                                refine lv_bipush (v := 15) hx hb dX7_kindOfSign_177 (by decide) ?_
                                have e_sX7_kindOfSign_r : sX7_kindOfSign_r p0 = 15 := by unfold sX7_kindOfSign_r; rw [if_neg hc1, if_neg hc2, if_neg hc3, if_neg hc4, if_neg hc5, if_neg hc6, if_neg hc7, if_neg hc8, if_neg hc9, if_neg hc10, if_neg hc11, if_neg hc12, if_neg hc13, if_neg hc14, if_pos hc15]
                                have hP9 : va_P (dC, dI) cls [] s.heap := by exact hP.sub [] rfl
                                have hD9 : va_D A [] := by exact hD.sub [] (by decide) rfl
                                have hK9 : va_K (dC, dI) cls [] s := hK.sub [] rfl
                                refine W.widen (k := 0) (n := 0) (Nat.le_of_ble_eq_true rfl) (Nat.le_of_ble_eq_true rfl) ?_
                                exact W.iret (v := 15) hx hb hr (fun t ht hW => ⟨⟨15, (), rfl, e_sX7_kindOfSign_r.symm, ⟨by rw [ht]; exact hP9, va_K.moved hW.alike hK9, hD9⟩⟩, hS.F ht⟩) hS.2.2 dX7_kindOfSign_179
                              · by_cases hc16 : p0 = 574
                                · refine lv_lookup (off := 173) (tgt := 174) hx hb dX7_kindOfSign_1 (by decide) (by rw [hc16]; decide) (by decide) ?_
                                  refine lv_bipush (v := 14) hx hb dX7_kindOfSign_174 (by decide) ?_
                                  have e_sX7_kindOfSign_r : sX7_kindOfSign_r p0 = 14 := by unfold sX7_kindOfSign_r; rw [if_neg hc1, if_neg hc2, if_neg hc3, if_neg hc4, if_neg hc5, if_neg hc6, if_neg hc7, if_neg hc8, if_neg hc9, if_neg hc10, if_neg hc11, if_neg hc12, if_neg hc13, if_neg hc14, if_neg hc15, if_pos hc16]
                                  have hP9 : va_P (dC, dI) cls [] s.heap := by exact hP.sub [] rfl
                                  have hD9 : va_D A [] := by exact hD.sub [] (by decide) rfl
                                  have hK9 : va_K (dC, dI) cls [] s := hK.sub [] rfl
                                  refine W.widen (k := 0) (n := 0) (Nat.le_of_ble_eq_true rfl) (Nat.le_of_ble_eq_true rfl) ?_
                                  exact W.iret (v := 14) hx hb hr (fun t ht hW => ⟨⟨14, (), rfl, e_sX7_kindOfSign_r.symm, ⟨by rw [ht]; exact hP9, va_K.moved hW.alike hK9, hD9⟩⟩, hS.F ht⟩) hS.2.2 dX7_kindOfSign_176
                                · refine lv_lookup (off := 182) (tgt := 183) hx hb dX7_kindOfSign_1 (by decide) (by rw [lv_osw hc1 (by decide), lv_osw hc2 (by decide), lv_osw hc3 (by decide), lv_osw hc4 (by decide), lv_osw hc5 (by decide), lv_osw hc6 (by decide), lv_osw hc7 (by decide), lv_osw hc8 (by decide), lv_osw hc9 (by decide), lv_osw hc10 (by decide), lv_osw hc11 (by decide), lv_osw hc12 (by decide), lv_osw hc13 (by decide), lv_osw hc14 (by decide), lv_osw hc15 (by decide), lv_osw hc16 (by decide)]; rfl) (by decide) ?_
                                  refine lv_iconst (v := (-1)) hx hb dX7_kindOfSign_183 (by decide) ?_
                                  have e_sX7_kindOfSign_r : sX7_kindOfSign_r p0 = (-1) := by unfold sX7_kindOfSign_r; rw [if_neg hc1, if_neg hc2, if_neg hc3, if_neg hc4, if_neg hc5, if_neg hc6, if_neg hc7, if_neg hc8, if_neg hc9, if_neg hc10, if_neg hc11, if_neg hc12, if_neg hc13, if_neg hc14, if_neg hc15, if_neg hc16]
                                  have hP9 : va_P (dC, dI) cls [] s.heap := by exact hP.sub [] rfl
                                  have hD9 : va_D A [] := by exact hD.sub [] (by decide) rfl
                                  have hK9 : va_K (dC, dI) cls [] s := hK.sub [] rfl
                                  refine W.widen (k := 0) (n := 0) (Nat.le_of_ble_eq_true rfl) (Nat.le_of_ble_eq_true rfl) ?_
                                  exact W.iret (v := (-1)) hx hb hr (fun t ht hW => ⟨⟨(-1), (), rfl, e_sX7_kindOfSign_r.symm, ⟨by rw [ht]; exact hP9, va_K.moved hW.alike hK9, hD9⟩⟩, hS.F ht⟩) hS.2.2 dX7_kindOfSign_184
def sX7_noteCall_0_17 (w_calls : Int32) : Int32 := (if 600 ≤ w_calls then w_calls else (w_calls + 1))
def sX7_noteCall_2 (w_callNameF : Nat → Int64) (w_calls : Int32) (p0 : Int64) : Nat → Int64 := (if 600 ≤ w_calls then w_callNameF else (vp_updL w_callNameF (Int32.toNatClampNeg w_calls) p0))
def sX7_noteCall_3 (w_callOpF : Nat → Int32) (w_calls : Int32) (w_program_ops : Int32) : Nat → Int32 := (if 600 ≤ w_calls then w_callOpF else (upd w_callOpF (Int32.toNatClampNeg w_calls) w_program_ops))
def sX7_noteCall_4 (w_callPlaceF : Nat → Int32) (w_calls : Int32) (p1 : Int32) : Nat → Int32 := (if 600 ≤ w_calls then w_callPlaceF else (upd w_callPlaceF (Int32.toNatClampNeg w_calls) p1))
def sX7_noteCall_5 (w_callArgumentsF : Nat → Int32) (w_calls : Int32) (p2 : Int32) : Nat → Int32 := (if 600 ≤ w_calls then w_callArgumentsF else (upd w_callArgumentsF (Int32.toNatClampNeg w_calls) p2))
set_option maxHeartbeats 4000000 in
set_option maxRecDepth 100000 in
theorem kX7_noteCall {zs : Nat × Nat} (l : Launch) (dC : Nat → ClassId) (dI : Nat → Nat → Nat) (h0 : Nat) (w_faultPlace : Int32) (w_function : Int32) (w_open : Int32) (w_tallPlace : Int32) (w_fault : Int32) (w_seenNameA : Nat) (w_seenVariableA : Nat) (w_seen : Int32) (w_loopHeadA : Nat) (w_loopEndA : Nat) (w_loops : Int32) (w_callNameA : Nat) (w_callNameC : ClassId) (w_callNameF : Nat → Int64) (w_callOpA : Nat) (w_callOpC : ClassId) (w_callOpF : Nat → Int32) (w_callPlaceA : Nat) (w_callPlaceC : ClassId) (w_callPlaceF : Nat → Int32) (w_callArgumentsA : Nat) (w_callArgumentsC : ClassId) (w_callArgumentsF : Nat → Int32) (w_calls : Int32) (w_tokensO : Nat) (w_programO : Nat) (w_program_functions : Int32) (w_program_nameA : Nat) (w_program_namePlaceA : Nat) (w_program_parametersA : Nat) (w_program_variablesA : Nat) (w_program_fromA : Nat) (w_program_toA : Nat) (w_program_ops : Int32) (w_program_opA : Nat) (w_program_argumentA : Nat) (w_program_ticksA : Nat) (w_program_labels : Int32) (w_program_labelAtA : Nat) (p0 : Int64) (p1 : Int32) (p2 : Int32) (sz : Nat) (hq1 : ¬ (600 ≤ w_calls) → vp_in w_calls 600) : Met l yX7_noteCall (wz yX7_noteCall cX7_noteCall 5 (Option.none : Option Jvm.ClassFile.FieldType)) ({ frames := 0, cells := 0, slots := 0, locals := 0 }) (va_Pc [.ref h0, .long p0, .int p1, .int p2] (PRE zs dC dI [(h0, .inr (1, [.int w_faultPlace, .ref w_tokensO, .ref w_programO, .int w_function, .int w_open, .int w_tallPlace, .int w_fault, .ref w_seenNameA, .ref w_seenVariableA, .int w_seen, .ref w_loopHeadA, .ref w_loopEndA, .int w_loops, .ref w_callNameA, .ref w_callOpA, .ref w_callPlaceA, .ref w_callArgumentsA, .int w_calls])), (w_programO, .inr (2, [.int w_program_functions, .ref w_program_nameA, .ref w_program_namePlaceA, .ref w_program_parametersA, .ref w_program_variablesA, .ref w_program_fromA, .ref w_program_toA, .int w_program_ops, .ref w_program_opA, .ref w_program_argumentA, .ref w_program_ticksA, .int w_program_labels, .ref w_program_labelAtA])), (w_callNameA, .inl (w_callNameC, 600, .inr (.inl w_callNameF))), (w_callOpA, .inl (w_callOpC, 600, .inl w_callOpF)), (w_callPlaceA, .inl (w_callPlaceC, 600, .inl w_callPlaceF)), (w_callArgumentsA, .inl (w_callArgumentsC, 600, .inl w_callArgumentsF))] [(w_callNameC, .long), (w_callOpC, .int), (w_callPlaceC, .int), (w_callArgumentsC, .int)] sz)) (va_Qv (fun (_ : Unit) => True) (fun _ t => POST dC dI [(h0, .inr (1, [.int w_faultPlace, .ref w_tokensO, .ref w_programO, .int w_function, .int w_open, .int w_tallPlace, .int w_fault, .ref w_seenNameA, .ref w_seenVariableA, .int w_seen, .ref w_loopHeadA, .ref w_loopEndA, .int w_loops, .ref w_callNameA, .ref w_callOpA, .ref w_callPlaceA, .ref w_callArgumentsA, .int (sX7_noteCall_0_17 w_calls)])), (w_programO, .inr (2, [.int w_program_functions, .ref w_program_nameA, .ref w_program_namePlaceA, .ref w_program_parametersA, .ref w_program_variablesA, .ref w_program_fromA, .ref w_program_toA, .int w_program_ops, .ref w_program_opA, .ref w_program_argumentA, .ref w_program_ticksA, .int w_program_labels, .ref w_program_labelAtA])), (w_callNameA, .inl (w_callNameC, 600, .inr (.inl (sX7_noteCall_2 w_callNameF w_calls p0)))), (w_callOpA, .inl (w_callOpC, 600, .inl (sX7_noteCall_3 w_callOpF w_calls w_program_ops))), (w_callPlaceA, .inl (w_callPlaceC, 600, .inl (sX7_noteCall_4 w_callPlaceF w_calls p1))), (w_callArgumentsA, .inl (w_callArgumentsC, 600, .inl (sX7_noteCall_5 w_callArgumentsF w_calls p2)))] [(w_callNameC, .long), (w_callOpC, .int), (w_callPlaceC, .int), (w_callArgumentsC, .int)] (va_A [(h0, .inr (1, [.int w_faultPlace, .ref w_tokensO, .ref w_programO, .int w_function, .int w_open, .int w_tallPlace, .int w_fault, .ref w_seenNameA, .ref w_seenVariableA, .int w_seen, .ref w_loopHeadA, .ref w_loopEndA, .int w_loops, .ref w_callNameA, .ref w_callOpA, .ref w_callPlaceA, .ref w_callArgumentsA, .int w_calls])), (w_programO, .inr (2, [.int w_program_functions, .ref w_program_nameA, .ref w_program_namePlaceA, .ref w_program_parametersA, .ref w_program_variablesA, .ref w_program_fromA, .ref w_program_toA, .int w_program_ops, .ref w_program_opA, .ref w_program_argumentA, .ref w_program_ticksA, .int w_program_labels, .ref w_program_labelAtA])), (w_callNameA, .inl (w_callNameC, 600, .inr (.inl w_callNameF))), (w_callOpA, .inl (w_callOpC, 600, .inl w_callOpF)), (w_callPlaceA, .inl (w_callPlaceC, 600, .inl w_callPlaceF)), (w_callArgumentsA, .inl (w_callArgumentsC, 600, .inl w_callArgumentsF))] sz) t) (va_A [(h0, .inr (1, [.int w_faultPlace, .ref w_tokensO, .ref w_programO, .int w_function, .int w_open, .int w_tallPlace, .int w_fault, .ref w_seenNameA, .ref w_seenVariableA, .int w_seen, .ref w_loopHeadA, .ref w_loopEndA, .int w_loops, .ref w_callNameA, .ref w_callOpA, .ref w_callPlaceA, .ref w_callArgumentsA, .int w_calls])), (w_programO, .inr (2, [.int w_program_functions, .ref w_program_nameA, .ref w_program_namePlaceA, .ref w_program_parametersA, .ref w_program_variablesA, .ref w_program_fromA, .ref w_program_toA, .int w_program_ops, .ref w_program_opA, .ref w_program_argumentA, .ref w_program_ticksA, .int w_program_labels, .ref w_program_labelAtA])), (w_callNameA, .inl (w_callNameC, 600, .inr (.inl w_callNameF))), (w_callOpA, .inl (w_callOpC, 600, .inl w_callOpF)), (w_callPlaceA, .inl (w_callPlaceC, 600, .inl w_callPlaceF)), (w_callArgumentsA, .inl (w_callArgumentsC, 600, .inl w_callArgumentsF))] sz)) 0 0 (va_A [(h0, .inr (1, [.int w_faultPlace, .ref w_tokensO, .ref w_programO, .int w_function, .int w_open, .int w_tallPlace, .int w_fault, .ref w_seenNameA, .ref w_seenVariableA, .int w_seen, .ref w_loopHeadA, .ref w_loopEndA, .int w_loops, .ref w_callNameA, .ref w_callOpA, .ref w_callPlaceA, .ref w_callArgumentsA, .int w_calls])), (w_programO, .inr (2, [.int w_program_functions, .ref w_program_nameA, .ref w_program_namePlaceA, .ref w_program_parametersA, .ref w_program_variablesA, .ref w_program_fromA, .ref w_program_toA, .int w_program_ops, .ref w_program_opA, .ref w_program_argumentA, .ref w_program_ticksA, .int w_program_labels, .ref w_program_labelAtA])), (w_callNameA, .inl (w_callNameC, 600, .inr (.inl w_callNameF))), (w_callOpA, .inl (w_callOpC, 600, .inl w_callOpF)), (w_callPlaceA, .inl (w_callPlaceC, 600, .inl w_callPlaceF)), (w_callArgumentsA, .inl (w_callArgumentsC, 600, .inl w_callArgumentsF))] sz) := by
  refine Met.ofW (cc := cX7_noteCall) (maxL := 5) (ret := (Option.none : Option Jvm.ClassFile.FieldType)) (by decide) rfl ?_
  intro p e s m args below meth c s₁ B hml hv
  obtain ⟨rfl, hsz, hP, hK, hD0, hE⟩ := hv
  have hx := B.exec
  have hb := B.bytes
  have hr := B.returns
  have hts0 := atoms_spec (ws := wz yX7_noteCall cX7_noteCall 5 (Option.none : Option Jvm.ClassFile.FieldType)) B.pre
  have hts : ∀ w ∈ gw, w.before _ s = true := fun w h => hts0 w (List.mem_cons_of_mem _ h)
  have hown : s.vm.findClass RX7 = some m.cls := findClass_of_methodNamed B.named
  have hlocks := B.notSynchronized
  subst hsz
  have hD := hD0.self (sz := s.heap.size)
  generalize hAe : va_A [(h0, .inr (1, [.int w_faultPlace, .ref w_tokensO, .ref w_programO, .int w_function, .int w_open, .int w_tallPlace, .int w_fault, .ref w_seenNameA, .ref w_seenVariableA, .int w_seen, .ref w_loopHeadA, .ref w_loopEndA, .int w_loops, .ref w_callNameA, .ref w_callOpA, .ref w_callPlaceA, .ref w_callArgumentsA, .int w_calls])), (w_programO, .inr (2, [.int w_program_functions, .ref w_program_nameA, .ref w_program_namePlaceA, .ref w_program_parametersA, .ref w_program_variablesA, .ref w_program_fromA, .ref w_program_toA, .int w_program_ops, .ref w_program_opA, .ref w_program_argumentA, .ref w_program_ticksA, .int w_program_labels, .ref w_program_labelAtA])), (w_callNameA, .inl (w_callNameC, 600, .inr (.inl w_callNameF))), (w_callOpA, .inl (w_callOpC, 600, .inl w_callOpF)), (w_callPlaceA, .inl (w_callPlaceC, 600, .inl w_callPlaceF)), (w_callArgumentsA, .inl (w_callArgumentsC, 600, .inl w_callArgumentsF))] s.heap.size = A at hD hE ⊢
  have hA : ∀ q : Nat, s.heap.size ≤ q → A q := fun q h => by rw [← hAe]; exact Or.inr h
  have hS : va_S A s.heap s.heap [] := va_S.rf
  have hP : va_P (dC, dI) cls [(h0, .inr (1, [.int w_faultPlace, .ref w_tokensO, .ref w_programO, .int w_function, .int w_open, .int w_tallPlace, .int w_fault, .ref w_seenNameA, .ref w_seenVariableA, .int w_seen, .ref w_loopHeadA, .ref w_loopEndA, .int w_loops, .ref w_callNameA, .ref w_callOpA, .ref w_callPlaceA, .ref w_callArgumentsA, .int w_calls])), (w_programO, .inr (2, [.int w_program_functions, .ref w_program_nameA, .ref w_program_namePlaceA, .ref w_program_parametersA, .ref w_program_variablesA, .ref w_program_fromA, .ref w_program_toA, .int w_program_ops, .ref w_program_opA, .ref w_program_argumentA, .ref w_program_ticksA, .int w_program_labels, .ref w_program_labelAtA])), (w_callNameA, .inl (w_callNameC, 600, .inr (.inl w_callNameF))), (w_callOpA, .inl (w_callOpC, 600, .inl w_callOpF)), (w_callPlaceA, .inl (w_callPlaceC, 600, .inl w_callPlaceF)), (w_callArgumentsA, .inl (w_callArgumentsC, 600, .inl w_callArgumentsF))] s.heap := hP
  have hl := lv_entry ([.ref h0, .long p0, .int p1, .int p2]) (n := 5) (Nat.le_of_ble_eq_true rfl)
  rw [lg_entry_eq]
  generalize (lg_sl ([.ref h0, .long p0, .int p1, .int p2]) ++ List.replicate (5 - (lg_sl ([.ref h0, .long p0, .int p1, .int p2])).length) Slot.unset).toArray = ls at hl ⊢
  have hl : lv_has ls 5 [(0, .ref h0), (1, .long p0), (3, .int p1), (4, .int p2)] := hl
  refine lv_aload_n hx hb dX7_noteCall_0 rfl (lv_at hl 0 rfl) ?_
  refine va_get (D := (dC, dI)) (ci := 1) (v := .int w_calls) (C := RX7) (T := TX7) (N := 18) hx hb hts i_X7 hown hK hP 0 rfl rfl 17 (by decide) (hts _ qw178) (fun _ h9 => h9) rfl dX7_noteCall_1 ?_
  refine lv_sipush (v := 600) hx hb dX7_noteCall_4 (by decide) ?_
  by_cases hc1 : 600 ≤ w_calls
  · refine lv_icmp_ge (tgt := 67) hx hb dX7_noteCall_7 (by decide) (fun _ => ?_) (fun c => absurd hc1 c)
    have e_sX7_noteCall_0_17 : sX7_noteCall_0_17 w_calls = w_calls := by unfold sX7_noteCall_0_17; rw [if_pos hc1]
    have e_sX7_noteCall_2 : sX7_noteCall_2 w_callNameF w_calls p0 = w_callNameF := by unfold sX7_noteCall_2; rw [if_pos hc1]
    have e_sX7_noteCall_3 : sX7_noteCall_3 w_callOpF w_calls w_program_ops = w_callOpF := by unfold sX7_noteCall_3; rw [if_pos hc1]
    have e_sX7_noteCall_4 : sX7_noteCall_4 w_callPlaceF w_calls p1 = w_callPlaceF := by unfold sX7_noteCall_4; rw [if_pos hc1]
    have e_sX7_noteCall_5 : sX7_noteCall_5 w_callArgumentsF w_calls p2 = w_callArgumentsF := by unfold sX7_noteCall_5; rw [if_pos hc1]
    have hP9 : va_P (dC, dI) cls [(h0, .inr (1, [.int w_faultPlace, .ref w_tokensO, .ref w_programO, .int w_function, .int w_open, .int w_tallPlace, .int w_fault, .ref w_seenNameA, .ref w_seenVariableA, .int w_seen, .ref w_loopHeadA, .ref w_loopEndA, .int w_loops, .ref w_callNameA, .ref w_callOpA, .ref w_callPlaceA, .ref w_callArgumentsA, .int (sX7_noteCall_0_17 w_calls)])), (w_programO, .inr (2, [.int w_program_functions, .ref w_program_nameA, .ref w_program_namePlaceA, .ref w_program_parametersA, .ref w_program_variablesA, .ref w_program_fromA, .ref w_program_toA, .int w_program_ops, .ref w_program_opA, .ref w_program_argumentA, .ref w_program_ticksA, .int w_program_labels, .ref w_program_labelAtA])), (w_callNameA, .inl (w_callNameC, 600, .inr (.inl (sX7_noteCall_2 w_callNameF w_calls p0)))), (w_callOpA, .inl (w_callOpC, 600, .inl (sX7_noteCall_3 w_callOpF w_calls w_program_ops))), (w_callPlaceA, .inl (w_callPlaceC, 600, .inl (sX7_noteCall_4 w_callPlaceF w_calls p1))), (w_callArgumentsA, .inl (w_callArgumentsC, 600, .inl (sX7_noteCall_5 w_callArgumentsF w_calls p2)))] s.heap := by rw [e_sX7_noteCall_0_17, e_sX7_noteCall_2, e_sX7_noteCall_3, e_sX7_noteCall_4, e_sX7_noteCall_5]; exact hP.sub [0, 1, 2, 3, 4, 5] rfl
    have hD9 : va_D A [(h0, .inr (1, [.int w_faultPlace, .ref w_tokensO, .ref w_programO, .int w_function, .int w_open, .int w_tallPlace, .int w_fault, .ref w_seenNameA, .ref w_seenVariableA, .int w_seen, .ref w_loopHeadA, .ref w_loopEndA, .int w_loops, .ref w_callNameA, .ref w_callOpA, .ref w_callPlaceA, .ref w_callArgumentsA, .int (sX7_noteCall_0_17 w_calls)])), (w_programO, .inr (2, [.int w_program_functions, .ref w_program_nameA, .ref w_program_namePlaceA, .ref w_program_parametersA, .ref w_program_variablesA, .ref w_program_fromA, .ref w_program_toA, .int w_program_ops, .ref w_program_opA, .ref w_program_argumentA, .ref w_program_ticksA, .int w_program_labels, .ref w_program_labelAtA])), (w_callNameA, .inl (w_callNameC, 600, .inr (.inl (sX7_noteCall_2 w_callNameF w_calls p0)))), (w_callOpA, .inl (w_callOpC, 600, .inl (sX7_noteCall_3 w_callOpF w_calls w_program_ops))), (w_callPlaceA, .inl (w_callPlaceC, 600, .inl (sX7_noteCall_4 w_callPlaceF w_calls p1))), (w_callArgumentsA, .inl (w_callArgumentsC, 600, .inl (sX7_noteCall_5 w_callArgumentsF w_calls p2)))] := by rw [e_sX7_noteCall_0_17, e_sX7_noteCall_2, e_sX7_noteCall_3, e_sX7_noteCall_4, e_sX7_noteCall_5]; exact hD.sub [0, 1, 2, 3, 4, 5] (by decide) rfl
    have hK9 : va_K (dC, dI) cls [(w_callNameC, .long), (w_callOpC, .int), (w_callPlaceC, .int), (w_callArgumentsC, .int)] s := hK.sub [0, 1, 2, 3] rfl
    refine W.widen (k := 0) (n := 0) (Nat.le_of_ble_eq_true rfl) (Nat.le_of_ble_eq_true rfl) ?_
    exact W.vret hx hb hr (fun t ht hW => ⟨⟨(), rfl, trivial, ⟨by rw [ht]; exact hP9, va_K.moved hW.alike hK9, hD9⟩⟩, hS.F ht⟩) hS.2.2 dX7_noteCall_67
  · refine lv_icmp_ge (tgt := 67) hx hb dX7_noteCall_7 (by decide) (fun c => absurd c hc1) (fun _ => ?_)
    refine lv_aload_n hx hb dX7_noteCall_10 rfl (lv_at hl 0 rfl) ?_
    refine va_get (D := (dC, dI)) (ci := 1) (v := .ref w_callNameA) (C := RX7) (T := TX7) (N := 18) hx hb hts i_X7 hown hK hP 0 rfl rfl 13 (by decide) (hts _ qw21) (fun _ h9 => h9) rfl dX7_noteCall_11 ?_
    refine lv_aload_n hx hb dX7_noteCall_14 rfl (lv_at hl 0 rfl) ?_
    refine va_get (D := (dC, dI)) (ci := 1) (v := .int w_calls) (C := RX7) (T := TX7) (N := 18) hx hb hts i_X7 hown hK hP 0 rfl rfl 17 (by decide) (hts _ qw178) (fun _ h9 => h9) rfl dX7_noteCall_15 ?_
    refine lv_lload_n hx hb dX7_noteCall_18 rfl (lv_at hl 1 rfl) ?_
    refine va_last hx hb hK hP hD hS 2 0 rfl rfl (hq1 hc1) dX7_noteCall_19 (fun H locs hP hD hS => ?_)
    have hP : va_P (dC, dI) cls [(h0, .inr (1, [.int w_faultPlace, .ref w_tokensO, .ref w_programO, .int w_function, .int w_open, .int w_tallPlace, .int w_fault, .ref w_seenNameA, .ref w_seenVariableA, .int w_seen, .ref w_loopHeadA, .ref w_loopEndA, .int w_loops, .ref w_callNameA, .ref w_callOpA, .ref w_callPlaceA, .ref w_callArgumentsA, .int w_calls])), (w_programO, .inr (2, [.int w_program_functions, .ref w_program_nameA, .ref w_program_namePlaceA, .ref w_program_parametersA, .ref w_program_variablesA, .ref w_program_fromA, .ref w_program_toA, .int w_program_ops, .ref w_program_opA, .ref w_program_argumentA, .ref w_program_ticksA, .int w_program_labels, .ref w_program_labelAtA])), (w_callNameA, .inl (w_callNameC, 600, .inr (.inl (vp_updL w_callNameF (Int32.toNatClampNeg w_calls) p0)))), (w_callOpA, .inl (w_callOpC, 600, .inl w_callOpF)), (w_callPlaceA, .inl (w_callPlaceC, 600, .inl w_callPlaceF)), (w_callArgumentsA, .inl (w_callArgumentsC, 600, .inl w_callArgumentsF))] H := hP
    have hD : va_D A [(h0, .inr (1, [.int w_faultPlace, .ref w_tokensO, .ref w_programO, .int w_function, .int w_open, .int w_tallPlace, .int w_fault, .ref w_seenNameA, .ref w_seenVariableA, .int w_seen, .ref w_loopHeadA, .ref w_loopEndA, .int w_loops, .ref w_callNameA, .ref w_callOpA, .ref w_callPlaceA, .ref w_callArgumentsA, .int w_calls])), (w_programO, .inr (2, [.int w_program_functions, .ref w_program_nameA, .ref w_program_namePlaceA, .ref w_program_parametersA, .ref w_program_variablesA, .ref w_program_fromA, .ref w_program_toA, .int w_program_ops, .ref w_program_opA, .ref w_program_argumentA, .ref w_program_ticksA, .int w_program_labels, .ref w_program_labelAtA])), (w_callNameA, .inl (w_callNameC, 600, .inr (.inl (vp_updL w_callNameF (Int32.toNatClampNeg w_calls) p0)))), (w_callOpA, .inl (w_callOpC, 600, .inl w_callOpF)), (w_callPlaceA, .inl (w_callPlaceC, 600, .inl w_callPlaceF)), (w_callArgumentsA, .inl (w_callArgumentsC, 600, .inl w_callArgumentsF))] := hD
    refine lv_aload_n hx hb dX7_noteCall_20 rfl (lv_at hl 0 rfl) ?_
    refine va_get (D := (dC, dI)) (ci := 1) (v := .ref w_callOpA) (C := RX7) (T := TX7) (N := 18) hx hb hts i_X7 hown hK hP 0 rfl rfl 14 (by decide) (hts _ qw22) (fun _ h9 => h9) rfl dX7_noteCall_21 ?_
    refine lv_aload_n hx hb dX7_noteCall_24 rfl (lv_at hl 0 rfl) ?_
    refine va_get (D := (dC, dI)) (ci := 1) (v := .int w_calls) (C := RX7) (T := TX7) (N := 18) hx hb hts i_X7 hown hK hP 0 rfl rfl 17 (by decide) (hts _ qw178) (fun _ h9 => h9) rfl dX7_noteCall_25 ?_
    refine lv_aload_n hx hb dX7_noteCall_28 rfl (lv_at hl 0 rfl) ?_
    refine va_get (D := (dC, dI)) (ci := 1) (v := .ref w_programO) (C := RX7) (T := TX7) (N := 18) hx hb hts i_X7 hown hK hP 0 rfl rfl 2 (by decide) (hts _ qw165) (fun _ h9 => h9) rfl dX7_noteCall_29 ?_
    refine va_get (D := (dC, dI)) (ci := 2) (v := .int w_program_ops) (C := RX6) (T := TX6) (N := 13) hx hb hts i_X6 hown hK hP 1 rfl rfl 7 (by decide) (hts _ qw518) (fun _ h9 => h9) rfl dX7_noteCall_32 ?_
    refine va_iast hx hb hK hP hD hS 3 1 rfl rfl (hq1 hc1) dX7_noteCall_35 (fun H locs hP hD hS => ?_)
    have hP : va_P (dC, dI) cls [(h0, .inr (1, [.int w_faultPlace, .ref w_tokensO, .ref w_programO, .int w_function, .int w_open, .int w_tallPlace, .int w_fault, .ref w_seenNameA, .ref w_seenVariableA, .int w_seen, .ref w_loopHeadA, .ref w_loopEndA, .int w_loops, .ref w_callNameA, .ref w_callOpA, .ref w_callPlaceA, .ref w_callArgumentsA, .int w_calls])), (w_programO, .inr (2, [.int w_program_functions, .ref w_program_nameA, .ref w_program_namePlaceA, .ref w_program_parametersA, .ref w_program_variablesA, .ref w_program_fromA, .ref w_program_toA, .int w_program_ops, .ref w_program_opA, .ref w_program_argumentA, .ref w_program_ticksA, .int w_program_labels, .ref w_program_labelAtA])), (w_callNameA, .inl (w_callNameC, 600, .inr (.inl (vp_updL w_callNameF (Int32.toNatClampNeg w_calls) p0)))), (w_callOpA, .inl (w_callOpC, 600, .inl (upd w_callOpF (Int32.toNatClampNeg w_calls) w_program_ops))), (w_callPlaceA, .inl (w_callPlaceC, 600, .inl w_callPlaceF)), (w_callArgumentsA, .inl (w_callArgumentsC, 600, .inl w_callArgumentsF))] H := hP
    have hD : va_D A [(h0, .inr (1, [.int w_faultPlace, .ref w_tokensO, .ref w_programO, .int w_function, .int w_open, .int w_tallPlace, .int w_fault, .ref w_seenNameA, .ref w_seenVariableA, .int w_seen, .ref w_loopHeadA, .ref w_loopEndA, .int w_loops, .ref w_callNameA, .ref w_callOpA, .ref w_callPlaceA, .ref w_callArgumentsA, .int w_calls])), (w_programO, .inr (2, [.int w_program_functions, .ref w_program_nameA, .ref w_program_namePlaceA, .ref w_program_parametersA, .ref w_program_variablesA, .ref w_program_fromA, .ref w_program_toA, .int w_program_ops, .ref w_program_opA, .ref w_program_argumentA, .ref w_program_ticksA, .int w_program_labels, .ref w_program_labelAtA])), (w_callNameA, .inl (w_callNameC, 600, .inr (.inl (vp_updL w_callNameF (Int32.toNatClampNeg w_calls) p0)))), (w_callOpA, .inl (w_callOpC, 600, .inl (upd w_callOpF (Int32.toNatClampNeg w_calls) w_program_ops))), (w_callPlaceA, .inl (w_callPlaceC, 600, .inl w_callPlaceF)), (w_callArgumentsA, .inl (w_callArgumentsC, 600, .inl w_callArgumentsF))] := hD
    refine lv_aload_n hx hb dX7_noteCall_36 rfl (lv_at hl 0 rfl) ?_
    refine va_get (D := (dC, dI)) (ci := 1) (v := .ref w_callPlaceA) (C := RX7) (T := TX7) (N := 18) hx hb hts i_X7 hown hK hP 0 rfl rfl 15 (by decide) (hts _ qw23) (fun _ h9 => h9) rfl dX7_noteCall_37 ?_
    refine lv_aload_n hx hb dX7_noteCall_40 rfl (lv_at hl 0 rfl) ?_
    refine va_get (D := (dC, dI)) (ci := 1) (v := .int w_calls) (C := RX7) (T := TX7) (N := 18) hx hb hts i_X7 hown hK hP 0 rfl rfl 17 (by decide) (hts _ qw178) (fun _ h9 => h9) rfl dX7_noteCall_41 ?_
    refine lv_iload_n hx hb dX7_noteCall_44 rfl (lv_at hl 2 rfl) ?_
    refine va_iast hx hb hK hP hD hS 4 2 rfl rfl (hq1 hc1) dX7_noteCall_45 (fun H locs hP hD hS => ?_)
    have hP : va_P (dC, dI) cls [(h0, .inr (1, [.int w_faultPlace, .ref w_tokensO, .ref w_programO, .int w_function, .int w_open, .int w_tallPlace, .int w_fault, .ref w_seenNameA, .ref w_seenVariableA, .int w_seen, .ref w_loopHeadA, .ref w_loopEndA, .int w_loops, .ref w_callNameA, .ref w_callOpA, .ref w_callPlaceA, .ref w_callArgumentsA, .int w_calls])), (w_programO, .inr (2, [.int w_program_functions, .ref w_program_nameA, .ref w_program_namePlaceA, .ref w_program_parametersA, .ref w_program_variablesA, .ref w_program_fromA, .ref w_program_toA, .int w_program_ops, .ref w_program_opA, .ref w_program_argumentA, .ref w_program_ticksA, .int w_program_labels, .ref w_program_labelAtA])), (w_callNameA, .inl (w_callNameC, 600, .inr (.inl (vp_updL w_callNameF (Int32.toNatClampNeg w_calls) p0)))), (w_callOpA, .inl (w_callOpC, 600, .inl (upd w_callOpF (Int32.toNatClampNeg w_calls) w_program_ops))), (w_callPlaceA, .inl (w_callPlaceC, 600, .inl (upd w_callPlaceF (Int32.toNatClampNeg w_calls) p1))), (w_callArgumentsA, .inl (w_callArgumentsC, 600, .inl w_callArgumentsF))] H := hP
    have hD : va_D A [(h0, .inr (1, [.int w_faultPlace, .ref w_tokensO, .ref w_programO, .int w_function, .int w_open, .int w_tallPlace, .int w_fault, .ref w_seenNameA, .ref w_seenVariableA, .int w_seen, .ref w_loopHeadA, .ref w_loopEndA, .int w_loops, .ref w_callNameA, .ref w_callOpA, .ref w_callPlaceA, .ref w_callArgumentsA, .int w_calls])), (w_programO, .inr (2, [.int w_program_functions, .ref w_program_nameA, .ref w_program_namePlaceA, .ref w_program_parametersA, .ref w_program_variablesA, .ref w_program_fromA, .ref w_program_toA, .int w_program_ops, .ref w_program_opA, .ref w_program_argumentA, .ref w_program_ticksA, .int w_program_labels, .ref w_program_labelAtA])), (w_callNameA, .inl (w_callNameC, 600, .inr (.inl (vp_updL w_callNameF (Int32.toNatClampNeg w_calls) p0)))), (w_callOpA, .inl (w_callOpC, 600, .inl (upd w_callOpF (Int32.toNatClampNeg w_calls) w_program_ops))), (w_callPlaceA, .inl (w_callPlaceC, 600, .inl (upd w_callPlaceF (Int32.toNatClampNeg w_calls) p1))), (w_callArgumentsA, .inl (w_callArgumentsC, 600, .inl w_callArgumentsF))] := hD
    refine lv_aload_n hx hb dX7_noteCall_46 rfl (lv_at hl 0 rfl) ?_
    refine va_get (D := (dC, dI)) (ci := 1) (v := .ref w_callArgumentsA) (C := RX7) (T := TX7) (N := 18) hx hb hts i_X7 hown hK hP 0 rfl rfl 16 (by decide) (hts _ qw24) (fun _ h9 => h9) rfl dX7_noteCall_47 ?_
    refine lv_aload_n hx hb dX7_noteCall_50 rfl (lv_at hl 0 rfl) ?_
    refine va_get (D := (dC, dI)) (ci := 1) (v := .int w_calls) (C := RX7) (T := TX7) (N := 18) hx hb hts i_X7 hown hK hP 0 rfl rfl 17 (by decide) (hts _ qw178) (fun _ h9 => h9) rfl dX7_noteCall_51 ?_
    refine lv_iload hx hb dX7_noteCall_54 (lv_at hl 3 rfl) ?_
    refine va_iast hx hb hK hP hD hS 5 3 rfl rfl (hq1 hc1) dX7_noteCall_56 (fun H locs hP hD hS => ?_)
    have hP : va_P (dC, dI) cls [(h0, .inr (1, [.int w_faultPlace, .ref w_tokensO, .ref w_programO, .int w_function, .int w_open, .int w_tallPlace, .int w_fault, .ref w_seenNameA, .ref w_seenVariableA, .int w_seen, .ref w_loopHeadA, .ref w_loopEndA, .int w_loops, .ref w_callNameA, .ref w_callOpA, .ref w_callPlaceA, .ref w_callArgumentsA, .int w_calls])), (w_programO, .inr (2, [.int w_program_functions, .ref w_program_nameA, .ref w_program_namePlaceA, .ref w_program_parametersA, .ref w_program_variablesA, .ref w_program_fromA, .ref w_program_toA, .int w_program_ops, .ref w_program_opA, .ref w_program_argumentA, .ref w_program_ticksA, .int w_program_labels, .ref w_program_labelAtA])), (w_callNameA, .inl (w_callNameC, 600, .inr (.inl (vp_updL w_callNameF (Int32.toNatClampNeg w_calls) p0)))), (w_callOpA, .inl (w_callOpC, 600, .inl (upd w_callOpF (Int32.toNatClampNeg w_calls) w_program_ops))), (w_callPlaceA, .inl (w_callPlaceC, 600, .inl (upd w_callPlaceF (Int32.toNatClampNeg w_calls) p1))), (w_callArgumentsA, .inl (w_callArgumentsC, 600, .inl (upd w_callArgumentsF (Int32.toNatClampNeg w_calls) p2)))] H := hP
    have hD : va_D A [(h0, .inr (1, [.int w_faultPlace, .ref w_tokensO, .ref w_programO, .int w_function, .int w_open, .int w_tallPlace, .int w_fault, .ref w_seenNameA, .ref w_seenVariableA, .int w_seen, .ref w_loopHeadA, .ref w_loopEndA, .int w_loops, .ref w_callNameA, .ref w_callOpA, .ref w_callPlaceA, .ref w_callArgumentsA, .int w_calls])), (w_programO, .inr (2, [.int w_program_functions, .ref w_program_nameA, .ref w_program_namePlaceA, .ref w_program_parametersA, .ref w_program_variablesA, .ref w_program_fromA, .ref w_program_toA, .int w_program_ops, .ref w_program_opA, .ref w_program_argumentA, .ref w_program_ticksA, .int w_program_labels, .ref w_program_labelAtA])), (w_callNameA, .inl (w_callNameC, 600, .inr (.inl (vp_updL w_callNameF (Int32.toNatClampNeg w_calls) p0)))), (w_callOpA, .inl (w_callOpC, 600, .inl (upd w_callOpF (Int32.toNatClampNeg w_calls) w_program_ops))), (w_callPlaceA, .inl (w_callPlaceC, 600, .inl (upd w_callPlaceF (Int32.toNatClampNeg w_calls) p1))), (w_callArgumentsA, .inl (w_callArgumentsC, 600, .inl (upd w_callArgumentsF (Int32.toNatClampNeg w_calls) p2)))] := hD
    refine lv_aload_n hx hb dX7_noteCall_57 rfl (lv_at hl 0 rfl) ?_
    refine lv_dup hx hb dX7_noteCall_58 rfl ?_
    refine va_get (D := (dC, dI)) (ci := 1) (v := .int w_calls) (C := RX7) (T := TX7) (N := 18) hx hb hts i_X7 hown hK hP 0 rfl rfl 17 (by decide) (hts _ qw178) (fun _ h9 => h9) rfl dX7_noteCall_59 ?_
    refine lv_iconst (v := 1) hx hb dX7_noteCall_62 (by decide) ?_
    refine lv_iadd hx hb dX7_noteCall_63 ?_
    refine va_put (D := (dC, dI)) (ci := 1) (v := .int (w_calls + 1)) (ty := .int) (C := RX7) (T := TX7) (N := 18) hx hb hts i_X7 tyX7 tyX7_ok nmX7 hown hK hP hD hS 0 rfl rfl 17 (by decide) (hts _ qw178) (fun _ h9 => h9) rfl (by decide +kernel) rfl rfl (Nat.le_of_ble_eq_true rfl) dX7_noteCall_64 (fun H locs hP hD hS => ?_)
    have hP : va_P (dC, dI) cls [(h0, .inr (1, [.int w_faultPlace, .ref w_tokensO, .ref w_programO, .int w_function, .int w_open, .int w_tallPlace, .int w_fault, .ref w_seenNameA, .ref w_seenVariableA, .int w_seen, .ref w_loopHeadA, .ref w_loopEndA, .int w_loops, .ref w_callNameA, .ref w_callOpA, .ref w_callPlaceA, .ref w_callArgumentsA, .int (w_calls + 1)])), (w_programO, .inr (2, [.int w_program_functions, .ref w_program_nameA, .ref w_program_namePlaceA, .ref w_program_parametersA, .ref w_program_variablesA, .ref w_program_fromA, .ref w_program_toA, .int w_program_ops, .ref w_program_opA, .ref w_program_argumentA, .ref w_program_ticksA, .int w_program_labels, .ref w_program_labelAtA])), (w_callNameA, .inl (w_callNameC, 600, .inr (.inl (vp_updL w_callNameF (Int32.toNatClampNeg w_calls) p0)))), (w_callOpA, .inl (w_callOpC, 600, .inl (upd w_callOpF (Int32.toNatClampNeg w_calls) w_program_ops))), (w_callPlaceA, .inl (w_callPlaceC, 600, .inl (upd w_callPlaceF (Int32.toNatClampNeg w_calls) p1))), (w_callArgumentsA, .inl (w_callArgumentsC, 600, .inl (upd w_callArgumentsF (Int32.toNatClampNeg w_calls) p2)))] H := hP
    have hD : va_D A [(h0, .inr (1, [.int w_faultPlace, .ref w_tokensO, .ref w_programO, .int w_function, .int w_open, .int w_tallPlace, .int w_fault, .ref w_seenNameA, .ref w_seenVariableA, .int w_seen, .ref w_loopHeadA, .ref w_loopEndA, .int w_loops, .ref w_callNameA, .ref w_callOpA, .ref w_callPlaceA, .ref w_callArgumentsA, .int (w_calls + 1)])), (w_programO, .inr (2, [.int w_program_functions, .ref w_program_nameA, .ref w_program_namePlaceA, .ref w_program_parametersA, .ref w_program_variablesA, .ref w_program_fromA, .ref w_program_toA, .int w_program_ops, .ref w_program_opA, .ref w_program_argumentA, .ref w_program_ticksA, .int w_program_labels, .ref w_program_labelAtA])), (w_callNameA, .inl (w_callNameC, 600, .inr (.inl (vp_updL w_callNameF (Int32.toNatClampNeg w_calls) p0)))), (w_callOpA, .inl (w_callOpC, 600, .inl (upd w_callOpF (Int32.toNatClampNeg w_calls) w_program_ops))), (w_callPlaceA, .inl (w_callPlaceC, 600, .inl (upd w_callPlaceF (Int32.toNatClampNeg w_calls) p1))), (w_callArgumentsA, .inl (w_callArgumentsC, 600, .inl (upd w_callArgumentsF (Int32.toNatClampNeg w_calls) p2)))] := hD
    have e_sX7_noteCall_0_17 : sX7_noteCall_0_17 w_calls = (w_calls + 1) := by unfold sX7_noteCall_0_17; rw [if_neg hc1]
    have e_sX7_noteCall_2 : sX7_noteCall_2 w_callNameF w_calls p0 = (vp_updL w_callNameF (Int32.toNatClampNeg w_calls) p0) := by unfold sX7_noteCall_2; rw [if_neg hc1]
    have e_sX7_noteCall_3 : sX7_noteCall_3 w_callOpF w_calls w_program_ops = (upd w_callOpF (Int32.toNatClampNeg w_calls) w_program_ops) := by unfold sX7_noteCall_3; rw [if_neg hc1]
    have e_sX7_noteCall_4 : sX7_noteCall_4 w_callPlaceF w_calls p1 = (upd w_callPlaceF (Int32.toNatClampNeg w_calls) p1) := by unfold sX7_noteCall_4; rw [if_neg hc1]
    have e_sX7_noteCall_5 : sX7_noteCall_5 w_callArgumentsF w_calls p2 = (upd w_callArgumentsF (Int32.toNatClampNeg w_calls) p2) := by unfold sX7_noteCall_5; rw [if_neg hc1]
    have hP9 : va_P (dC, dI) cls [(h0, .inr (1, [.int w_faultPlace, .ref w_tokensO, .ref w_programO, .int w_function, .int w_open, .int w_tallPlace, .int w_fault, .ref w_seenNameA, .ref w_seenVariableA, .int w_seen, .ref w_loopHeadA, .ref w_loopEndA, .int w_loops, .ref w_callNameA, .ref w_callOpA, .ref w_callPlaceA, .ref w_callArgumentsA, .int (sX7_noteCall_0_17 w_calls)])), (w_programO, .inr (2, [.int w_program_functions, .ref w_program_nameA, .ref w_program_namePlaceA, .ref w_program_parametersA, .ref w_program_variablesA, .ref w_program_fromA, .ref w_program_toA, .int w_program_ops, .ref w_program_opA, .ref w_program_argumentA, .ref w_program_ticksA, .int w_program_labels, .ref w_program_labelAtA])), (w_callNameA, .inl (w_callNameC, 600, .inr (.inl (sX7_noteCall_2 w_callNameF w_calls p0)))), (w_callOpA, .inl (w_callOpC, 600, .inl (sX7_noteCall_3 w_callOpF w_calls w_program_ops))), (w_callPlaceA, .inl (w_callPlaceC, 600, .inl (sX7_noteCall_4 w_callPlaceF w_calls p1))), (w_callArgumentsA, .inl (w_callArgumentsC, 600, .inl (sX7_noteCall_5 w_callArgumentsF w_calls p2)))] H := by rw [e_sX7_noteCall_0_17, e_sX7_noteCall_2, e_sX7_noteCall_3, e_sX7_noteCall_4, e_sX7_noteCall_5]; exact hP.sub [0, 1, 2, 3, 4, 5] rfl
    have hD9 : va_D A [(h0, .inr (1, [.int w_faultPlace, .ref w_tokensO, .ref w_programO, .int w_function, .int w_open, .int w_tallPlace, .int w_fault, .ref w_seenNameA, .ref w_seenVariableA, .int w_seen, .ref w_loopHeadA, .ref w_loopEndA, .int w_loops, .ref w_callNameA, .ref w_callOpA, .ref w_callPlaceA, .ref w_callArgumentsA, .int (sX7_noteCall_0_17 w_calls)])), (w_programO, .inr (2, [.int w_program_functions, .ref w_program_nameA, .ref w_program_namePlaceA, .ref w_program_parametersA, .ref w_program_variablesA, .ref w_program_fromA, .ref w_program_toA, .int w_program_ops, .ref w_program_opA, .ref w_program_argumentA, .ref w_program_ticksA, .int w_program_labels, .ref w_program_labelAtA])), (w_callNameA, .inl (w_callNameC, 600, .inr (.inl (sX7_noteCall_2 w_callNameF w_calls p0)))), (w_callOpA, .inl (w_callOpC, 600, .inl (sX7_noteCall_3 w_callOpF w_calls w_program_ops))), (w_callPlaceA, .inl (w_callPlaceC, 600, .inl (sX7_noteCall_4 w_callPlaceF w_calls p1))), (w_callArgumentsA, .inl (w_callArgumentsC, 600, .inl (sX7_noteCall_5 w_callArgumentsF w_calls p2)))] := by rw [e_sX7_noteCall_0_17, e_sX7_noteCall_2, e_sX7_noteCall_3, e_sX7_noteCall_4, e_sX7_noteCall_5]; exact hD.sub [0, 1, 2, 3, 4, 5] (by decide) rfl
    have hK9 : va_K (dC, dI) cls [(w_callNameC, .long), (w_callOpC, .int), (w_callPlaceC, .int), (w_callArgumentsC, .int)] s := hK.sub [0, 1, 2, 3] rfl
    refine W.widen (k := 0) (n := 0) (Nat.le_of_ble_eq_true rfl) (Nat.le_of_ble_eq_true rfl) ?_
    exact W.vret hx hb hr (fun t ht hW => ⟨⟨(), rfl, trivial, ⟨by rw [ht]; exact hP9, va_K.moved hW.alike hK9, hD9⟩⟩, hS.F ht⟩) hS.2.2 dX7_noteCall_67
def sX7_raise_0_5 (w_tallPlace : Int32) (p0 : Int32) (p1 : Int32) : Int32 := (if p0 < 10 then w_tallPlace else (if w_tallPlace < 0 then p1 else (if w_tallPlace ≤ p1 then w_tallPlace else p1)))
set_option maxHeartbeats 4000000 in
set_option maxRecDepth 100000 in
theorem kX7_raise {zs : Nat × Nat} (l : Launch) (dC : Nat → ClassId) (dI : Nat → Nat → Nat) (h0 : Nat) (w_faultPlace : Int32) (w_function : Int32) (w_open : Int32) (w_tallPlace : Int32) (w_fault : Int32) (w_seenNameA : Nat) (w_seenVariableA : Nat) (w_seen : Int32) (w_loopHeadA : Nat) (w_loopEndA : Nat) (w_loops : Int32) (w_callNameA : Nat) (w_callOpA : Nat) (w_callPlaceA : Nat) (w_callArgumentsA : Nat) (w_calls : Int32) (w_tokensO : Nat) (w_programO : Nat) (p0 : Int32) (p1 : Int32) (sz : Nat)  : Met l yX7_raise (wz yX7_raise cX7_raise 3 (Option.some Jvm.ClassFile.FieldType.int)) ({ frames := 0, cells := 0, slots := 0, locals := 0 }) (va_Pc [.ref h0, .int p0, .int p1] (PRE zs dC dI [(h0, .inr (1, [.int w_faultPlace, .ref w_tokensO, .ref w_programO, .int w_function, .int w_open, .int w_tallPlace, .int w_fault, .ref w_seenNameA, .ref w_seenVariableA, .int w_seen, .ref w_loopHeadA, .ref w_loopEndA, .int w_loops, .ref w_callNameA, .ref w_callOpA, .ref w_callPlaceA, .ref w_callArgumentsA, .int w_calls]))] [] sz)) (va_Qi (fun (r : Int32) (_ : Unit) => r = (p0 + 1)) (fun _ t => POST dC dI [(h0, .inr (1, [.int w_faultPlace, .ref w_tokensO, .ref w_programO, .int w_function, .int w_open, .int (sX7_raise_0_5 w_tallPlace p0 p1), .int w_fault, .ref w_seenNameA, .ref w_seenVariableA, .int w_seen, .ref w_loopHeadA, .ref w_loopEndA, .int w_loops, .ref w_callNameA, .ref w_callOpA, .ref w_callPlaceA, .ref w_callArgumentsA, .int w_calls]))] [] (va_A [(h0, .inr (1, [.int w_faultPlace, .ref w_tokensO, .ref w_programO, .int w_function, .int w_open, .int w_tallPlace, .int w_fault, .ref w_seenNameA, .ref w_seenVariableA, .int w_seen, .ref w_loopHeadA, .ref w_loopEndA, .int w_loops, .ref w_callNameA, .ref w_callOpA, .ref w_callPlaceA, .ref w_callArgumentsA, .int w_calls]))] sz) t) (va_A [(h0, .inr (1, [.int w_faultPlace, .ref w_tokensO, .ref w_programO, .int w_function, .int w_open, .int w_tallPlace, .int w_fault, .ref w_seenNameA, .ref w_seenVariableA, .int w_seen, .ref w_loopHeadA, .ref w_loopEndA, .int w_loops, .ref w_callNameA, .ref w_callOpA, .ref w_callPlaceA, .ref w_callArgumentsA, .int w_calls]))] sz)) 0 0 (va_A [(h0, .inr (1, [.int w_faultPlace, .ref w_tokensO, .ref w_programO, .int w_function, .int w_open, .int w_tallPlace, .int w_fault, .ref w_seenNameA, .ref w_seenVariableA, .int w_seen, .ref w_loopHeadA, .ref w_loopEndA, .int w_loops, .ref w_callNameA, .ref w_callOpA, .ref w_callPlaceA, .ref w_callArgumentsA, .int w_calls]))] sz) := by
  refine Met.ofW (cc := cX7_raise) (maxL := 3) (ret := (Option.some Jvm.ClassFile.FieldType.int)) (by decide) rfl ?_
  intro p e s m args below meth c s₁ B hml hv
  obtain ⟨rfl, hsz, hP, hK, hD0, hE⟩ := hv
  have hx := B.exec
  have hb := B.bytes
  have hr := B.returns
  have hts0 := atoms_spec (ws := wz yX7_raise cX7_raise 3 (Option.some Jvm.ClassFile.FieldType.int)) B.pre
  have hts : ∀ w ∈ gw, w.before _ s = true := fun w h => hts0 w (List.mem_cons_of_mem _ h)
  have hown : s.vm.findClass RX7 = some m.cls := findClass_of_methodNamed B.named
  have hlocks := B.notSynchronized
  subst hsz
  have hD := hD0.self (sz := s.heap.size)
  generalize hAe : va_A [(h0, .inr (1, [.int w_faultPlace, .ref w_tokensO, .ref w_programO, .int w_function, .int w_open, .int w_tallPlace, .int w_fault, .ref w_seenNameA, .ref w_seenVariableA, .int w_seen, .ref w_loopHeadA, .ref w_loopEndA, .int w_loops, .ref w_callNameA, .ref w_callOpA, .ref w_callPlaceA, .ref w_callArgumentsA, .int w_calls]))] s.heap.size = A at hD hE ⊢
  have hA : ∀ q : Nat, s.heap.size ≤ q → A q := fun q h => by rw [← hAe]; exact Or.inr h
  have hS : va_S A s.heap s.heap [] := va_S.rf
  have hP : va_P (dC, dI) cls [(h0, .inr (1, [.int w_faultPlace, .ref w_tokensO, .ref w_programO, .int w_function, .int w_open, .int w_tallPlace, .int w_fault, .ref w_seenNameA, .ref w_seenVariableA, .int w_seen, .ref w_loopHeadA, .ref w_loopEndA, .int w_loops, .ref w_callNameA, .ref w_callOpA, .ref w_callPlaceA, .ref w_callArgumentsA, .int w_calls]))] s.heap := hP
  have hl := lv_entry ([.ref h0, .int p0, .int p1]) (n := 3) (Nat.le_of_ble_eq_true rfl)
  rw [lg_entry_eq]
  generalize (lg_sl ([.ref h0, .int p0, .int p1]) ++ List.replicate (3 - (lg_sl ([.ref h0, .int p0, .int p1])).length) Slot.unset).toArray = ls at hl ⊢
  have hl : lv_has ls 3 [(0, .ref h0), (1, .int p0), (2, .int p1)] := hl
  refine lv_iload_n hx hb dX7_raise_0 rfl (lv_at hl 1 rfl) ?_
  refine lv_bipush (v := 10) hx hb dX7_raise_1 (by decide) ?_
  by_cases hc1 : p0 < 10
  · refine lv_icmp_lt (tgt := 26) hx hb dX7_raise_3 (by decide) (fun _ => ?_) (fun c => absurd hc1 c)
    refine lv_iload_n hx hb dX7_raise_26 rfl (lv_at hl 1 rfl) ?_
    refine lv_iconst (v := 1) hx hb dX7_raise_27 (by decide) ?_
    refine lv_iadd hx hb dX7_raise_28 ?_
    have e_sX7_raise_0_5 : sX7_raise_0_5 w_tallPlace p0 p1 = w_tallPlace := by unfold sX7_raise_0_5; rw [if_pos hc1]
    have hP9 : va_P (dC, dI) cls [(h0, .inr (1, [.int w_faultPlace, .ref w_tokensO, .ref w_programO, .int w_function, .int w_open, .int (sX7_raise_0_5 w_tallPlace p0 p1), .int w_fault, .ref w_seenNameA, .ref w_seenVariableA, .int w_seen, .ref w_loopHeadA, .ref w_loopEndA, .int w_loops, .ref w_callNameA, .ref w_callOpA, .ref w_callPlaceA, .ref w_callArgumentsA, .int w_calls]))] s.heap := by rw [e_sX7_raise_0_5]; exact hP.sub [0] rfl
    have hD9 : va_D A [(h0, .inr (1, [.int w_faultPlace, .ref w_tokensO, .ref w_programO, .int w_function, .int w_open, .int (sX7_raise_0_5 w_tallPlace p0 p1), .int w_fault, .ref w_seenNameA, .ref w_seenVariableA, .int w_seen, .ref w_loopHeadA, .ref w_loopEndA, .int w_loops, .ref w_callNameA, .ref w_callOpA, .ref w_callPlaceA, .ref w_callArgumentsA, .int w_calls]))] := by rw [e_sX7_raise_0_5]; exact hD.sub [0] (by decide) rfl
    have hK9 : va_K (dC, dI) cls [] s := hK.sub [] rfl
    refine W.widen (k := 0) (n := 0) (Nat.le_of_ble_eq_true rfl) (Nat.le_of_ble_eq_true rfl) ?_
    exact W.iret (v := (p0 + 1)) hx hb hr (fun t ht hW => ⟨⟨(p0 + 1), (), rfl, rfl, ⟨by rw [ht]; exact hP9, va_K.moved hW.alike hK9, hD9⟩⟩, hS.F ht⟩) hS.2.2 dX7_raise_29
  · refine lv_icmp_lt (tgt := 26) hx hb dX7_raise_3 (by decide) (fun c => absurd c hc1) (fun _ => ?_)
    refine lv_aload_n hx hb dX7_raise_6 rfl (lv_at hl 0 rfl) ?_
    refine va_get (D := (dC, dI)) (ci := 1) (v := .int w_tallPlace) (C := RX7) (T := TX7) (N := 18) hx hb hts i_X7 hown hK hP 0 rfl rfl 5 (by decide) (hts _ qw175) (fun _ h9 => h9) rfl dX7_raise_7 ?_
    by_cases hc2 : w_tallPlace < 0
    · refine lv_if_lt (tgt := 21) hx hb dX7_raise_10 (by decide) (fun _ => ?_) (fun c => absurd hc2 c)
      refine lv_aload_n hx hb dX7_raise_21 rfl (lv_at hl 0 rfl) ?_
      refine lv_iload_n hx hb dX7_raise_22 rfl (lv_at hl 2 rfl) ?_
      refine va_put (D := (dC, dI)) (ci := 1) (v := .int p1) (ty := .int) (C := RX7) (T := TX7) (N := 18) hx hb hts i_X7 tyX7 tyX7_ok nmX7 hown hK hP hD hS 0 rfl rfl 5 (by decide) (hts _ qw175) (fun _ h9 => h9) rfl (by decide +kernel) rfl rfl (Nat.le_of_ble_eq_true rfl) dX7_raise_23 (fun H locs hP hD hS => ?_)
      have hP : va_P (dC, dI) cls [(h0, .inr (1, [.int w_faultPlace, .ref w_tokensO, .ref w_programO, .int w_function, .int w_open, .int p1, .int w_fault, .ref w_seenNameA, .ref w_seenVariableA, .int w_seen, .ref w_loopHeadA, .ref w_loopEndA, .int w_loops, .ref w_callNameA, .ref w_callOpA, .ref w_callPlaceA, .ref w_callArgumentsA, .int w_calls]))] H := hP
      have hD : va_D A [(h0, .inr (1, [.int w_faultPlace, .ref w_tokensO, .ref w_programO, .int w_function, .int w_open, .int p1, .int w_fault, .ref w_seenNameA, .ref w_seenVariableA, .int w_seen, .ref w_loopHeadA, .ref w_loopEndA, .int w_loops, .ref w_callNameA, .ref w_callOpA, .ref w_callPlaceA, .ref w_callArgumentsA, .int w_calls]))] := hD
      refine lv_iload_n hx hb dX7_raise_26 rfl (lv_at hl 1 rfl) ?_
      refine lv_iconst (v := 1) hx hb dX7_raise_27 (by decide) ?_
      refine lv_iadd hx hb dX7_raise_28 ?_
      have e_sX7_raise_0_5 : sX7_raise_0_5 w_tallPlace p0 p1 = p1 := by unfold sX7_raise_0_5; rw [if_neg hc1, if_pos hc2]
      have hP9 : va_P (dC, dI) cls [(h0, .inr (1, [.int w_faultPlace, .ref w_tokensO, .ref w_programO, .int w_function, .int w_open, .int (sX7_raise_0_5 w_tallPlace p0 p1), .int w_fault, .ref w_seenNameA, .ref w_seenVariableA, .int w_seen, .ref w_loopHeadA, .ref w_loopEndA, .int w_loops, .ref w_callNameA, .ref w_callOpA, .ref w_callPlaceA, .ref w_callArgumentsA, .int w_calls]))] H := by rw [e_sX7_raise_0_5]; exact hP.sub [0] rfl
      have hD9 : va_D A [(h0, .inr (1, [.int w_faultPlace, .ref w_tokensO, .ref w_programO, .int w_function, .int w_open, .int (sX7_raise_0_5 w_tallPlace p0 p1), .int w_fault, .ref w_seenNameA, .ref w_seenVariableA, .int w_seen, .ref w_loopHeadA, .ref w_loopEndA, .int w_loops, .ref w_callNameA, .ref w_callOpA, .ref w_callPlaceA, .ref w_callArgumentsA, .int w_calls]))] := by rw [e_sX7_raise_0_5]; exact hD.sub [0] (by decide) rfl
      have hK9 : va_K (dC, dI) cls [] s := hK.sub [] rfl
      refine W.widen (k := 0) (n := 0) (Nat.le_of_ble_eq_true rfl) (Nat.le_of_ble_eq_true rfl) ?_
      exact W.iret (v := (p0 + 1)) hx hb hr (fun t ht hW => ⟨⟨(p0 + 1), (), rfl, rfl, ⟨by rw [ht]; exact hP9, va_K.moved hW.alike hK9, hD9⟩⟩, hS.F ht⟩) hS.2.2 dX7_raise_29
    · refine lv_if_lt (tgt := 21) hx hb dX7_raise_10 (by decide) (fun c => absurd c hc2) (fun _ => ?_)
      refine lv_iload_n hx hb dX7_raise_13 rfl (lv_at hl 2 rfl) ?_
      refine lv_aload_n hx hb dX7_raise_14 rfl (lv_at hl 0 rfl) ?_
      refine va_get (D := (dC, dI)) (ci := 1) (v := .int w_tallPlace) (C := RX7) (T := TX7) (N := 18) hx hb hts i_X7 hown hK hP 0 rfl rfl 5 (by decide) (hts _ qw175) (fun _ h9 => h9) rfl dX7_raise_15 ?_
      by_cases hc3 : w_tallPlace ≤ p1
      · refine lv_icmp_ge (tgt := 26) hx hb dX7_raise_18 (by decide) (fun _ => ?_) (fun c => absurd hc3 c)
        refine lv_iload_n hx hb dX7_raise_26 rfl (lv_at hl 1 rfl) ?_
        refine lv_iconst (v := 1) hx hb dX7_raise_27 (by decide) ?_
        refine lv_iadd hx hb dX7_raise_28 ?_
        have e_sX7_raise_0_5 : sX7_raise_0_5 w_tallPlace p0 p1 = w_tallPlace := by unfold sX7_raise_0_5; rw [if_neg hc1, if_neg hc2, if_pos hc3]
        have hP9 : va_P (dC, dI) cls [(h0, .inr (1, [.int w_faultPlace, .ref w_tokensO, .ref w_programO, .int w_function, .int w_open, .int (sX7_raise_0_5 w_tallPlace p0 p1), .int w_fault, .ref w_seenNameA, .ref w_seenVariableA, .int w_seen, .ref w_loopHeadA, .ref w_loopEndA, .int w_loops, .ref w_callNameA, .ref w_callOpA, .ref w_callPlaceA, .ref w_callArgumentsA, .int w_calls]))] s.heap := by rw [e_sX7_raise_0_5]; exact hP.sub [0] rfl
        have hD9 : va_D A [(h0, .inr (1, [.int w_faultPlace, .ref w_tokensO, .ref w_programO, .int w_function, .int w_open, .int (sX7_raise_0_5 w_tallPlace p0 p1), .int w_fault, .ref w_seenNameA, .ref w_seenVariableA, .int w_seen, .ref w_loopHeadA, .ref w_loopEndA, .int w_loops, .ref w_callNameA, .ref w_callOpA, .ref w_callPlaceA, .ref w_callArgumentsA, .int w_calls]))] := by rw [e_sX7_raise_0_5]; exact hD.sub [0] (by decide) rfl
        have hK9 : va_K (dC, dI) cls [] s := hK.sub [] rfl
        refine W.widen (k := 0) (n := 0) (Nat.le_of_ble_eq_true rfl) (Nat.le_of_ble_eq_true rfl) ?_
        exact W.iret (v := (p0 + 1)) hx hb hr (fun t ht hW => ⟨⟨(p0 + 1), (), rfl, rfl, ⟨by rw [ht]; exact hP9, va_K.moved hW.alike hK9, hD9⟩⟩, hS.F ht⟩) hS.2.2 dX7_raise_29
      · refine lv_icmp_ge (tgt := 26) hx hb dX7_raise_18 (by decide) (fun c => absurd c hc3) (fun _ => ?_)
        refine lv_aload_n hx hb dX7_raise_21 rfl (lv_at hl 0 rfl) ?_
        refine lv_iload_n hx hb dX7_raise_22 rfl (lv_at hl 2 rfl) ?_
        refine va_put (D := (dC, dI)) (ci := 1) (v := .int p1) (ty := .int) (C := RX7) (T := TX7) (N := 18) hx hb hts i_X7 tyX7 tyX7_ok nmX7 hown hK hP hD hS 0 rfl rfl 5 (by decide) (hts _ qw175) (fun _ h9 => h9) rfl (by decide +kernel) rfl rfl (Nat.le_of_ble_eq_true rfl) dX7_raise_23 (fun H locs hP hD hS => ?_)
        have hP : va_P (dC, dI) cls [(h0, .inr (1, [.int w_faultPlace, .ref w_tokensO, .ref w_programO, .int w_function, .int w_open, .int p1, .int w_fault, .ref w_seenNameA, .ref w_seenVariableA, .int w_seen, .ref w_loopHeadA, .ref w_loopEndA, .int w_loops, .ref w_callNameA, .ref w_callOpA, .ref w_callPlaceA, .ref w_callArgumentsA, .int w_calls]))] H := hP
        have hD : va_D A [(h0, .inr (1, [.int w_faultPlace, .ref w_tokensO, .ref w_programO, .int w_function, .int w_open, .int p1, .int w_fault, .ref w_seenNameA, .ref w_seenVariableA, .int w_seen, .ref w_loopHeadA, .ref w_loopEndA, .int w_loops, .ref w_callNameA, .ref w_callOpA, .ref w_callPlaceA, .ref w_callArgumentsA, .int w_calls]))] := hD
        refine lv_iload_n hx hb dX7_raise_26 rfl (lv_at hl 1 rfl) ?_
        refine lv_iconst (v := 1) hx hb dX7_raise_27 (by decide) ?_
        refine lv_iadd hx hb dX7_raise_28 ?_
        have e_sX7_raise_0_5 : sX7_raise_0_5 w_tallPlace p0 p1 = p1 := by unfold sX7_raise_0_5; rw [if_neg hc1, if_neg hc2, if_neg hc3]
        have hP9 : va_P (dC, dI) cls [(h0, .inr (1, [.int w_faultPlace, .ref w_tokensO, .ref w_programO, .int w_function, .int w_open, .int (sX7_raise_0_5 w_tallPlace p0 p1), .int w_fault, .ref w_seenNameA, .ref w_seenVariableA, .int w_seen, .ref w_loopHeadA, .ref w_loopEndA, .int w_loops, .ref w_callNameA, .ref w_callOpA, .ref w_callPlaceA, .ref w_callArgumentsA, .int w_calls]))] H := by rw [e_sX7_raise_0_5]; exact hP.sub [0] rfl
        have hD9 : va_D A [(h0, .inr (1, [.int w_faultPlace, .ref w_tokensO, .ref w_programO, .int w_function, .int w_open, .int (sX7_raise_0_5 w_tallPlace p0 p1), .int w_fault, .ref w_seenNameA, .ref w_seenVariableA, .int w_seen, .ref w_loopHeadA, .ref w_loopEndA, .int w_loops, .ref w_callNameA, .ref w_callOpA, .ref w_callPlaceA, .ref w_callArgumentsA, .int w_calls]))] := by rw [e_sX7_raise_0_5]; exact hD.sub [0] (by decide) rfl
        have hK9 : va_K (dC, dI) cls [] s := hK.sub [] rfl
        refine W.widen (k := 0) (n := 0) (Nat.le_of_ble_eq_true rfl) (Nat.le_of_ble_eq_true rfl) ?_
        exact W.iret (v := (p0 + 1)) hx hb hr (fun t ht hW => ⟨⟨(p0 + 1), (), rfl, rfl, ⟨by rw [ht]; exact hP9, va_K.moved hW.alike hK9, hD9⟩⟩, hS.F ht⟩) hS.2.2 dX7_raise_29
def sX7_rowOf_r (p0 : Int32) : Int32 := (if p0 = 380 then 0 else (if p0 = 294 then 1 else (if 0 ≤ (sX7_kindOfSign_r p0) then (if (sX7_kindOfSign_r p0) < 11 then (if (sX7_kindOfSign_r p0) = 1 then 3 else (if (sX7_kindOfSign_r p0) = 2 then 3 else (if (sX7_kindOfSign_r p0) = 7 then 3 else (if (sX7_kindOfSign_r p0) = 8 then 3 else 4)))) else 2) else (-1))))
set_option maxHeartbeats 4000000 in
set_option maxRecDepth 100000 in
theorem kX7_rowOf {zs : Nat × Nat} (l : Launch) (dC : Nat → ClassId) (dI : Nat → Nat → Nat) (p0 : Int32) (sz : Nat)  : Met l yX7_rowOf (wz yX7_rowOf cX7_rowOf 2 (Option.some Jvm.ClassFile.FieldType.int)) ({ frames := 1, cells := 0, slots := 0, locals := 20 }) (va_Pc [.int p0] (PRE zs dC dI [] [] sz)) (va_Qi (fun (r : Int32) (_ : Unit) => r = (sX7_rowOf_r p0)) (fun _ t => POST dC dI [] [] (va_A [] sz) t) (va_A [] sz)) 0 0 (va_A [] sz) := by
  refine Met.ofW (cc := cX7_rowOf) (maxL := 2) (ret := (Option.some Jvm.ClassFile.FieldType.int)) (by decide) rfl ?_
  intro p e s m args below meth c s₁ B hml hv
  obtain ⟨rfl, hsz, hP, hK, hD0, hE⟩ := hv
  have hx := B.exec
  have hb := B.bytes
  have hr := B.returns
  have hts0 := atoms_spec (ws := wz yX7_rowOf cX7_rowOf 2 (Option.some Jvm.ClassFile.FieldType.int)) B.pre
  have hts : ∀ w ∈ gw, w.before _ s = true := fun w h => hts0 w (List.mem_cons_of_mem _ h)
  have hown : s.vm.findClass RX7 = some m.cls := findClass_of_methodNamed B.named
  have hlocks := B.notSynchronized
  subst hsz
  have hD := hD0.self (sz := s.heap.size)
  generalize hAe : va_A [] s.heap.size = A at hD hE ⊢
  have hA : ∀ q : Nat, s.heap.size ≤ q → A q := fun q h => by rw [← hAe]; exact Or.inr h
  have hS : va_S A s.heap s.heap [] := va_S.rf
  have hP : va_P (dC, dI) cls [] s.heap := hP
  have hl := lv_entry ([.int p0]) (n := 2) (Nat.le_of_ble_eq_true rfl)
  rw [lg_entry_eq]
  generalize (lg_sl ([.int p0]) ++ List.replicate (2 - (lg_sl ([.int p0])).length) Slot.unset).toArray = ls at hl ⊢
  have hl : lv_has ls 2 [(0, .int p0)] := hl
  refine lv_iload_n hx hb dX7_rowOf_0 rfl (lv_at hl 0 rfl) ?_
  refine lv_sipush (v := 380) hx hb dX7_rowOf_1 (by decide) ?_
  by_cases hc1 : p0 = 380
  · refine lv_icmp_ne (tgt := 9) hx hb dX7_rowOf_4 (by decide) (fun c => absurd hc1 c) (fun _ => ?_)
    refine lv_iconst (v := 0) hx hb dX7_rowOf_7 (by decide) ?_
    have e_sX7_rowOf_r : sX7_rowOf_r p0 = 0 := by unfold sX7_rowOf_r; rw [if_pos hc1]
    have hP9 : va_P (dC, dI) cls [] s.heap := by exact hP.sub [] rfl
    have hD9 : va_D A [] := by exact hD.sub [] (by decide) rfl
    have hK9 : va_K (dC, dI) cls [] s := hK.sub [] rfl
    refine W.widen (k := 0) (n := 0) (Nat.le_of_ble_eq_true rfl) (Nat.le_of_ble_eq_true rfl) ?_
    exact W.iret (v := 0) hx hb hr (fun t ht hW => ⟨⟨0, (), rfl, e_sX7_rowOf_r.symm, ⟨by rw [ht]; exact hP9, va_K.moved hW.alike hK9, hD9⟩⟩, hS.F ht⟩) hS.2.2 dX7_rowOf_8
  · refine lv_icmp_ne (tgt := 9) hx hb dX7_rowOf_4 (by decide) (fun _ => ?_) (fun c => absurd c hc1)
    refine lv_iload_n hx hb dX7_rowOf_9 rfl (lv_at hl 0 rfl) ?_
    refine lv_sipush (v := 294) hx hb dX7_rowOf_10 (by decide) ?_
    by_cases hc2 : p0 = 294
    · refine lv_icmp_ne (tgt := 18) hx hb dX7_rowOf_13 (by decide) (fun c => absurd hc2 c) (fun _ => ?_)
      refine lv_iconst (v := 1) hx hb dX7_rowOf_16 (by decide) ?_
      have e_sX7_rowOf_r : sX7_rowOf_r p0 = 1 := by unfold sX7_rowOf_r; rw [if_neg hc1, if_pos hc2]
      have hP9 : va_P (dC, dI) cls [] s.heap := by exact hP.sub [] rfl
      have hD9 : va_D A [] := by exact hD.sub [] (by decide) rfl
      have hK9 : va_K (dC, dI) cls [] s := hK.sub [] rfl
      refine W.widen (k := 0) (n := 0) (Nat.le_of_ble_eq_true rfl) (Nat.le_of_ble_eq_true rfl) ?_
      exact W.iret (v := 1) hx hb hr (fun t ht hW => ⟨⟨1, (), rfl, e_sX7_rowOf_r.symm, ⟨by rw [ht]; exact hP9, va_K.moved hW.alike hK9, hD9⟩⟩, hS.F ht⟩) hS.2.2 dX7_rowOf_17
    · refine lv_icmp_ne (tgt := 18) hx hb dX7_rowOf_13 (by decide) (fun _ => ?_) (fun c => absurd c hc2)
      refine lv_iload_n hx hb dX7_rowOf_18 rfl (lv_at hl 0 rfl) ?_
      have hPc := hP.sub (ws' := []) [] rfl
      have hDc := hD.sub (ws' := []) [] (by decide) rfl
      have hKc := hK.sub (tys' := []) [] rfl
      have hFc := va_free (wc := []) hD hS hA [] rfl
      refine va_calli (va_runS (As := [.int p0]) (rest := []) ⟨hx, hb, hml, hown, hts⟩ (kX7_kindOfSign l dC dI (p0 := p0) (sz := _)) (va_cwS 1 hts (gi_S qw537 qw538 qw525 (gi_z qw536)) rfl rfl rfl (by decide +kernel) ⟨Nat.le_of_ble_eq_true rfl, Nat.le_of_ble_eq_true rfl⟩) ⟨PRE.blind, PRE.of hE hS hFc hPc hKc hDc⟩ rfl rfl hl.1 rfl (lv_room (Nat.le_of_ble_eq_true rfl)) dX7_rowOf_19 ⟨Nat.le_of_ble_eq_true rfl, Nat.le_of_ble_eq_true rfl⟩) hS (fun q _ h => hFc q h) hFc (fun r1 u t H locs ht hvm hw hB hz1 hk1 hS => ?_)
      obtain ⟨hP, hD, hK⟩ := JOIN (wr := []) hP hD hK [] [] [] rfl rfl (by decide) (by decide) rfl hk1 hFc ht hvm hB
      have hP : va_P (dC, dI) cls [] H := hP
      have hD : va_D A [] := hD
      have hK : va_K (dC, dI) cls [] s := hK
      refine W.widen (k := 0) (n := 0) (Nat.le_of_ble_eq_true rfl) (Nat.le_of_ble_eq_true rfl) ?_
      obtain rfl : r1 = (sX7_kindOfSign_r p0) := hw
      refine lv_istore_n (lv' := [(1, .int (sX7_kindOfSign_r p0)), (0, .int p0)]) hx hb dX7_rowOf_22 rfl hl (by decide) rfl (fun ls hl => ?_)
      refine lv_iload_n hx hb dX7_rowOf_23 rfl (lv_at hl 0 rfl) ?_
      by_cases hc3 : 0 ≤ (sX7_kindOfSign_r p0)
      · refine lv_if_ge (tgt := 29) hx hb dX7_rowOf_24 (by decide) (fun _ => ?_) (fun c => absurd hc3 c)
        refine lv_iload_n hx hb dX7_rowOf_29 rfl (lv_at hl 0 rfl) ?_
        refine lv_bipush (v := 11) hx hb dX7_rowOf_30 (by decide) ?_
        by_cases hc4 : (sX7_kindOfSign_r p0) < 11
        · refine lv_icmp_lt (tgt := 37) hx hb dX7_rowOf_32 (by decide) (fun _ => ?_) (fun c => absurd hc4 c)
          refine lv_iload_n hx hb dX7_rowOf_37 rfl (lv_at hl 0 rfl) ?_
          refine lv_iconst (v := 1) hx hb dX7_rowOf_38 (by decide) ?_
          by_cases hc5 : (sX7_kindOfSign_r p0) = 1
          · refine lv_icmp_eq (tgt := 59) hx hb dX7_rowOf_39 (by decide) (fun _ => ?_) (fun c => absurd hc5 c)
            refine lv_iconst (v := 3) hx hb dX7_rowOf_59 (by decide) ?_
            refine lv_goto (tgt := 64) hx hb dX7_rowOf_60 (by decide) ?_
            have e_sX7_rowOf_r : sX7_rowOf_r p0 = 3 := by unfold sX7_rowOf_r; rw [if_neg hc1, if_neg hc2, if_pos hc3, if_pos hc4, if_pos hc5]
            have hP9 : va_P (dC, dI) cls [] H := by exact hP.sub [] rfl
            have hD9 : va_D A [] := by exact hD.sub [] (by decide) rfl
            have hK9 : va_K (dC, dI) cls [] s := hK.sub [] rfl
            refine W.widen (k := 0) (n := 0) (Nat.le_of_ble_eq_true rfl) (Nat.le_of_ble_eq_true rfl) ?_
            exact W.iret (v := 3) hx hb hr (fun t ht hW => ⟨⟨3, (), rfl, e_sX7_rowOf_r.symm, ⟨by rw [ht]; exact hP9, va_K.moved hW.alike hK9, hD9⟩⟩, hS.F ht⟩) hS.2.2 dX7_rowOf_64
          · refine lv_icmp_eq (tgt := 59) hx hb dX7_rowOf_39 (by decide) (fun c => absurd c hc5) (fun _ => ?_)
            refine lv_iload_n hx hb dX7_rowOf_42 rfl (lv_at hl 0 rfl) ?_
            refine lv_iconst (v := 2) hx hb dX7_rowOf_43 (by decide) ?_
            by_cases hc6 : (sX7_kindOfSign_r p0) = 2
            · refine lv_icmp_eq (tgt := 59) hx hb dX7_rowOf_44 (by decide) (fun _ => ?_) (fun c => absurd hc6 c)
              refine lv_iconst (v := 3) hx hb dX7_rowOf_59 (by decide) ?_
              refine lv_goto (tgt := 64) hx hb dX7_rowOf_60 (by decide) ?_
              have e_sX7_rowOf_r : sX7_rowOf_r p0 = 3 := by unfold sX7_rowOf_r; rw [if_neg hc1, if_neg hc2, if_pos hc3, if_pos hc4, if_neg hc5, if_pos hc6]
              have hP9 : va_P (dC, dI) cls [] H := by exact hP.sub [] rfl
              have hD9 : va_D A [] := by exact hD.sub [] (by decide) rfl
              have hK9 : va_K (dC, dI) cls [] s := hK.sub [] rfl
              refine W.widen (k := 0) (n := 0) (Nat.le_of_ble_eq_true rfl) (Nat.le_of_ble_eq_true rfl) ?_
              exact W.iret (v := 3) hx hb hr (fun t ht hW => ⟨⟨3, (), rfl, e_sX7_rowOf_r.symm, ⟨by rw [ht]; exact hP9, va_K.moved hW.alike hK9, hD9⟩⟩, hS.F ht⟩) hS.2.2 dX7_rowOf_64
            · refine lv_icmp_eq (tgt := 59) hx hb dX7_rowOf_44 (by decide) (fun c => absurd c hc6) (fun _ => ?_)
              refine lv_iload_n hx hb dX7_rowOf_47 rfl (lv_at hl 0 rfl) ?_
              refine lv_bipush (v := 7) hx hb dX7_rowOf_48 (by decide) ?_
              by_cases hc7 : (sX7_kindOfSign_r p0) = 7
              · refine lv_icmp_eq (tgt := 59) hx hb dX7_rowOf_50 (by decide) (fun _ => ?_) (fun c => absurd hc7 c)
                refine lv_iconst (v := 3) hx hb dX7_rowOf_59 (by decide) ?_
                refine lv_goto (tgt := 64) hx hb dX7_rowOf_60 (by decide) ?_
                have e_sX7_rowOf_r : sX7_rowOf_r p0 = 3 := by unfold sX7_rowOf_r; rw [if_neg hc1, if_neg hc2, if_pos hc3, if_pos hc4, if_neg hc5, if_neg hc6, if_pos hc7]
                have hP9 : va_P (dC, dI) cls [] H := by exact hP.sub [] rfl
                have hD9 : va_D A [] := by exact hD.sub [] (by decide) rfl
                have hK9 : va_K (dC, dI) cls [] s := hK.sub [] rfl
                refine W.widen (k := 0) (n := 0) (Nat.le_of_ble_eq_true rfl) (Nat.le_of_ble_eq_true rfl) ?_
                exact W.iret (v := 3) hx hb hr (fun t ht hW => ⟨⟨3, (), rfl, e_sX7_rowOf_r.symm, ⟨by rw [ht]; exact hP9, va_K.moved hW.alike hK9, hD9⟩⟩, hS.F ht⟩) hS.2.2 dX7_rowOf_64
              · refine lv_icmp_eq (tgt := 59) hx hb dX7_rowOf_50 (by decide) (fun c => absurd c hc7) (fun _ => ?_)
                refine lv_iload_n hx hb dX7_rowOf_53 rfl (lv_at hl 0 rfl) ?_
                refine lv_bipush (v := 8) hx hb dX7_rowOf_54 (by decide) ?_
                by_cases hc8 : (sX7_kindOfSign_r p0) = 8
                · refine lv_icmp_ne (tgt := 63) hx hb dX7_rowOf_56 (by decide) (fun c => absurd hc8 c) (fun _ => ?_)
                  refine lv_iconst (v := 3) hx hb dX7_rowOf_59 (by decide) ?_
                  refine lv_goto (tgt := 64) hx hb dX7_rowOf_60 (by decide) ?_
                  have e_sX7_rowOf_r : sX7_rowOf_r p0 = 3 := by unfold sX7_rowOf_r; rw [if_neg hc1, if_neg hc2, if_pos hc3, if_pos hc4, if_neg hc5, if_neg hc6, if_neg hc7, if_pos hc8]
                  have hP9 : va_P (dC, dI) cls [] H := by exact hP.sub [] rfl
                  have hD9 : va_D A [] := by exact hD.sub [] (by decide) rfl
                  have hK9 : va_K (dC, dI) cls [] s := hK.sub [] rfl
                  refine W.widen (k := 0) (n := 0) (Nat.le_of_ble_eq_true rfl) (Nat.le_of_ble_eq_true rfl) ?_
                  exact W.iret (v := 3) hx hb hr (fun t ht hW => ⟨⟨3, (), rfl, e_sX7_rowOf_r.symm, ⟨by rw [ht]; exact hP9, va_K.moved hW.alike hK9, hD9⟩⟩, hS.F ht⟩) hS.2.2 dX7_rowOf_64
                · refine lv_icmp_ne (tgt := 63) hx hb dX7_rowOf_56 (by decide) (fun _ => ?_) (fun c => absurd c hc8)
                  refine lv_iconst (v := 4) hx hb dX7_rowOf_63 (by decide) ?_
                  have e_sX7_rowOf_r : sX7_rowOf_r p0 = 4 := by unfold sX7_rowOf_r; rw [if_neg hc1, if_neg hc2, if_pos hc3, if_pos hc4, if_neg hc5, if_neg hc6, if_neg hc7, if_neg hc8]
                  have hP9 : va_P (dC, dI) cls [] H := by exact hP.sub [] rfl
                  have hD9 : va_D A [] := by exact hD.sub [] (by decide) rfl
                  have hK9 : va_K (dC, dI) cls [] s := hK.sub [] rfl
                  refine W.widen (k := 0) (n := 0) (Nat.le_of_ble_eq_true rfl) (Nat.le_of_ble_eq_true rfl) ?_
                  exact W.iret (v := 4) hx hb hr (fun t ht hW => ⟨⟨4, (), rfl, e_sX7_rowOf_r.symm, ⟨by rw [ht]; exact hP9, va_K.moved hW.alike hK9, hD9⟩⟩, hS.F ht⟩) hS.2.2 dX7_rowOf_64
        · refine lv_icmp_lt (tgt := 37) hx hb dX7_rowOf_32 (by decide) (fun c => absurd c hc4) (fun _ => ?_)
          refine lv_iconst (v := 2) hx hb dX7_rowOf_35 (by decide) ?_
          have e_sX7_rowOf_r : sX7_rowOf_r p0 = 2 := by unfold sX7_rowOf_r; rw [if_neg hc1, if_neg hc2, if_pos hc3, if_neg hc4]
          have hP9 : va_P (dC, dI) cls [] H := by exact hP.sub [] rfl
          have hD9 : va_D A [] := by exact hD.sub [] (by decide) rfl
          have hK9 : va_K (dC, dI) cls [] s := hK.sub [] rfl
          refine W.widen (k := 0) (n := 0) (Nat.le_of_ble_eq_true rfl) (Nat.le_of_ble_eq_true rfl) ?_
          exact W.iret (v := 2) hx hb hr (fun t ht hW => ⟨⟨2, (), rfl, e_sX7_rowOf_r.symm, ⟨by rw [ht]; exact hP9, va_K.moved hW.alike hK9, hD9⟩⟩, hS.F ht⟩) hS.2.2 dX7_rowOf_36
      · refine lv_if_ge (tgt := 29) hx hb dX7_rowOf_24 (by decide) (fun c => absurd c hc3) (fun _ => ?_)
        refine lv_iconst (v := (-1)) hx hb dX7_rowOf_27 (by decide) ?_
        have e_sX7_rowOf_r : sX7_rowOf_r p0 = (-1) := by unfold sX7_rowOf_r; rw [if_neg hc1, if_neg hc2, if_neg hc3]
        have hP9 : va_P (dC, dI) cls [] H := by exact hP.sub [] rfl
        have hD9 : va_D A [] := by exact hD.sub [] (by decide) rfl
        have hK9 : va_K (dC, dI) cls [] s := hK.sub [] rfl
        refine W.widen (k := 0) (n := 0) (Nat.le_of_ble_eq_true rfl) (Nat.le_of_ble_eq_true rfl) ?_
        exact W.iret (v := (-1)) hx hb hr (fun t ht hW => ⟨⟨(-1), (), rfl, e_sX7_rowOf_r.symm, ⟨by rw [ht]; exact hP9, va_K.moved hW.alike hK9, hD9⟩⟩, hS.F ht⟩) hS.2.2 dX7_rowOf_28
