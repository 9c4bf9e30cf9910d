abbrev cX3_giveBack : ByteArray := prog_5_method_25_code
def yX3_giveBack : MethodName := ⟨RX3, "giveBack", "(LGearbox$Flow;I)V"⟩
abbrev cX3_makeSlots : ByteArray := prog_5_method_8_code
def yX3_makeSlots : MethodName := ⟨RX3, "makeSlots", "(I)V"⟩
abbrev cX3_moveInText : ByteArray := prog_5_method_19_code
def yX3_moveInText : MethodName := ⟨RX3, "moveInText", "()V"⟩
abbrev cX3_moveVariable : ByteArray := prog_5_method_20_code
def yX3_moveVariable : MethodName := ⟨RX3, "moveVariable", "(III)V"⟩
abbrev cX3_push : ByteArray := prog_5_method_13_code
def yX3_push : MethodName := ⟨RX3, "push", "(I)V"⟩
abbrev cX3_moveWord : ByteArray := prog_5_method_21_code
def yX3_moveWord : MethodName := ⟨RX3, "moveWord", "(III)V"⟩
abbrev cX3_readWord : ByteArray := prog_5_method_17_code
def yX3_readWord : MethodName := ⟨RX3, "readWord", "(I)I"⟩
abbrev cX3_writeWord : ByteArray := prog_5_method_18_code
def yX3_writeWord : MethodName := ⟨RX3, "writeWord", "(II)V"⟩
abbrev cX3_operate : ByteArray := prog_5_method_16_code
def yX3_operate : MethodName := ⟨RX3, "operate", "(III)I"⟩
abbrev cX3_moveLine : ByteArray := prog_5_method_28_code
def yX3_moveLine : MethodName := ⟨RX3, "moveLine", "(LGearbox$Steps;II)V"⟩
abbrev cX3_moveStep : ByteArray := prog_5_method_26_code
def yX3_moveStep : MethodName := ⟨RX3, "moveStep", "(LGearbox$Steps;II)V"⟩
abbrev cX3_save : ByteArray := prog_5_method_4_code
def yX3_save : MethodName := ⟨RX3, "save", "([I)V"⟩
abbrev cX3_tell : ByteArray := prog_5_method_3_code
def yX3_tell : MethodName := ⟨RX3, "tell", "(IIII)V"⟩
abbrev cX11_needFunction : ByteArray := prog_1_method_50_code
def yX11_needFunction : MethodName := ⟨RX11, "needFunction", "(I)V"⟩
abbrev cX11_digestBlock : ByteArray := prog_1_method_59_code
def yX11_digestBlock : MethodName := ⟨RX11, "digestBlock", "(JLGearbox$Flow;I)J"⟩
theorem dX11_digestBlock_0 : decode cX11_digestBlock 0 = .ok (.lload_n 0, 1) := by decide +kernel
theorem dX11_digestBlock_1 : decode cX11_digestBlock 1 = .ok (.lstore 4, 2) := by decide +kernel
theorem dX11_digestBlock_3 : decode cX11_digestBlock 3 = .ok (.lload 4, 2) := by decide +kernel
theorem dX11_digestBlock_5 : decode cX11_digestBlock 5 = .ok (.ldc2_w 323, 3) := by decide +kernel
theorem dX11_digestBlock_8 : decode cX11_digestBlock 8 = .ok (.lmul, 1) := by decide +kernel
theorem dX11_digestBlock_9 : decode cX11_digestBlock 9 = .ok (.aload_n 2, 1) := by decide +kernel
theorem dX11_digestBlock_10 : decode cX11_digestBlock 10 = .ok (.getfield 159, 3) := by decide +kernel
theorem dX11_digestBlock_13 : decode cX11_digestBlock 13 = .ok (.iload_n 3, 1) := by decide +kernel
theorem dX11_digestBlock_14 : decode cX11_digestBlock 14 = .ok (.iaload, 1) := by decide +kernel
theorem dX11_digestBlock_15 : decode cX11_digestBlock 15 = .ok (.i2l, 1) := by decide +kernel
theorem dX11_digestBlock_16 : decode cX11_digestBlock 16 = .ok (.ladd, 1) := by decide +kernel
theorem dX11_digestBlock_17 : decode cX11_digestBlock 17 = .ok (.lstore 4, 2) := by decide +kernel
theorem dX11_digestBlock_19 : decode cX11_digestBlock 19 = .ok (.lload 4, 2) := by decide +kernel
theorem dX11_digestBlock_21 : decode cX11_digestBlock 21 = .ok (.ldc2_w 323, 3) := by decide +kernel
theorem dX11_digestBlock_24 : decode cX11_digestBlock 24 = .ok (.lmul, 1) := by decide +kernel
theorem dX11_digestBlock_25 : decode cX11_digestBlock 25 = .ok (.aload_n 2, 1) := by decide +kernel
theorem dX11_digestBlock_26 : decode cX11_digestBlock 26 = .ok (.getfield 162, 3) := by decide +kernel
theorem dX11_digestBlock_29 : decode cX11_digestBlock 29 = .ok (.iload_n 3, 1) := by decide +kernel
theorem dX11_digestBlock_30 : decode cX11_digestBlock 30 = .ok (.iaload, 1) := by decide +kernel
theorem dX11_digestBlock_31 : decode cX11_digestBlock 31 = .ok (.i2l, 1) := by decide +kernel
theorem dX11_digestBlock_32 : decode cX11_digestBlock 32 = .ok (.ladd, 1) := by decide +kernel
theorem dX11_digestBlock_33 : decode cX11_digestBlock 33 = .ok (.lstore 4, 2) := by decide +kernel
theorem dX11_digestBlock_35 : decode cX11_digestBlock 35 = .ok (.lload 4, 2) := by decide +kernel
theorem dX11_digestBlock_37 : decode cX11_digestBlock 37 = .ok (.ldc2_w 323, 3) := by decide +kernel
theorem dX11_digestBlock_40 : decode cX11_digestBlock 40 = .ok (.lmul, 1) := by decide +kernel
theorem dX11_digestBlock_41 : decode cX11_digestBlock 41 = .ok (.aload_n 2, 1) := by decide +kernel
theorem dX11_digestBlock_42 : decode cX11_digestBlock 42 = .ok (.iload_n 3, 1) := by decide +kernel
theorem dX11_digestBlock_43 : decode cX11_digestBlock 43 = .ok (.invokevirtual 188, 3) := by decide +kernel
theorem dX11_digestBlock_46 : decode cX11_digestBlock 46 = .ok (.i2l, 1) := by decide +kernel
theorem dX11_digestBlock_47 : decode cX11_digestBlock 47 = .ok (.ladd, 1) := by decide +kernel
theorem dX11_digestBlock_48 : decode cX11_digestBlock 48 = .ok (.lstore 4, 2) := by decide +kernel
theorem dX11_digestBlock_50 : decode cX11_digestBlock 50 = .ok (.lload 4, 2) := by decide +kernel
theorem dX11_digestBlock_52 : decode cX11_digestBlock 52 = .ok (.ldc2_w 323, 3) := by decide +kernel
theorem dX11_digestBlock_55 : decode cX11_digestBlock 55 = .ok (.lmul, 1) := by decide +kernel
theorem dX11_digestBlock_56 : decode cX11_digestBlock 56 = .ok (.aload_n 2, 1) := by decide +kernel
theorem dX11_digestBlock_57 : decode cX11_digestBlock 57 = .ok (.iload_n 3, 1) := by decide +kernel
theorem dX11_digestBlock_58 : decode cX11_digestBlock 58 = .ok (.invokevirtual 203, 3) := by decide +kernel
theorem dX11_digestBlock_61 : decode cX11_digestBlock 61 = .ok (.i2l, 1) := by decide +kernel
theorem dX11_digestBlock_62 : decode cX11_digestBlock 62 = .ok (.ladd, 1) := by decide +kernel
theorem dX11_digestBlock_63 : decode cX11_digestBlock 63 = .ok (.lstore 4, 2) := by decide +kernel
theorem dX11_digestBlock_65 : decode cX11_digestBlock 65 = .ok (.lload 4, 2) := by decide +kernel
theorem dX11_digestBlock_67 : decode cX11_digestBlock 67 = .ok (.ldc2_w 323, 3) := by decide +kernel
theorem dX11_digestBlock_70 : decode cX11_digestBlock 70 = .ok (.lmul, 1) := by decide +kernel
theorem dX11_digestBlock_71 : decode cX11_digestBlock 71 = .ok (.aload_n 2, 1) := by decide +kernel
theorem dX11_digestBlock_72 : decode cX11_digestBlock 72 = .ok (.getfield 176, 3) := by decide +kernel
theorem dX11_digestBlock_75 : decode cX11_digestBlock 75 = .ok (.iload_n 3, 1) := by decide +kernel
theorem dX11_digestBlock_76 : decode cX11_digestBlock 76 = .ok (.iaload, 1) := by decide +kernel
theorem dX11_digestBlock_77 : decode cX11_digestBlock 77 = .ok (.i2l, 1) := by decide +kernel
theorem dX11_digestBlock_78 : decode cX11_digestBlock 78 = .ok (.ladd, 1) := by decide +kernel
theorem dX11_digestBlock_79 : decode cX11_digestBlock 79 = .ok (.lstore 4, 2) := by decide +kernel
theorem dX11_digestBlock_81 : decode cX11_digestBlock 81 = .ok (.lload 4, 2) := by decide +kernel
theorem dX11_digestBlock_83 : decode cX11_digestBlock 83 = .ok (.ldc2_w 323, 3) := by decide +kernel
theorem dX11_digestBlock_86 : decode cX11_digestBlock 86 = .ok (.lmul, 1) := by decide +kernel
theorem dX11_digestBlock_87 : decode cX11_digestBlock 87 = .ok (.aload_n 2, 1) := by decide +kernel
theorem dX11_digestBlock_88 : decode cX11_digestBlock 88 = .ok (.getfield 185, 3) := by decide +kernel
theorem dX11_digestBlock_91 : decode cX11_digestBlock 91 = .ok (.iload_n 3, 1) := by decide +kernel
theorem dX11_digestBlock_92 : decode cX11_digestBlock 92 = .ok (.iaload, 1) := by decide +kernel
theorem dX11_digestBlock_93 : decode cX11_digestBlock 93 = .ok (.i2l, 1) := by decide +kernel
theorem dX11_digestBlock_94 : decode cX11_digestBlock 94 = .ok (.ladd, 1) := by decide +kernel
theorem dX11_digestBlock_95 : decode cX11_digestBlock 95 = .ok (.lstore 4, 2) := by decide +kernel
theorem dX11_digestBlock_97 : decode cX11_digestBlock 97 = .ok (.lload 4, 2) := by decide +kernel
theorem dX11_digestBlock_99 : decode cX11_digestBlock 99 = .ok (.ldc2_w 323, 3) := by decide +kernel
theorem dX11_digestBlock_102 : decode cX11_digestBlock 102 = .ok (.lmul, 1) := by decide +kernel
theorem dX11_digestBlock_103 : decode cX11_digestBlock 103 = .ok (.aload_n 2, 1) := by decide +kernel
theorem dX11_digestBlock_104 : decode cX11_digestBlock 104 = .ok (.getfield 182, 3) := by decide +kernel
theorem dX11_digestBlock_107 : decode cX11_digestBlock 107 = .ok (.iload_n 3, 1) := by decide +kernel
theorem dX11_digestBlock_108 : decode cX11_digestBlock 108 = .ok (.iaload, 1) := by decide +kernel
theorem dX11_digestBlock_109 : decode cX11_digestBlock 109 = .ok (.i2l, 1) := by decide +kernel
theorem dX11_digestBlock_110 : decode cX11_digestBlock 110 = .ok (.ladd, 1) := by decide +kernel
theorem dX11_digestBlock_111 : decode cX11_digestBlock 111 = .ok (.lstore 4, 2) := by decide +kernel
theorem dX11_digestBlock_113 : decode cX11_digestBlock 113 = .ok (.lload 4, 2) := by decide +kernel
theorem dX11_digestBlock_115 : decode cX11_digestBlock 115 = .ok (.ldc2_w 323, 3) := by decide +kernel
theorem dX11_digestBlock_118 : decode cX11_digestBlock 118 = .ok (.lmul, 1) := by decide +kernel
theorem dX11_digestBlock_119 : decode cX11_digestBlock 119 = .ok (.aload_n 2, 1) := by decide +kernel
theorem dX11_digestBlock_120 : decode cX11_digestBlock 120 = .ok (.getfield 179, 3) := by decide +kernel
theorem dX11_digestBlock_123 : decode cX11_digestBlock 123 = .ok (.iload_n 3, 1) := by decide +kernel
theorem dX11_digestBlock_124 : decode cX11_digestBlock 124 = .ok (.iaload, 1) := by decide +kernel
theorem dX11_digestBlock_125 : decode cX11_digestBlock 125 = .ok (.i2l, 1) := by decide +kernel
theorem dX11_digestBlock_126 : decode cX11_digestBlock 126 = .ok (.ladd, 1) := by decide +kernel
theorem dX11_digestBlock_127 : decode cX11_digestBlock 127 = .ok (.lstore 4, 2) := by decide +kernel
theorem dX11_digestBlock_129 : decode cX11_digestBlock 129 = .ok (.lload 4, 2) := by decide +kernel
theorem dX11_digestBlock_131 : decode cX11_digestBlock 131 = .ok (.ldc2_w 323, 3) := by decide +kernel
theorem dX11_digestBlock_134 : decode cX11_digestBlock 134 = .ok (.lmul, 1) := by decide +kernel
theorem dX11_digestBlock_135 : decode cX11_digestBlock 135 = .ok (.aload_n 2, 1) := by decide +kernel
theorem dX11_digestBlock_136 : decode cX11_digestBlock 136 = .ok (.iload_n 3, 1) := by decide +kernel
theorem dX11_digestBlock_137 : decode cX11_digestBlock 137 = .ok (.invokevirtual 165, 3) := by decide +kernel
theorem dX11_digestBlock_140 : decode cX11_digestBlock 140 = .ok (.i2l, 1) := by decide +kernel
theorem dX11_digestBlock_141 : decode cX11_digestBlock 141 = .ok (.ladd, 1) := by decide +kernel
theorem dX11_digestBlock_142 : decode cX11_digestBlock 142 = .ok (.lstore 4, 2) := by decide +kernel
theorem dX11_digestBlock_144 : decode cX11_digestBlock 144 = .ok (.iconst 0, 1) := by decide +kernel
theorem dX11_digestBlock_145 : decode cX11_digestBlock 145 = .ok (.istore 6, 2) := by decide +kernel
theorem dX11_digestBlock_147 : decode cX11_digestBlock 147 = .ok (.iload 6, 2) := by decide +kernel
theorem dX11_digestBlock_149 : decode cX11_digestBlock 149 = .ok (.aload_n 2, 1) := by decide +kernel
theorem dX11_digestBlock_150 : decode cX11_digestBlock 150 = .ok (.iload_n 3, 1) := by decide +kernel
theorem dX11_digestBlock_151 : decode cX11_digestBlock 151 = .ok (.invokevirtual 165, 3) := by decide +kernel
theorem dX11_digestBlock_154 : decode cX11_digestBlock 154 = .ok (.if_icmp .ge 26, 3) := by decide +kernel
theorem dX11_digestBlock_157 : decode cX11_digestBlock 157 = .ok (.lload 4, 2) := by decide +kernel
theorem dX11_digestBlock_159 : decode cX11_digestBlock 159 = .ok (.ldc2_w 323, 3) := by decide +kernel
theorem dX11_digestBlock_162 : decode cX11_digestBlock 162 = .ok (.lmul, 1) := by decide +kernel
theorem dX11_digestBlock_163 : decode cX11_digestBlock 163 = .ok (.aload_n 2, 1) := by decide +kernel
theorem dX11_digestBlock_164 : decode cX11_digestBlock 164 = .ok (.iload_n 3, 1) := by decide +kernel
theorem dX11_digestBlock_165 : decode cX11_digestBlock 165 = .ok (.iload 6, 2) := by decide +kernel
theorem dX11_digestBlock_167 : decode cX11_digestBlock 167 = .ok (.invokevirtual 172, 3) := by decide +kernel
theorem dX11_digestBlock_170 : decode cX11_digestBlock 170 = .ok (.i2l, 1) := by decide +kernel
theorem dX11_digestBlock_171 : decode cX11_digestBlock 171 = .ok (.ladd, 1) := by decide +kernel
theorem dX11_digestBlock_172 : decode cX11_digestBlock 172 = .ok (.lstore 4, 2) := by decide +kernel
theorem dX11_digestBlock_174 : decode cX11_digestBlock 174 = .ok (.iinc 6 1, 3) := by decide +kernel
theorem dX11_digestBlock_177 : decode cX11_digestBlock 177 = .ok (.goto (-30), 3) := by decide +kernel
theorem dX11_digestBlock_180 : decode cX11_digestBlock 180 = .ok (.lload 4, 2) := by decide +kernel
theorem dX11_digestBlock_182 : decode cX11_digestBlock 182 = .ok (.lreturn, 1) := by decide +kernel
theorem dX11_needFunction_0 : decode cX11_needFunction 0 = .ok (.iload_n 1, 1) := by decide +kernel
theorem dX11_needFunction_1 : decode cX11_needFunction 1 = .ok (.ifCond .lt 14, 3) := by decide +kernel
theorem dX11_needFunction_4 : decode cX11_needFunction 4 = .ok (.iload_n 1, 1) := by decide +kernel
theorem dX11_needFunction_5 : decode cX11_needFunction 5 = .ok (.aload_n 0, 1) := by decide +kernel
theorem dX11_needFunction_6 : decode cX11_needFunction 6 = .ok (.getfield 61, 3) := by decide +kernel
theorem dX11_needFunction_9 : decode cX11_needFunction 9 = .ok (.getfield 112, 3) := by decide +kernel
theorem dX11_needFunction_12 : decode cX11_needFunction 12 = .ok (.if_icmp .lt 14, 3) := by decide +kernel
theorem dX11_needFunction_26 : decode cX11_needFunction 26 = .ok (.return_, 1) := by decide +kernel
theorem dX3_giveBack_0 : decode cX3_giveBack 0 = .ok (.aload_n 0, 1) := by decide +kernel
theorem dX3_giveBack_1 : decode cX3_giveBack 1 = .ok (.getfield 84, 3) := by decide +kernel
theorem dX3_giveBack_4 : decode cX3_giveBack 4 = .ok (.iconst 1, 1) := by decide +kernel
theorem dX3_giveBack_5 : decode cX3_giveBack 5 = .ok (.isub, 1) := by decide +kernel
theorem dX3_giveBack_6 : decode cX3_giveBack 6 = .ok (.istore_n 3, 1) := by decide +kernel
theorem dX3_giveBack_7 : decode cX3_giveBack 7 = .ok (.iconst (-1), 1) := by decide +kernel
theorem dX3_giveBack_8 : decode cX3_giveBack 8 = .ok (.istore 4, 2) := by decide +kernel
theorem dX3_giveBack_10 : decode cX3_giveBack 10 = .ok (.aload_n 1, 1) := by decide +kernel
theorem dX3_giveBack_11 : decode cX3_giveBack 11 = .ok (.getfield 233, 3) := by decide +kernel
theorem dX3_giveBack_14 : decode cX3_giveBack 14 = .ok (.aload_n 0, 1) := by decide +kernel
theorem dX3_giveBack_15 : decode cX3_giveBack 15 = .ok (.getfield 24, 3) := by decide +kernel
theorem dX3_giveBack_18 : decode cX3_giveBack 18 = .ok (.iload_n 3, 1) := by decide +kernel
theorem dX3_giveBack_19 : decode cX3_giveBack 19 = .ok (.iaload, 1) := by decide +kernel
theorem dX3_giveBack_20 : decode cX3_giveBack 20 = .ok (.iaload, 1) := by decide +kernel
theorem dX3_giveBack_21 : decode cX3_giveBack 21 = .ok (.istore 5, 2) := by decide +kernel
theorem dX3_giveBack_23 : decode cX3_giveBack 23 = .ok (.iload 5, 2) := by decide +kernel
theorem dX3_giveBack_25 : decode cX3_giveBack 25 = .ok (.ifCond .lt 33, 3) := by decide +kernel
theorem dX3_giveBack_28 : decode cX3_giveBack 28 = .ok (.iload 5, 2) := by decide +kernel
theorem dX3_giveBack_30 : decode cX3_giveBack 30 = .ok (.aload_n 0, 1) := by decide +kernel
theorem dX3_giveBack_31 : decode cX3_giveBack 31 = .ok (.getfield 21, 3) := by decide +kernel
theorem dX3_giveBack_34 : decode cX3_giveBack 34 = .ok (.iload_n 3, 1) := by decide +kernel
theorem dX3_giveBack_35 : decode cX3_giveBack 35 = .ok (.iaload, 1) := by decide +kernel
theorem dX3_giveBack_36 : decode cX3_giveBack 36 = .ok (.if_icmp .eq 22, 3) := by decide +kernel
theorem dX3_giveBack_39 : decode cX3_giveBack 39 = .ok (.iload 5, 2) := by decide +kernel
theorem dX3_giveBack_41 : decode cX3_giveBack 41 = .ok (.istore 4, 2) := by decide +kernel
theorem dX3_giveBack_43 : decode cX3_giveBack 43 = .ok (.aload_n 1, 1) := by decide +kernel
theorem dX3_giveBack_44 : decode cX3_giveBack 44 = .ok (.getfield 207, 3) := by decide +kernel
theorem dX3_giveBack_47 : decode cX3_giveBack 47 = .ok (.getfield 212, 3) := by decide +kernel
theorem dX3_giveBack_50 : decode cX3_giveBack 50 = .ok (.iload 5, 2) := by decide +kernel
theorem dX3_giveBack_52 : decode cX3_giveBack 52 = .ok (.iaload, 1) := by decide +kernel
theorem dX3_giveBack_53 : decode cX3_giveBack 53 = .ok (.istore 5, 2) := by decide +kernel
theorem dX3_giveBack_55 : decode cX3_giveBack 55 = .ok (.goto (-32), 3) := by decide +kernel
theorem dX3_giveBack_58 : decode cX3_giveBack 58 = .ok (.iload 4, 2) := by decide +kernel
theorem dX3_giveBack_60 : decode cX3_giveBack 60 = .ok (.ifCond .lt 25, 3) := by decide +kernel
theorem dX3_giveBack_63 : decode cX3_giveBack 63 = .ok (.aload_n 0, 1) := by decide +kernel
theorem dX3_giveBack_64 : decode cX3_giveBack 64 = .ok (.getfield 33, 3) := by decide +kernel
theorem dX3_giveBack_67 : decode cX3_giveBack 67 = .ok (.iload_n 3, 1) := by decide +kernel
theorem dX3_giveBack_68 : decode cX3_giveBack 68 = .ok (.sipush 320, 3) := by decide +kernel
theorem dX3_giveBack_71 : decode cX3_giveBack 71 = .ok (.imul, 1) := by decide +kernel
theorem dX3_giveBack_72 : decode cX3_giveBack 72 = .ok (.aload_n 1, 1) := by decide +kernel
theorem dX3_giveBack_73 : decode cX3_giveBack 73 = .ok (.getfield 207, 3) := by decide +kernel
theorem dX3_giveBack_76 : decode cX3_giveBack 76 = .ok (.getfield 251, 3) := by decide +kernel
theorem dX3_giveBack_79 : decode cX3_giveBack 79 = .ok (.iload 4, 2) := by decide +kernel
theorem dX3_giveBack_81 : decode cX3_giveBack 81 = .ok (.iaload, 1) := by decide +kernel
theorem dX3_giveBack_82 : decode cX3_giveBack 82 = .ok (.iadd, 1) := by decide +kernel
theorem dX3_giveBack_83 : decode cX3_giveBack 83 = .ok (.iload_n 2, 1) := by decide +kernel
theorem dX3_giveBack_84 : decode cX3_giveBack 84 = .ok (.iastore, 1) := by decide +kernel
theorem dX3_giveBack_85 : decode cX3_giveBack 85 = .ok (.return_, 1) := by decide +kernel
theorem dX3_makeSlots_0 : decode cX3_makeSlots 0 = .ok (.aload_n 0, 1) := by decide +kernel
theorem dX3_makeSlots_1 : decode cX3_makeSlots 1 = .ok (.iconst 0, 1) := by decide +kernel
theorem dX3_makeSlots_2 : decode cX3_makeSlots 2 = .ok (.putfield 116, 3) := by decide +kernel
theorem dX3_makeSlots_5 : decode cX3_makeSlots 5 = .ok (.iconst 0, 1) := by decide +kernel
theorem dX3_makeSlots_6 : decode cX3_makeSlots 6 = .ok (.istore_n 2, 1) := by decide +kernel
theorem dX3_makeSlots_7 : decode cX3_makeSlots 7 = .ok (.iload_n 1, 1) := by decide +kernel
theorem dX3_makeSlots_8 : decode cX3_makeSlots 8 = .ok (.iconst 1, 1) := by decide +kernel
theorem dX3_makeSlots_9 : decode cX3_makeSlots 9 = .ok (.if_icmp .le 40, 3) := by decide +kernel
theorem dX3_makeSlots_12 : decode cX3_makeSlots 12 = .ok (.iload_n 2, 1) := by decide +kernel
theorem dX3_makeSlots_13 : decode cX3_makeSlots 13 = .ok (.aload_n 0, 1) := by decide +kernel
theorem dX3_makeSlots_14 : decode cX3_makeSlots 14 = .ok (.getfield 42, 3) := by decide +kernel
theorem dX3_makeSlots_17 : decode cX3_makeSlots 17 = .ok (.getfield 119, 3) := by decide +kernel
theorem dX3_makeSlots_20 : decode cX3_makeSlots 20 = .ok (.if_icmp .ge 29, 3) := by decide +kernel
theorem dX3_makeSlots_23 : decode cX3_makeSlots 23 = .ok (.aload_n 0, 1) := by decide +kernel
theorem dX3_makeSlots_24 : decode cX3_makeSlots 24 = .ok (.aload_n 0, 1) := by decide +kernel
theorem dX3_makeSlots_25 : decode cX3_makeSlots 25 = .ok (.getfield 116, 3) := by decide +kernel
theorem dX3_makeSlots_28 : decode cX3_makeSlots 28 = .ok (.aload_n 0, 1) := by decide +kernel
theorem dX3_makeSlots_29 : decode cX3_makeSlots 29 = .ok (.getfield 50, 3) := by decide +kernel
theorem dX3_makeSlots_32 : decode cX3_makeSlots 32 = .ok (.getfield 122, 3) := by decide +kernel
theorem dX3_makeSlots_35 : decode cX3_makeSlots 35 = .ok (.iload_n 2, 1) := by decide +kernel
theorem dX3_makeSlots_36 : decode cX3_makeSlots 36 = .ok (.iaload, 1) := by decide +kernel
theorem dX3_makeSlots_37 : decode cX3_makeSlots 37 = .ok (.invokestatic 127, 3) := by decide +kernel
theorem dX3_makeSlots_40 : decode cX3_makeSlots 40 = .ok (.putfield 116, 3) := by decide +kernel
theorem dX3_makeSlots_43 : decode cX3_makeSlots 43 = .ok (.iinc 2 1, 3) := by decide +kernel
theorem dX3_makeSlots_46 : decode cX3_makeSlots 46 = .ok (.goto (-39), 3) := by decide +kernel
theorem dX3_makeSlots_49 : decode cX3_makeSlots 49 = .ok (.aload_n 0, 1) := by decide +kernel
theorem dX3_makeSlots_50 : decode cX3_makeSlots 50 = .ok (.aload_n 0, 1) := by decide +kernel
theorem dX3_makeSlots_51 : decode cX3_makeSlots 51 = .ok (.getfield 36, 3) := by decide +kernel
theorem dX3_makeSlots_54 : decode cX3_makeSlots 54 = .ok (.aload_n 0, 1) := by decide +kernel
theorem dX3_makeSlots_55 : decode cX3_makeSlots 55 = .ok (.getfield 116, 3) := by decide +kernel
theorem dX3_makeSlots_58 : decode cX3_makeSlots 58 = .ok (.bipush 8, 2) := by decide +kernel
theorem dX3_makeSlots_60 : decode cX3_makeSlots 60 = .ok (.imul, 1) := by decide +kernel
theorem dX3_makeSlots_61 : decode cX3_makeSlots 61 = .ok (.invokestatic 133, 3) := by decide +kernel
theorem dX3_makeSlots_64 : decode cX3_makeSlots 64 = .ok (.putfield 36, 3) := by decide +kernel
theorem dX3_makeSlots_67 : decode cX3_makeSlots 67 = .ok (.return_, 1) := by decide +kernel
theorem dX3_moveInText_0 : decode cX3_moveInText 0 = .ok (.aload_n 0, 1) := by decide +kernel
theorem dX3_moveInText_1 : decode cX3_moveInText 1 = .ok (.getfield 84, 3) := by decide +kernel
theorem dX3_moveInText_4 : decode cX3_moveInText 4 = .ok (.iconst 1, 1) := by decide +kernel
theorem dX3_moveInText_5 : decode cX3_moveInText 5 = .ok (.isub, 1) := by decide +kernel
theorem dX3_moveInText_6 : decode cX3_moveInText 6 = .ok (.istore_n 1, 1) := by decide +kernel
theorem dX3_moveInText_7 : decode cX3_moveInText 7 = .ok (.aload_n 0, 1) := by decide +kernel
theorem dX3_moveInText_8 : decode cX3_moveInText 8 = .ok (.getfield 21, 3) := by decide +kernel
theorem dX3_moveInText_11 : decode cX3_moveInText 11 = .ok (.iload_n 1, 1) := by decide +kernel
theorem dX3_moveInText_12 : decode cX3_moveInText 12 = .ok (.iaload, 1) := by decide +kernel
theorem dX3_moveInText_13 : decode cX3_moveInText 13 = .ok (.istore_n 2, 1) := by decide +kernel
theorem dX3_moveInText_14 : decode cX3_moveInText 14 = .ok (.aload_n 0, 1) := by decide +kernel
theorem dX3_moveInText_15 : decode cX3_moveInText 15 = .ok (.getfield 21, 3) := by decide +kernel
theorem dX3_moveInText_18 : decode cX3_moveInText 18 = .ok (.iload_n 1, 1) := by decide +kernel
theorem dX3_moveInText_19 : decode cX3_moveInText 19 = .ok (.iload_n 2, 1) := by decide +kernel
theorem dX3_moveInText_20 : decode cX3_moveInText 20 = .ok (.iconst 1, 1) := by decide +kernel
theorem dX3_moveInText_21 : decode cX3_moveInText 21 = .ok (.iadd, 1) := by decide +kernel
theorem dX3_moveInText_22 : decode cX3_moveInText 22 = .ok (.iastore, 1) := by decide +kernel
theorem dX3_moveInText_23 : decode cX3_moveInText 23 = .ok (.aload_n 0, 1) := by decide +kernel
theorem dX3_moveInText_24 : decode cX3_moveInText 24 = .ok (.aload_n 0, 1) := by decide +kernel
theorem dX3_moveInText_25 : decode cX3_moveInText 25 = .ok (.getfield 42, 3) := by decide +kernel
theorem dX3_moveInText_28 : decode cX3_moveInText 28 = .ok (.getfield 158, 3) := by decide +kernel
theorem dX3_moveInText_31 : decode cX3_moveInText 31 = .ok (.iload_n 2, 1) := by decide +kernel
theorem dX3_moveInText_32 : decode cX3_moveInText 32 = .ok (.iaload, 1) := by decide +kernel
theorem dX3_moveInText_33 : decode cX3_moveInText 33 = .ok (.invokevirtual 161, 3) := by decide +kernel
theorem dX3_moveInText_36 : decode cX3_moveInText 36 = .ok (.ifCond .ne 4, 3) := by decide +kernel
theorem dX3_moveInText_39 : decode cX3_moveInText 39 = .ok (.return_, 1) := by decide +kernel
theorem dX3_moveInText_40 : decode cX3_moveInText 40 = .ok (.aload_n 0, 1) := by decide +kernel
theorem dX3_moveInText_41 : decode cX3_moveInText 41 = .ok (.getfield 42, 3) := by decide +kernel
theorem dX3_moveInText_44 : decode cX3_moveInText 44 = .ok (.getfield 165, 3) := by decide +kernel
theorem dX3_moveInText_47 : decode cX3_moveInText 47 = .ok (.iload_n 2, 1) := by decide +kernel
theorem dX3_moveInText_48 : decode cX3_moveInText 48 = .ok (.iaload, 1) := by decide +kernel
theorem dX3_moveInText_49 : decode cX3_moveInText 49 = .ok (.istore_n 3, 1) := by decide +kernel
theorem dX3_moveInText_50 : decode cX3_moveInText 50 = .ok (.iload_n 3, 1) := by decide +kernel
theorem dX3_moveInText_51 : decode cX3_moveInText 51 = .ok (.invokestatic 168, 3) := by decide +kernel
theorem dX3_moveInText_54 : decode cX3_moveInText 54 = .ok (.ifCond .eq 31, 3) := by decide +kernel
theorem dX3_moveInText_57 : decode cX3_moveInText 57 = .ok (.aload_n 0, 1) := by decide +kernel
theorem dX3_moveInText_58 : decode cX3_moveInText 58 = .ok (.invokevirtual 140, 3) := by decide +kernel
theorem dX3_moveInText_61 : decode cX3_moveInText 61 = .ok (.istore 4, 2) := by decide +kernel
theorem dX3_moveInText_63 : decode cX3_moveInText 63 = .ok (.aload_n 0, 1) := by decide +kernel
theorem dX3_moveInText_64 : decode cX3_moveInText 64 = .ok (.invokevirtual 140, 3) := by decide +kernel
theorem dX3_moveInText_67 : decode cX3_moveInText 67 = .ok (.istore 5, 2) := by decide +kernel
theorem dX3_moveInText_69 : decode cX3_moveInText 69 = .ok (.aload_n 0, 1) := by decide +kernel
theorem dX3_moveInText_70 : decode cX3_moveInText 70 = .ok (.aload_n 0, 1) := by decide +kernel
theorem dX3_moveInText_71 : decode cX3_moveInText 71 = .ok (.iload_n 3, 1) := by decide +kernel
theorem dX3_moveInText_72 : decode cX3_moveInText 72 = .ok (.iload 5, 2) := by decide +kernel
theorem dX3_moveInText_74 : decode cX3_moveInText 74 = .ok (.iload 4, 2) := by decide +kernel
theorem dX3_moveInText_76 : decode cX3_moveInText 76 = .ok (.invokevirtual 171, 3) := by decide +kernel
theorem dX3_moveInText_79 : decode cX3_moveInText 79 = .ok (.invokevirtual 99, 3) := by decide +kernel
theorem dX3_moveInText_82 : decode cX3_moveInText 82 = .ok (.goto 48, 3) := by decide +kernel
theorem dX3_moveInText_85 : decode cX3_moveInText 85 = .ok (.iload_n 3, 1) := by decide +kernel
theorem dX3_moveInText_86 : decode cX3_moveInText 86 = .ok (.bipush 30, 2) := by decide +kernel
theorem dX3_moveInText_88 : decode cX3_moveInText 88 = .ok (.if_icmp .ge 9, 3) := by decide +kernel
theorem dX3_moveInText_91 : decode cX3_moveInText 91 = .ok (.iload_n 3, 1) := by decide +kernel
theorem dX3_moveInText_92 : decode cX3_moveInText 92 = .ok (.bipush 22, 2) := by decide +kernel
theorem dX3_moveInText_94 : decode cX3_moveInText 94 = .ok (.if_icmp .ne 21, 3) := by decide +kernel
theorem dX3_moveInText_97 : decode cX3_moveInText 97 = .ok (.aload_n 0, 1) := by decide +kernel
theorem dX3_moveInText_98 : decode cX3_moveInText 98 = .ok (.iload_n 1, 1) := by decide +kernel
theorem dX3_moveInText_99 : decode cX3_moveInText 99 = .ok (.iload_n 3, 1) := by decide +kernel
theorem dX3_moveInText_100 : decode cX3_moveInText 100 = .ok (.aload_n 0, 1) := by decide +kernel
theorem dX3_moveInText_101 : decode cX3_moveInText 101 = .ok (.getfield 42, 3) := by decide +kernel
theorem dX3_moveInText_104 : decode cX3_moveInText 104 = .ok (.getfield 174, 3) := by decide +kernel
theorem dX3_moveInText_107 : decode cX3_moveInText 107 = .ok (.iload_n 2, 1) := by decide +kernel
theorem dX3_moveInText_108 : decode cX3_moveInText 108 = .ok (.iaload, 1) := by decide +kernel
theorem dX3_moveInText_109 : decode cX3_moveInText 109 = .ok (.invokevirtual 177, 3) := by decide +kernel
theorem dX3_moveInText_112 : decode cX3_moveInText 112 = .ok (.goto 18, 3) := by decide +kernel
theorem dX3_moveInText_115 : decode cX3_moveInText 115 = .ok (.aload_n 0, 1) := by decide +kernel
theorem dX3_moveInText_116 : decode cX3_moveInText 116 = .ok (.iload_n 1, 1) := by decide +kernel
theorem dX3_moveInText_117 : decode cX3_moveInText 117 = .ok (.iload_n 3, 1) := by decide +kernel
theorem dX3_moveInText_118 : decode cX3_moveInText 118 = .ok (.aload_n 0, 1) := by decide +kernel
theorem dX3_moveInText_119 : decode cX3_moveInText 119 = .ok (.getfield 42, 3) := by decide +kernel
theorem dX3_moveInText_122 : decode cX3_moveInText 122 = .ok (.getfield 174, 3) := by decide +kernel
theorem dX3_moveInText_125 : decode cX3_moveInText 125 = .ok (.iload_n 2, 1) := by decide +kernel
theorem dX3_moveInText_126 : decode cX3_moveInText 126 = .ok (.iaload, 1) := by decide +kernel
theorem dX3_moveInText_127 : decode cX3_moveInText 127 = .ok (.invokevirtual 181, 3) := by decide +kernel
theorem dX3_moveInText_130 : decode cX3_moveInText 130 = .ok (.return_, 1) := by decide +kernel
theorem dX3_moveLine_0 : decode cX3_moveLine 0 = .ok (.aload_n 1, 1) := by decide +kernel
theorem dX3_moveLine_1 : decode cX3_moveLine 1 = .ok (.getfield 254, 3) := by decide +kernel
theorem dX3_moveLine_4 : decode cX3_moveLine 4 = .ok (.iload_n 3, 1) := by decide +kernel
theorem dX3_moveLine_5 : decode cX3_moveLine 5 = .ok (.iaload, 1) := by decide +kernel
theorem dX3_moveLine_6 : decode cX3_moveLine 6 = .ok (.bipush 20, 2) := by decide +kernel
theorem dX3_moveLine_8 : decode cX3_moveLine 8 = .ok (.if_icmp .ne 17, 3) := by decide +kernel
theorem dX3_moveLine_11 : decode cX3_moveLine 11 = .ok (.aload_n 0, 1) := by decide +kernel
theorem dX3_moveLine_12 : decode cX3_moveLine 12 = .ok (.iconst 2, 1) := by decide +kernel
theorem dX3_moveLine_13 : decode cX3_moveLine 13 = .ok (.aload_n 1, 1) := by decide +kernel
theorem dX3_moveLine_14 : decode cX3_moveLine 14 = .ok (.getfield 257, 3) := by decide +kernel
theorem dX3_moveLine_17 : decode cX3_moveLine 17 = .ok (.iload_n 3, 1) := by decide +kernel
theorem dX3_moveLine_18 : decode cX3_moveLine 18 = .ok (.iaload, 1) := by decide +kernel
theorem dX3_moveLine_19 : decode cX3_moveLine 19 = .ok (.invokevirtual 102, 3) := by decide +kernel
theorem dX3_moveLine_22 : decode cX3_moveLine 22 = .ok (.goto 10, 3) := by decide +kernel
theorem dX3_moveLine_25 : decode cX3_moveLine 25 = .ok (.aload_n 0, 1) := by decide +kernel
theorem dX3_moveLine_26 : decode cX3_moveLine 26 = .ok (.aload_n 1, 1) := by decide +kernel
theorem dX3_moveLine_27 : decode cX3_moveLine 27 = .ok (.iload_n 2, 1) := by decide +kernel
theorem dX3_moveLine_28 : decode cX3_moveLine 28 = .ok (.iload_n 3, 1) := by decide +kernel
theorem dX3_moveLine_29 : decode cX3_moveLine 29 = .ok (.invokevirtual 217, 3) := by decide +kernel
theorem dX3_moveLine_32 : decode cX3_moveLine 32 = .ok (.return_, 1) := by decide +kernel
theorem dX3_moveStep_0 : decode cX3_moveStep 0 = .ok (.iload_n 2, 1) := by decide +kernel
theorem dX3_moveStep_1 : decode cX3_moveStep 1 = .ok (.sipush 320, 3) := by decide +kernel
theorem dX3_moveStep_4 : decode cX3_moveStep 4 = .ok (.imul, 1) := by decide +kernel
theorem dX3_moveStep_5 : decode cX3_moveStep 5 = .ok (.istore 4, 2) := by decide +kernel
theorem dX3_moveStep_7 : decode cX3_moveStep 7 = .ok (.aload_n 1, 1) := by decide +kernel
theorem dX3_moveStep_8 : decode cX3_moveStep 8 = .ok (.getfield 254, 3) := by decide +kernel
theorem dX3_moveStep_11 : decode cX3_moveStep 11 = .ok (.iload_n 3, 1) := by decide +kernel
theorem dX3_moveStep_12 : decode cX3_moveStep 12 = .ok (.iaload, 1) := by decide +kernel
theorem dX3_moveStep_13 : decode cX3_moveStep 13 = .ok (.istore 5, 2) := by decide +kernel
theorem dX3_moveStep_15 : decode cX3_moveStep 15 = .ok (.aload_n 1, 1) := by decide +kernel
theorem dX3_moveStep_16 : decode cX3_moveStep 16 = .ok (.getfield 257, 3) := by decide +kernel
theorem dX3_moveStep_19 : decode cX3_moveStep 19 = .ok (.iload_n 3, 1) := by decide +kernel
theorem dX3_moveStep_20 : decode cX3_moveStep 20 = .ok (.iaload, 1) := by decide +kernel
theorem dX3_moveStep_21 : decode cX3_moveStep 21 = .ok (.istore 6, 2) := by decide +kernel
theorem dX3_moveStep_23 : decode cX3_moveStep 23 = .ok (.iload 5, 2) := by decide +kernel
theorem dX3_moveStep_25 : decode cX3_moveStep 25 = .ok (.ifCond .ne 22, 3) := by decide +kernel
theorem dX3_moveStep_28 : decode cX3_moveStep 28 = .ok (.aload_n 0, 1) := by decide +kernel
theorem dX3_moveStep_29 : decode cX3_moveStep 29 = .ok (.getfield 33, 3) := by decide +kernel
theorem dX3_moveStep_32 : decode cX3_moveStep 32 = .ok (.iload 4, 2) := by decide +kernel
theorem dX3_moveStep_34 : decode cX3_moveStep 34 = .ok (.aload_n 1, 1) := by decide +kernel
theorem dX3_moveStep_35 : decode cX3_moveStep 35 = .ok (.getfield 251, 3) := by decide +kernel
theorem dX3_moveStep_38 : decode cX3_moveStep 38 = .ok (.iload_n 3, 1) := by decide +kernel
theorem dX3_moveStep_39 : decode cX3_moveStep 39 = .ok (.iaload, 1) := by decide +kernel
theorem dX3_moveStep_40 : decode cX3_moveStep 40 = .ok (.iadd, 1) := by decide +kernel
theorem dX3_moveStep_41 : decode cX3_moveStep 41 = .ok (.iload 6, 2) := by decide +kernel
theorem dX3_moveStep_43 : decode cX3_moveStep 43 = .ok (.iastore, 1) := by decide +kernel
theorem dX3_moveStep_44 : decode cX3_moveStep 44 = .ok (.goto 195, 3) := by decide +kernel
theorem dX3_moveStep_47 : decode cX3_moveStep 47 = .ok (.iload 5, 2) := by decide +kernel
theorem dX3_moveStep_49 : decode cX3_moveStep 49 = .ok (.bipush 21, 2) := by decide +kernel
theorem dX3_moveStep_51 : decode cX3_moveStep 51 = .ok (.if_icmp .ne 27, 3) := by decide +kernel
theorem dX3_moveStep_54 : decode cX3_moveStep 54 = .ok (.aload_n 0, 1) := by decide +kernel
theorem dX3_moveStep_55 : decode cX3_moveStep 55 = .ok (.getfield 33, 3) := by decide +kernel
theorem dX3_moveStep_58 : decode cX3_moveStep 58 = .ok (.iload 4, 2) := by decide +kernel
theorem dX3_moveStep_60 : decode cX3_moveStep 60 = .ok (.aload_n 1, 1) := by decide +kernel
theorem dX3_moveStep_61 : decode cX3_moveStep 61 = .ok (.getfield 251, 3) := by decide +kernel
theorem dX3_moveStep_64 : decode cX3_moveStep 64 = .ok (.iload_n 3, 1) := by decide +kernel
theorem dX3_moveStep_65 : decode cX3_moveStep 65 = .ok (.iaload, 1) := by decide +kernel
theorem dX3_moveStep_66 : decode cX3_moveStep 66 = .ok (.iadd, 1) := by decide +kernel
theorem dX3_moveStep_67 : decode cX3_moveStep 67 = .ok (.aload_n 0, 1) := by decide +kernel
theorem dX3_moveStep_68 : decode cX3_moveStep 68 = .ok (.iload_n 2, 1) := by decide +kernel
theorem dX3_moveStep_69 : decode cX3_moveStep 69 = .ok (.iload 6, 2) := by decide +kernel
theorem dX3_moveStep_71 : decode cX3_moveStep 71 = .ok (.invokevirtual 194, 3) := by decide +kernel
theorem dX3_moveStep_74 : decode cX3_moveStep 74 = .ok (.iastore, 1) := by decide +kernel
theorem dX3_moveStep_75 : decode cX3_moveStep 75 = .ok (.goto 164, 3) := by decide +kernel
theorem dX3_moveStep_78 : decode cX3_moveStep 78 = .ok (.iload 5, 2) := by decide +kernel
theorem dX3_moveStep_80 : decode cX3_moveStep 80 = .ok (.bipush 20, 2) := by decide +kernel
theorem dX3_moveStep_82 : decode cX3_moveStep 82 = .ok (.if_icmp .ne 13, 3) := by decide +kernel
theorem dX3_moveStep_85 : decode cX3_moveStep 85 = .ok (.aload_n 0, 1) := by decide +kernel
theorem dX3_moveStep_86 : decode cX3_moveStep 86 = .ok (.iconst 1, 1) := by decide +kernel
theorem dX3_moveStep_87 : decode cX3_moveStep 87 = .ok (.iload 6, 2) := by decide +kernel
theorem dX3_moveStep_89 : decode cX3_moveStep 89 = .ok (.invokevirtual 102, 3) := by decide +kernel
theorem dX3_moveStep_92 : decode cX3_moveStep 92 = .ok (.goto 147, 3) := by decide +kernel
theorem dX3_moveStep_95 : decode cX3_moveStep 95 = .ok (.iload 5, 2) := by decide +kernel
theorem dX3_moveStep_97 : decode cX3_moveStep 97 = .ok (.bipush 17, 2) := by decide +kernel
theorem dX3_moveStep_99 : decode cX3_moveStep 99 = .ok (.if_icmp .ne 34, 3) := by decide +kernel
theorem dX3_moveStep_102 : decode cX3_moveStep 102 = .ok (.aload_n 0, 1) := by decide +kernel
theorem dX3_moveStep_103 : decode cX3_moveStep 103 = .ok (.getfield 33, 3) := by decide +kernel
theorem dX3_moveStep_106 : decode cX3_moveStep 106 = .ok (.iload 4, 2) := by decide +kernel
theorem dX3_moveStep_108 : decode cX3_moveStep 108 = .ok (.aload_n 1, 1) := by decide +kernel
theorem dX3_moveStep_109 : decode cX3_moveStep 109 = .ok (.getfield 251, 3) := by decide +kernel
theorem dX3_moveStep_112 : decode cX3_moveStep 112 = .ok (.iload_n 3, 1) := by decide +kernel
theorem dX3_moveStep_113 : decode cX3_moveStep 113 = .ok (.iaload, 1) := by decide +kernel
theorem dX3_moveStep_114 : decode cX3_moveStep 114 = .ok (.iadd, 1) := by decide +kernel
theorem dX3_moveStep_115 : decode cX3_moveStep 115 = .ok (.aload_n 0, 1) := by decide +kernel
theorem dX3_moveStep_116 : decode cX3_moveStep 116 = .ok (.aload_n 0, 1) := by decide +kernel
theorem dX3_moveStep_117 : decode cX3_moveStep 117 = .ok (.getfield 33, 3) := by decide +kernel
theorem dX3_moveStep_120 : decode cX3_moveStep 120 = .ok (.iload 4, 2) := by decide +kernel
theorem dX3_moveStep_122 : decode cX3_moveStep 122 = .ok (.iload 6, 2) := by decide +kernel
theorem dX3_moveStep_124 : decode cX3_moveStep 124 = .ok (.iadd, 1) := by decide +kernel
theorem dX3_moveStep_125 : decode cX3_moveStep 125 = .ok (.iaload, 1) := by decide +kernel
theorem dX3_moveStep_126 : decode cX3_moveStep 126 = .ok (.invokevirtual 187, 3) := by decide +kernel
theorem dX3_moveStep_129 : decode cX3_moveStep 129 = .ok (.iastore, 1) := by decide +kernel
theorem dX3_moveStep_130 : decode cX3_moveStep 130 = .ok (.goto 109, 3) := by decide +kernel
theorem dX3_moveStep_133 : decode cX3_moveStep 133 = .ok (.iload 5, 2) := by decide +kernel
theorem dX3_moveStep_135 : decode cX3_moveStep 135 = .ok (.bipush 18, 2) := by decide +kernel
theorem dX3_moveStep_137 : decode cX3_moveStep 137 = .ok (.if_icmp .ne 34, 3) := by decide +kernel
theorem dX3_moveStep_140 : decode cX3_moveStep 140 = .ok (.aload_n 0, 1) := by decide +kernel
theorem dX3_moveStep_141 : decode cX3_moveStep 141 = .ok (.aload_n 0, 1) := by decide +kernel
theorem dX3_moveStep_142 : decode cX3_moveStep 142 = .ok (.getfield 33, 3) := by decide +kernel
theorem dX3_moveStep_145 : decode cX3_moveStep 145 = .ok (.iload 4, 2) := by decide +kernel
theorem dX3_moveStep_147 : decode cX3_moveStep 147 = .ok (.iload 6, 2) := by decide +kernel
theorem dX3_moveStep_149 : decode cX3_moveStep 149 = .ok (.iadd, 1) := by decide +kernel
theorem dX3_moveStep_150 : decode cX3_moveStep 150 = .ok (.iaload, 1) := by decide +kernel
theorem dX3_moveStep_151 : decode cX3_moveStep 151 = .ok (.aload_n 0, 1) := by decide +kernel
theorem dX3_moveStep_152 : decode cX3_moveStep 152 = .ok (.getfield 33, 3) := by decide +kernel
theorem dX3_moveStep_155 : decode cX3_moveStep 155 = .ok (.iload 4, 2) := by decide +kernel
theorem dX3_moveStep_157 : decode cX3_moveStep 157 = .ok (.aload_n 1, 1) := by decide +kernel
theorem dX3_moveStep_158 : decode cX3_moveStep 158 = .ok (.getfield 260, 3) := by decide +kernel
theorem dX3_moveStep_161 : decode cX3_moveStep 161 = .ok (.iload_n 3, 1) := by decide +kernel
theorem dX3_moveStep_162 : decode cX3_moveStep 162 = .ok (.iaload, 1) := by decide +kernel
theorem dX3_moveStep_163 : decode cX3_moveStep 163 = .ok (.iadd, 1) := by decide +kernel
theorem dX3_moveStep_164 : decode cX3_moveStep 164 = .ok (.iaload, 1) := by decide +kernel
theorem dX3_moveStep_165 : decode cX3_moveStep 165 = .ok (.invokevirtual 191, 3) := by decide +kernel
theorem dX3_moveStep_168 : decode cX3_moveStep 168 = .ok (.goto 71, 3) := by decide +kernel
theorem dX3_moveStep_171 : decode cX3_moveStep 171 = .ok (.iload 5, 2) := by decide +kernel
theorem dX3_moveStep_173 : decode cX3_moveStep 173 = .ok (.bipush 19, 2) := by decide +kernel
theorem dX3_moveStep_175 : decode cX3_moveStep 175 = .ok (.if_icmp .ne 20, 3) := by decide +kernel
theorem dX3_moveStep_178 : decode cX3_moveStep 178 = .ok (.aload_n 0, 1) := by decide +kernel
theorem dX3_moveStep_179 : decode cX3_moveStep 179 = .ok (.aload_n 0, 1) := by decide +kernel
theorem dX3_moveStep_180 : decode cX3_moveStep 180 = .ok (.getfield 33, 3) := by decide +kernel
theorem dX3_moveStep_183 : decode cX3_moveStep 183 = .ok (.iload 4, 2) := by decide +kernel
theorem dX3_moveStep_185 : decode cX3_moveStep 185 = .ok (.iload 6, 2) := by decide +kernel
theorem dX3_moveStep_187 : decode cX3_moveStep 187 = .ok (.iadd, 1) := by decide +kernel
theorem dX3_moveStep_188 : decode cX3_moveStep 188 = .ok (.iaload, 1) := by decide +kernel
theorem dX3_moveStep_189 : decode cX3_moveStep 189 = .ok (.invokevirtual 99, 3) := by decide +kernel
theorem dX3_moveStep_192 : decode cX3_moveStep 192 = .ok (.goto 47, 3) := by decide +kernel
theorem dX3_moveStep_195 : decode cX3_moveStep 195 = .ok (.aload_n 0, 1) := by decide +kernel
theorem dX3_moveStep_196 : decode cX3_moveStep 196 = .ok (.getfield 33, 3) := by decide +kernel
theorem dX3_moveStep_199 : decode cX3_moveStep 199 = .ok (.iload 4, 2) := by decide +kernel
theorem dX3_moveStep_201 : decode cX3_moveStep 201 = .ok (.aload_n 1, 1) := by decide +kernel
theorem dX3_moveStep_202 : decode cX3_moveStep 202 = .ok (.getfield 251, 3) := by decide +kernel
theorem dX3_moveStep_205 : decode cX3_moveStep 205 = .ok (.iload_n 3, 1) := by decide +kernel
theorem dX3_moveStep_206 : decode cX3_moveStep 206 = .ok (.iaload, 1) := by decide +kernel
theorem dX3_moveStep_207 : decode cX3_moveStep 207 = .ok (.iadd, 1) := by decide +kernel
theorem dX3_moveStep_208 : decode cX3_moveStep 208 = .ok (.aload_n 0, 1) := by decide +kernel
theorem dX3_moveStep_209 : decode cX3_moveStep 209 = .ok (.iload 5, 2) := by decide +kernel
theorem dX3_moveStep_211 : decode cX3_moveStep 211 = .ok (.aload_n 0, 1) := by decide +kernel
theorem dX3_moveStep_212 : decode cX3_moveStep 212 = .ok (.getfield 33, 3) := by decide +kernel
theorem dX3_moveStep_215 : decode cX3_moveStep 215 = .ok (.iload 4, 2) := by decide +kernel
theorem dX3_moveStep_217 : decode cX3_moveStep 217 = .ok (.iload 6, 2) := by decide +kernel
theorem dX3_moveStep_219 : decode cX3_moveStep 219 = .ok (.iadd, 1) := by decide +kernel
theorem dX3_moveStep_220 : decode cX3_moveStep 220 = .ok (.iaload, 1) := by decide +kernel
theorem dX3_moveStep_221 : decode cX3_moveStep 221 = .ok (.aload_n 0, 1) := by decide +kernel
theorem dX3_moveStep_222 : decode cX3_moveStep 222 = .ok (.getfield 33, 3) := by decide +kernel
theorem dX3_moveStep_225 : decode cX3_moveStep 225 = .ok (.iload 4, 2) := by decide +kernel
theorem dX3_moveStep_227 : decode cX3_moveStep 227 = .ok (.aload_n 1, 1) := by decide +kernel
theorem dX3_moveStep_228 : decode cX3_moveStep 228 = .ok (.getfield 260, 3) := by decide +kernel
theorem dX3_moveStep_231 : decode cX3_moveStep 231 = .ok (.iload_n 3, 1) := by decide +kernel
theorem dX3_moveStep_232 : decode cX3_moveStep 232 = .ok (.iaload, 1) := by decide +kernel
theorem dX3_moveStep_233 : decode cX3_moveStep 233 = .ok (.iadd, 1) := by decide +kernel
theorem dX3_moveStep_234 : decode cX3_moveStep 234 = .ok (.iaload, 1) := by decide +kernel
theorem dX3_moveStep_235 : decode cX3_moveStep 235 = .ok (.invokevirtual 171, 3) := by decide +kernel
theorem dX3_moveStep_238 : decode cX3_moveStep 238 = .ok (.iastore, 1) := by decide +kernel
theorem dX3_moveStep_239 : decode cX3_moveStep 239 = .ok (.return_, 1) := by decide +kernel
theorem dX3_moveVariable_0 : decode cX3_moveVariable 0 = .ok (.iload_n 1, 1) := by decide +kernel
theorem dX3_moveVariable_1 : decode cX3_moveVariable 1 = .ok (.sipush 320, 3) := by decide +kernel
theorem dX3_moveVariable_4 : decode cX3_moveVariable 4 = .ok (.imul, 1) := by decide +kernel
theorem dX3_moveVariable_5 : decode cX3_moveVariable 5 = .ok (.istore 4, 2) := by decide +kernel
theorem dX3_moveVariable_7 : decode cX3_moveVariable 7 = .ok (.iload_n 2, 1) := by decide +kernel
theorem dX3_moveVariable_8 : decode cX3_moveVariable 8 = .ok (.tableswitch 213 22 36 #[137, 213, 213, 213, 213, 213, 213, 213, 76, 92, 108, 155, 180, 213, 205], 76) := by decide +kernel
theorem dX3_moveVariable_84 : decode cX3_moveVariable 84 = .ok (.aload_n 0, 1) := by decide +kernel
theorem dX3_moveVariable_85 : decode cX3_moveVariable 85 = .ok (.aload_n 0, 1) := by decide +kernel
theorem dX3_moveVariable_86 : decode cX3_moveVariable 86 = .ok (.getfield 33, 3) := by decide +kernel
theorem dX3_moveVariable_89 : decode cX3_moveVariable 89 = .ok (.iload 4, 2) := by decide +kernel
theorem dX3_moveVariable_91 : decode cX3_moveVariable 91 = .ok (.iload_n 3, 1) := by decide +kernel
theorem dX3_moveVariable_92 : decode cX3_moveVariable 92 = .ok (.iadd, 1) := by decide +kernel
theorem dX3_moveVariable_93 : decode cX3_moveVariable 93 = .ok (.iaload, 1) := by decide +kernel
theorem dX3_moveVariable_94 : decode cX3_moveVariable 94 = .ok (.invokevirtual 99, 3) := by decide +kernel
theorem dX3_moveVariable_97 : decode cX3_moveVariable 97 = .ok (.goto 124, 3) := by decide +kernel
theorem dX3_moveVariable_100 : decode cX3_moveVariable 100 = .ok (.aload_n 0, 1) := by decide +kernel
theorem dX3_moveVariable_101 : decode cX3_moveVariable 101 = .ok (.getfield 33, 3) := by decide +kernel
theorem dX3_moveVariable_104 : decode cX3_moveVariable 104 = .ok (.iload 4, 2) := by decide +kernel
theorem dX3_moveVariable_106 : decode cX3_moveVariable 106 = .ok (.iload_n 3, 1) := by decide +kernel
theorem dX3_moveVariable_107 : decode cX3_moveVariable 107 = .ok (.iadd, 1) := by decide +kernel
theorem dX3_moveVariable_108 : decode cX3_moveVariable 108 = .ok (.aload_n 0, 1) := by decide +kernel
theorem dX3_moveVariable_109 : decode cX3_moveVariable 109 = .ok (.invokevirtual 140, 3) := by decide +kernel
theorem dX3_moveVariable_112 : decode cX3_moveVariable 112 = .ok (.iastore, 1) := by decide +kernel
theorem dX3_moveVariable_113 : decode cX3_moveVariable 113 = .ok (.goto 108, 3) := by decide +kernel
theorem dX3_moveVariable_116 : decode cX3_moveVariable 116 = .ok (.aload_n 0, 1) := by decide +kernel
theorem dX3_moveVariable_117 : decode cX3_moveVariable 117 = .ok (.getfield 33, 3) := by decide +kernel
theorem dX3_moveVariable_120 : decode cX3_moveVariable 120 = .ok (.iload 4, 2) := by decide +kernel
theorem dX3_moveVariable_122 : decode cX3_moveVariable 122 = .ok (.iload_n 3, 1) := by decide +kernel
theorem dX3_moveVariable_123 : decode cX3_moveVariable 123 = .ok (.iadd, 1) := by decide +kernel
theorem dX3_moveVariable_124 : decode cX3_moveVariable 124 = .ok (.aload_n 0, 1) := by decide +kernel
theorem dX3_moveVariable_125 : decode cX3_moveVariable 125 = .ok (.invokevirtual 140, 3) := by decide +kernel
theorem dX3_moveVariable_128 : decode cX3_moveVariable 128 = .ok (.iastore, 1) := by decide +kernel
theorem dX3_moveVariable_129 : decode cX3_moveVariable 129 = .ok (.aload_n 0, 1) := by decide +kernel
theorem dX3_moveVariable_130 : decode cX3_moveVariable 130 = .ok (.aload_n 0, 1) := by decide +kernel
theorem dX3_moveVariable_131 : decode cX3_moveVariable 131 = .ok (.getfield 33, 3) := by decide +kernel
theorem dX3_moveVariable_134 : decode cX3_moveVariable 134 = .ok (.iload 4, 2) := by decide +kernel
theorem dX3_moveVariable_136 : decode cX3_moveVariable 136 = .ok (.iload_n 3, 1) := by decide +kernel
theorem dX3_moveVariable_137 : decode cX3_moveVariable 137 = .ok (.iadd, 1) := by decide +kernel
theorem dX3_moveVariable_138 : decode cX3_moveVariable 138 = .ok (.iaload, 1) := by decide +kernel
theorem dX3_moveVariable_139 : decode cX3_moveVariable 139 = .ok (.invokevirtual 99, 3) := by decide +kernel
theorem dX3_moveVariable_142 : decode cX3_moveVariable 142 = .ok (.goto 79, 3) := by decide +kernel
theorem dX3_moveVariable_145 : decode cX3_moveVariable 145 = .ok (.aload_n 0, 1) := by decide +kernel
theorem dX3_moveVariable_146 : decode cX3_moveVariable 146 = .ok (.getfield 21, 3) := by decide +kernel
theorem dX3_moveVariable_149 : decode cX3_moveVariable 149 = .ok (.iload_n 1, 1) := by decide +kernel
theorem dX3_moveVariable_150 : decode cX3_moveVariable 150 = .ok (.aload_n 0, 1) := by decide +kernel
theorem dX3_moveVariable_151 : decode cX3_moveVariable 151 = .ok (.getfield 42, 3) := by decide +kernel
theorem dX3_moveVariable_154 : decode cX3_moveVariable 154 = .ok (.getfield 184, 3) := by decide +kernel
theorem dX3_moveVariable_157 : decode cX3_moveVariable 157 = .ok (.iload_n 3, 1) := by decide +kernel
theorem dX3_moveVariable_158 : decode cX3_moveVariable 158 = .ok (.iaload, 1) := by decide +kernel
theorem dX3_moveVariable_159 : decode cX3_moveVariable 159 = .ok (.iastore, 1) := by decide +kernel
theorem dX3_moveVariable_160 : decode cX3_moveVariable 160 = .ok (.goto 61, 3) := by decide +kernel
theorem dX3_moveVariable_163 : decode cX3_moveVariable 163 = .ok (.aload_n 0, 1) := by decide +kernel
theorem dX3_moveVariable_164 : decode cX3_moveVariable 164 = .ok (.invokevirtual 140, 3) := by decide +kernel
theorem dX3_moveVariable_167 : decode cX3_moveVariable 167 = .ok (.ifCond .ne 54, 3) := by decide +kernel
theorem dX3_moveVariable_170 : decode cX3_moveVariable 170 = .ok (.aload_n 0, 1) := by decide +kernel
theorem dX3_moveVariable_171 : decode cX3_moveVariable 171 = .ok (.getfield 21, 3) := by decide +kernel
theorem dX3_moveVariable_174 : decode cX3_moveVariable 174 = .ok (.iload_n 1, 1) := by decide +kernel
theorem dX3_moveVariable_175 : decode cX3_moveVariable 175 = .ok (.aload_n 0, 1) := by decide +kernel
theorem dX3_moveVariable_176 : decode cX3_moveVariable 176 = .ok (.getfield 42, 3) := by decide +kernel
theorem dX3_moveVariable_179 : decode cX3_moveVariable 179 = .ok (.getfield 184, 3) := by decide +kernel
theorem dX3_moveVariable_182 : decode cX3_moveVariable 182 = .ok (.iload_n 3, 1) := by decide +kernel
theorem dX3_moveVariable_183 : decode cX3_moveVariable 183 = .ok (.iaload, 1) := by decide +kernel
theorem dX3_moveVariable_184 : decode cX3_moveVariable 184 = .ok (.iastore, 1) := by decide +kernel
theorem dX3_moveVariable_185 : decode cX3_moveVariable 185 = .ok (.goto 36, 3) := by decide +kernel
theorem dX3_moveVariable_188 : decode cX3_moveVariable 188 = .ok (.aload_n 0, 1) := by decide +kernel
theorem dX3_moveVariable_189 : decode cX3_moveVariable 189 = .ok (.invokevirtual 140, 3) := by decide +kernel
theorem dX3_moveVariable_192 : decode cX3_moveVariable 192 = .ok (.ifCond .eq 29, 3) := by decide +kernel
theorem dX3_moveVariable_195 : decode cX3_moveVariable 195 = .ok (.aload_n 0, 1) := by decide +kernel
theorem dX3_moveVariable_196 : decode cX3_moveVariable 196 = .ok (.getfield 21, 3) := by decide +kernel
theorem dX3_moveVariable_199 : decode cX3_moveVariable 199 = .ok (.iload_n 1, 1) := by decide +kernel
theorem dX3_moveVariable_200 : decode cX3_moveVariable 200 = .ok (.aload_n 0, 1) := by decide +kernel
theorem dX3_moveVariable_201 : decode cX3_moveVariable 201 = .ok (.getfield 42, 3) := by decide +kernel
theorem dX3_moveVariable_204 : decode cX3_moveVariable 204 = .ok (.getfield 184, 3) := by decide +kernel
theorem dX3_moveVariable_207 : decode cX3_moveVariable 207 = .ok (.iload_n 3, 1) := by decide +kernel
theorem dX3_moveVariable_208 : decode cX3_moveVariable 208 = .ok (.iaload, 1) := by decide +kernel
theorem dX3_moveVariable_209 : decode cX3_moveVariable 209 = .ok (.iastore, 1) := by decide +kernel
theorem dX3_moveVariable_210 : decode cX3_moveVariable 210 = .ok (.goto 11, 3) := by decide +kernel
theorem dX3_moveVariable_213 : decode cX3_moveVariable 213 = .ok (.aload_n 0, 1) := by decide +kernel
theorem dX3_moveVariable_214 : decode cX3_moveVariable 214 = .ok (.invokevirtual 140, 3) := by decide +kernel
theorem dX3_moveVariable_217 : decode cX3_moveVariable 217 = .ok (.pop, 1) := by decide +kernel
theorem dX3_moveVariable_218 : decode cX3_moveVariable 218 = .ok (.goto 3, 3) := by decide +kernel
theorem dX3_moveVariable_221 : decode cX3_moveVariable 221 = .ok (.return_, 1) := by decide +kernel
theorem dX3_moveWord_0 : decode cX3_moveWord 0 = .ok (.iload_n 2, 1) := by decide +kernel
theorem dX3_moveWord_1 : decode cX3_moveWord 1 = .ok (.lookupswitch 155 #[(0, 59), (17, 67), (18, 82), (20, 122), (21, 101), (24, 131)], 59) := by decide +kernel
theorem dX3_moveWord_60 : decode cX3_moveWord 60 = .ok (.aload_n 0, 1) := by decide +kernel
theorem dX3_moveWord_61 : decode cX3_moveWord 61 = .ok (.iload_n 3, 1) := by decide +kernel
theorem dX3_moveWord_62 : decode cX3_moveWord 62 = .ok (.invokevirtual 99, 3) := by decide +kernel
theorem dX3_moveWord_65 : decode cX3_moveWord 65 = .ok (.goto 91, 3) := by decide +kernel
theorem dX3_moveWord_68 : decode cX3_moveWord 68 = .ok (.aload_n 0, 1) := by decide +kernel
theorem dX3_moveWord_69 : decode cX3_moveWord 69 = .ok (.aload_n 0, 1) := by decide +kernel
theorem dX3_moveWord_70 : decode cX3_moveWord 70 = .ok (.aload_n 0, 1) := by decide +kernel
theorem dX3_moveWord_71 : decode cX3_moveWord 71 = .ok (.invokevirtual 140, 3) := by decide +kernel
theorem dX3_moveWord_74 : decode cX3_moveWord 74 = .ok (.invokevirtual 187, 3) := by decide +kernel
theorem dX3_moveWord_77 : decode cX3_moveWord 77 = .ok (.invokevirtual 99, 3) := by decide +kernel
theorem dX3_moveWord_80 : decode cX3_moveWord 80 = .ok (.goto 76, 3) := by decide +kernel
theorem dX3_moveWord_83 : decode cX3_moveWord 83 = .ok (.aload_n 0, 1) := by decide +kernel
theorem dX3_moveWord_84 : decode cX3_moveWord 84 = .ok (.invokevirtual 140, 3) := by decide +kernel
theorem dX3_moveWord_87 : decode cX3_moveWord 87 = .ok (.istore 4, 2) := by decide +kernel
theorem dX3_moveWord_89 : decode cX3_moveWord 89 = .ok (.aload_n 0, 1) := by decide +kernel
theorem dX3_moveWord_90 : decode cX3_moveWord 90 = .ok (.aload_n 0, 1) := by decide +kernel
theorem dX3_moveWord_91 : decode cX3_moveWord 91 = .ok (.invokevirtual 140, 3) := by decide +kernel
theorem dX3_moveWord_94 : decode cX3_moveWord 94 = .ok (.iload 4, 2) := by decide +kernel
theorem dX3_moveWord_96 : decode cX3_moveWord 96 = .ok (.invokevirtual 191, 3) := by decide +kernel
theorem dX3_moveWord_99 : decode cX3_moveWord 99 = .ok (.goto 57, 3) := by decide +kernel
theorem dX3_moveWord_102 : decode cX3_moveWord 102 = .ok (.aload_n 0, 1) := by decide +kernel
theorem dX3_moveWord_103 : decode cX3_moveWord 103 = .ok (.getfield 33, 3) := by decide +kernel
theorem dX3_moveWord_106 : decode cX3_moveWord 106 = .ok (.iload_n 1, 1) := by decide +kernel
theorem dX3_moveWord_107 : decode cX3_moveWord 107 = .ok (.sipush 320, 3) := by decide +kernel
theorem dX3_moveWord_110 : decode cX3_moveWord 110 = .ok (.imul, 1) := by decide +kernel
theorem dX3_moveWord_111 : decode cX3_moveWord 111 = .ok (.iload_n 3, 1) := by decide +kernel
theorem dX3_moveWord_112 : decode cX3_moveWord 112 = .ok (.iadd, 1) := by decide +kernel
theorem dX3_moveWord_113 : decode cX3_moveWord 113 = .ok (.aload_n 0, 1) := by decide +kernel
theorem dX3_moveWord_114 : decode cX3_moveWord 114 = .ok (.iload_n 1, 1) := by decide +kernel
theorem dX3_moveWord_115 : decode cX3_moveWord 115 = .ok (.iload_n 3, 1) := by decide +kernel
theorem dX3_moveWord_116 : decode cX3_moveWord 116 = .ok (.invokevirtual 194, 3) := by decide +kernel
theorem dX3_moveWord_119 : decode cX3_moveWord 119 = .ok (.iastore, 1) := by decide +kernel
theorem dX3_moveWord_120 : decode cX3_moveWord 120 = .ok (.goto 36, 3) := by decide +kernel
theorem dX3_moveWord_123 : decode cX3_moveWord 123 = .ok (.aload_n 0, 1) := by decide +kernel
theorem dX3_moveWord_124 : decode cX3_moveWord 124 = .ok (.iconst 0, 1) := by decide +kernel
theorem dX3_moveWord_125 : decode cX3_moveWord 125 = .ok (.iload_n 3, 1) := by decide +kernel
theorem dX3_moveWord_126 : decode cX3_moveWord 126 = .ok (.invokevirtual 102, 3) := by decide +kernel
theorem dX3_moveWord_129 : decode cX3_moveWord 129 = .ok (.goto 27, 3) := by decide +kernel
theorem dX3_moveWord_132 : decode cX3_moveWord 132 = .ok (.aload_n 0, 1) := by decide +kernel
theorem dX3_moveWord_133 : decode cX3_moveWord 133 = .ok (.invokevirtual 140, 3) := by decide +kernel
theorem dX3_moveWord_136 : decode cX3_moveWord 136 = .ok (.istore 5, 2) := by decide +kernel
theorem dX3_moveWord_138 : decode cX3_moveWord 138 = .ok (.aload_n 0, 1) := by decide +kernel
theorem dX3_moveWord_139 : decode cX3_moveWord 139 = .ok (.iload 5, 2) := by decide +kernel
theorem dX3_moveWord_141 : decode cX3_moveWord 141 = .ok (.invokevirtual 197, 3) := by decide +kernel
theorem dX3_moveWord_144 : decode cX3_moveWord 144 = .ok (.ifCond .eq 12, 3) := by decide +kernel
theorem dX3_moveWord_147 : decode cX3_moveWord 147 = .ok (.aload_n 0, 1) := by decide +kernel
theorem dX3_moveWord_148 : decode cX3_moveWord 148 = .ok (.iload 5, 2) := by decide +kernel
theorem dX3_moveWord_150 : decode cX3_moveWord 150 = .ok (.invokevirtual 99, 3) := by decide +kernel
theorem dX3_moveWord_153 : decode cX3_moveWord 153 = .ok (.goto 3, 3) := by decide +kernel
theorem dX3_moveWord_156 : decode cX3_moveWord 156 = .ok (.return_, 1) := by decide +kernel
theorem dX3_operate_0 : decode cX3_operate 0 = .ok (.iload_n 1, 1) := by decide +kernel
theorem dX3_operate_1 : decode cX3_operate 1 = .ok (.iload_n 3, 1) := by decide +kernel
theorem dX3_operate_2 : decode cX3_operate 2 = .ok (.invokestatic 150, 3) := by decide +kernel
theorem dX3_operate_5 : decode cX3_operate 5 = .ok (.ifCond .eq 10, 3) := by decide +kernel
theorem dX3_operate_8 : decode cX3_operate 8 = .ok (.aload_n 0, 1) := by decide +kernel
theorem dX3_operate_9 : decode cX3_operate 9 = .ok (.iconst 1, 1) := by decide +kernel
theorem dX3_operate_10 : decode cX3_operate 10 = .ok (.invokevirtual 137, 3) := by decide +kernel
theorem dX3_operate_13 : decode cX3_operate 13 = .ok (.iconst 0, 1) := by decide +kernel
theorem dX3_operate_14 : decode cX3_operate 14 = .ok (.ireturn, 1) := by decide +kernel
theorem dX3_operate_15 : decode cX3_operate 15 = .ok (.iload_n 1, 1) := by decide +kernel
theorem dX3_operate_16 : decode cX3_operate 16 = .ok (.iload_n 2, 1) := by decide +kernel
theorem dX3_operate_17 : decode cX3_operate 17 = .ok (.iload_n 3, 1) := by decide +kernel
theorem dX3_operate_18 : decode cX3_operate 18 = .ok (.invokestatic 154, 3) := by decide +kernel
theorem dX3_operate_21 : decode cX3_operate 21 = .ok (.ireturn, 1) := by decide +kernel
theorem dX3_push_0 : decode cX3_push 0 = .ok (.aload_n 0, 1) := by decide +kernel
theorem dX3_push_1 : decode cX3_push 1 = .ok (.getfield 87, 3) := by decide +kernel
theorem dX3_push_4 : decode cX3_push 4 = .ok (.sipush 512, 3) := by decide +kernel
theorem dX3_push_7 : decode cX3_push 7 = .ok (.if_icmp .ge 23, 3) := by decide +kernel
theorem dX3_push_10 : decode cX3_push 10 = .ok (.aload_n 0, 1) := by decide +kernel
theorem dX3_push_11 : decode cX3_push 11 = .ok (.getfield 39, 3) := by decide +kernel
theorem dX3_push_14 : decode cX3_push 14 = .ok (.aload_n 0, 1) := by decide +kernel
theorem dX3_push_15 : decode cX3_push 15 = .ok (.getfield 87, 3) := by decide +kernel
theorem dX3_push_18 : decode cX3_push 18 = .ok (.iload_n 1, 1) := by decide +kernel
theorem dX3_push_19 : decode cX3_push 19 = .ok (.iastore, 1) := by decide +kernel
theorem dX3_push_20 : decode cX3_push 20 = .ok (.aload_n 0, 1) := by decide +kernel
theorem dX3_push_21 : decode cX3_push 21 = .ok (.dup, 1) := by decide +kernel
theorem dX3_push_22 : decode cX3_push 22 = .ok (.getfield 87, 3) := by decide +kernel
theorem dX3_push_25 : decode cX3_push 25 = .ok (.iconst 1, 1) := by decide +kernel
theorem dX3_push_26 : decode cX3_push 26 = .ok (.iadd, 1) := by decide +kernel
theorem dX3_push_27 : decode cX3_push 27 = .ok (.putfield 87, 3) := by decide +kernel
theorem dX3_push_30 : decode cX3_push 30 = .ok (.return_, 1) := by decide +kernel
theorem dX3_readWord_0 : decode cX3_readWord 0 = .ok (.aload_n 0, 1) := by decide +kernel
theorem dX3_readWord_1 : decode cX3_readWord 1 = .ok (.getfield 9, 3) := by decide +kernel
theorem dX3_readWord_4 : decode cX3_readWord 4 = .ok (.iload_n 1, 1) := by decide +kernel
theorem dX3_readWord_5 : decode cX3_readWord 5 = .ok (.bipush 15, 2) := by decide +kernel
theorem dX3_readWord_7 : decode cX3_readWord 7 = .ok (.iand, 1) := by decide +kernel
theorem dX3_readWord_8 : decode cX3_readWord 8 = .ok (.iaload, 1) := by decide +kernel
theorem dX3_readWord_9 : decode cX3_readWord 9 = .ok (.ireturn, 1) := by decide +kernel
theorem dX3_save_0 : decode cX3_save 0 = .ok (.aload_n 1, 1) := by decide +kernel
theorem dX3_save_1 : decode cX3_save 1 = .ok (.iconst 0, 1) := by decide +kernel
theorem dX3_save_2 : decode cX3_save 2 = .ok (.aload_n 0, 1) := by decide +kernel
theorem dX3_save_3 : decode cX3_save 3 = .ok (.getfield 54, 3) := by decide +kernel
theorem dX3_save_6 : decode cX3_save 6 = .ok (.iastore, 1) := by decide +kernel
theorem dX3_save_7 : decode cX3_save 7 = .ok (.aload_n 1, 1) := by decide +kernel
theorem dX3_save_8 : decode cX3_save 8 = .ok (.iconst 1, 1) := by decide +kernel
theorem dX3_save_9 : decode cX3_save 9 = .ok (.aload_n 0, 1) := by decide +kernel
theorem dX3_save_10 : decode cX3_save 10 = .ok (.getfield 58, 3) := by decide +kernel
theorem dX3_save_13 : decode cX3_save 13 = .ok (.iastore, 1) := by decide +kernel
theorem dX3_save_14 : decode cX3_save 14 = .ok (.aload_n 1, 1) := by decide +kernel
theorem dX3_save_15 : decode cX3_save 15 = .ok (.iconst 2, 1) := by decide +kernel
theorem dX3_save_16 : decode cX3_save 16 = .ok (.aload_n 0, 1) := by decide +kernel
theorem dX3_save_17 : decode cX3_save 17 = .ok (.getfield 61, 3) := by decide +kernel
theorem dX3_save_20 : decode cX3_save 20 = .ok (.iastore, 1) := by decide +kernel
theorem dX3_save_21 : decode cX3_save 21 = .ok (.aload_n 0, 1) := by decide +kernel
theorem dX3_save_22 : decode cX3_save 22 = .ok (.getfield 9, 3) := by decide +kernel
theorem dX3_save_25 : decode cX3_save 25 = .ok (.iconst 0, 1) := by decide +kernel
theorem dX3_save_26 : decode cX3_save 26 = .ok (.aload_n 1, 1) := by decide +kernel
theorem dX3_save_27 : decode cX3_save 27 = .ok (.iconst 3, 1) := by decide +kernel
theorem dX3_save_28 : decode cX3_save 28 = .ok (.bipush 16, 2) := by decide +kernel
theorem dX3_save_30 : decode cX3_save 30 = .ok (.invokestatic 70, 3) := by decide +kernel
theorem dX3_save_33 : decode cX3_save 33 = .ok (.return_, 1) := by decide +kernel
theorem dX3_tell_0 : decode cX3_tell 0 = .ok (.aload_n 0, 1) := by decide +kernel
theorem dX3_tell_1 : decode cX3_tell 1 = .ok (.getfield 15, 3) := by decide +kernel
theorem dX3_tell_4 : decode cX3_tell 4 = .ok (.iconst 0, 1) := by decide +kernel
theorem dX3_tell_5 : decode cX3_tell 5 = .ok (.iload_n 1, 1) := by decide +kernel
theorem dX3_tell_6 : decode cX3_tell 6 = .ok (.iastore, 1) := by decide +kernel
theorem dX3_tell_7 : decode cX3_tell 7 = .ok (.aload_n 0, 1) := by decide +kernel
theorem dX3_tell_8 : decode cX3_tell 8 = .ok (.getfield 15, 3) := by decide +kernel
theorem dX3_tell_11 : decode cX3_tell 11 = .ok (.iconst 1, 1) := by decide +kernel
theorem dX3_tell_12 : decode cX3_tell 12 = .ok (.iload_n 2, 1) := by decide +kernel
theorem dX3_tell_13 : decode cX3_tell 13 = .ok (.iastore, 1) := by decide +kernel
theorem dX3_tell_14 : decode cX3_tell 14 = .ok (.aload_n 0, 1) := by decide +kernel
theorem dX3_tell_15 : decode cX3_tell 15 = .ok (.getfield 15, 3) := by decide +kernel
theorem dX3_tell_18 : decode cX3_tell 18 = .ok (.iconst 2, 1) := by decide +kernel
theorem dX3_tell_19 : decode cX3_tell 19 = .ok (.iload_n 3, 1) := by decide +kernel
theorem dX3_tell_20 : decode cX3_tell 20 = .ok (.iastore, 1) := by decide +kernel
theorem dX3_tell_21 : decode cX3_tell 21 = .ok (.aload_n 0, 1) := by decide +kernel
theorem dX3_tell_22 : decode cX3_tell 22 = .ok (.getfield 15, 3) := by decide +kernel
theorem dX3_tell_25 : decode cX3_tell 25 = .ok (.iconst 3, 1) := by decide +kernel
theorem dX3_tell_26 : decode cX3_tell 26 = .ok (.iload 4, 2) := by decide +kernel
theorem dX3_tell_28 : decode cX3_tell 28 = .ok (.iastore, 1) := by decide +kernel
theorem dX3_tell_29 : decode cX3_tell 29 = .ok (.return_, 1) := by decide +kernel
theorem dX3_writeWord_0 : decode cX3_writeWord 0 = .ok (.aload_n 0, 1) := by decide +kernel
theorem dX3_writeWord_1 : decode cX3_writeWord 1 = .ok (.getfield 9, 3) := by decide +kernel
theorem dX3_writeWord_4 : decode cX3_writeWord 4 = .ok (.iload_n 1, 1) := by decide +kernel
theorem dX3_writeWord_5 : decode cX3_writeWord 5 = .ok (.bipush 15, 2) := by decide +kernel
theorem dX3_writeWord_7 : decode cX3_writeWord 7 = .ok (.iand, 1) := by decide +kernel
theorem dX3_writeWord_8 : decode cX3_writeWord 8 = .ok (.iload_n 2, 1) := by decide +kernel
theorem dX3_writeWord_9 : decode cX3_writeWord 9 = .ok (.iastore, 1) := by decide +kernel
theorem dX3_writeWord_10 : decode cX3_writeWord 10 = .ok (.return_, 1) := by decide +kernel
theorem qw893 : Cond.code yX3_close cX3_close 2 (Option.some Jvm.ClassFile.FieldType.boolean) ∈ gw := mq_9 (i := 236) rfl rfl
theorem qw894 : Cond.methodLink RX3 197 yX3_close ∈ gw := mq_9 (i := 233) rfl rfl
theorem qw895 : Cond.instanceMethod yX3_close ∈ gw := mq_9 (i := 235) rfl rfl
theorem qw896 : Cond.selects RX3 yX3_close yX3_close ∈ gw := mk_s (i := 96) rfl rfl
theorem qw922 : Cond.fieldLink RX3 207 "Gearbox$Flow" "steps" "LGearbox$Steps;" ∈ gw := mq_1 (i := 224) rfl rfl
theorem qw923 : Cond.fieldLink RX3 212 "Gearbox$Steps" "next" "[I" ∈ gw := mq_1 (i := 194) rfl rfl
theorem qw924 : Cond.fieldLink RX3 251 "Gearbox$Steps" "gives" "[I" ∈ gw := mq_1 (i := 173) rfl rfl
theorem qw925 : Cond.fieldLink RX3 119 "Gearbox$Program" "functions" "I" ∈ gw := mq_3 (i := 154) rfl rfl
theorem qw926 : Cond.fieldLink RX3 50 "Gearbox$Machine" "allocator" "LGearbox$Allocator;" ∈ gw := mq_3 (i := 232) rfl rfl
theorem qw927 : Cond.fieldLink RX3 122 "Gearbox$Allocator" "slotCounts" "[I" ∈ gw := mq_3 (i := 91) rfl rfl
theorem qw928 : Cond.methodLink RX3 127 yJ9_max_7cf53 ∈ gw := mq_9 (i := 178) rfl rfl
theorem qw930 : Cond.fieldLink RX3 158 "Gearbox$Program" "ticks" "[I" ∈ gw := mq_3 (i := 185) rfl rfl
theorem qw931 : Cond.fieldLink RX3 165 "Gearbox$Program" "op" "[I" ∈ gw := mq_3 (i := 179) rfl rfl
theorem qw932 : Cond.fieldLink RX3 174 "Gearbox$Program" "argument" "[I" ∈ gw := mq_3 (i := 183) rfl rfl
theorem qw933 : Cond.fieldLink RX3 184 "Gearbox$Program" "labelAt" "[I" ∈ gw := mq_3 (i := 188) rfl rfl
theorem qw934 : Cond.code yX3_push cX3_push 2 (Option.none : Option Jvm.ClassFile.FieldType) ∈ gw := mq_9 (i := 183) rfl rfl
theorem qw935 : Cond.methodLink RX3 99 yX3_push ∈ gw := mq_9 (i := 180) rfl rfl
theorem qw936 : Cond.instanceMethod yX3_push ∈ gw := mq_9 (i := 182) rfl rfl
theorem qw937 : Cond.selects RX3 yX3_push yX3_push ∈ gw := mk_s (i := 99) rfl rfl
theorem qw938 : Cond.code yX3_moveVariable cX3_moveVariable 5 (Option.none : Option Jvm.ClassFile.FieldType) ∈ gw := mq_9 (i := 216) rfl rfl
theorem qw939 : Cond.methodLink RX3 177 yX3_moveVariable ∈ gw := mq_9 (i := 213) rfl rfl
theorem qw940 : Cond.instanceMethod yX3_moveVariable ∈ gw := mq_9 (i := 215) rfl rfl
theorem qw941 : Cond.selects RX3 yX3_moveVariable yX3_moveVariable ∈ gw := mk_s (i := 100) rfl rfl
theorem qw942 : Cond.code yX3_readWord cX3_readWord 2 (Option.some Jvm.ClassFile.FieldType.int) ∈ gw := mq_9 (i := 224) rfl rfl
theorem qw943 : Cond.methodLink RX3 187 yX3_readWord ∈ gw := mq_9 (i := 221) rfl rfl
theorem qw944 : Cond.instanceMethod yX3_readWord ∈ gw := mq_9 (i := 223) rfl rfl
theorem qw945 : Cond.selects RX3 yX3_readWord yX3_readWord ∈ gw := mk_s (i := 101) rfl rfl
theorem qw946 : Cond.code yX3_writeWord cX3_writeWord 3 (Option.none : Option Jvm.ClassFile.FieldType) ∈ gw := mq_9 (i := 228) rfl rfl
theorem qw947 : Cond.methodLink RX3 191 yX3_writeWord ∈ gw := mq_9 (i := 225) rfl rfl
theorem qw948 : Cond.instanceMethod yX3_writeWord ∈ gw := mq_9 (i := 227) rfl rfl
theorem qw949 : Cond.selects RX3 yX3_writeWord yX3_writeWord ∈ gw := mk_s (i := 102) rfl rfl
theorem qw950 : Cond.code yX3_enter cX3_enter 6 (Option.none : Option Jvm.ClassFile.FieldType) ∈ gw := mq_9 (i := 187) rfl rfl
theorem qw951 : Cond.methodLink RX3 102 yX3_enter ∈ gw := mq_9 (i := 184) rfl rfl
theorem qw952 : Cond.instanceMethod yX3_enter ∈ gw := mq_9 (i := 186) rfl rfl
theorem qw953 : Cond.selects RX3 yX3_enter yX3_enter ∈ gw := mk_s (i := 103) rfl rfl
theorem qw954 : Cond.code yX3_argumentOf cX3_argumentOf 3 (Option.some Jvm.ClassFile.FieldType.int) ∈ gw := mq_9 (i := 232) rfl rfl
theorem qw955 : Cond.methodLink RX3 194 yX3_argumentOf ∈ gw := mq_9 (i := 229) rfl rfl
theorem qw956 : Cond.instanceMethod yX3_argumentOf ∈ gw := mq_9 (i := 231) rfl rfl
theorem qw957 : Cond.selects RX3 yX3_argumentOf yX3_argumentOf ∈ gw := mk_s (i := 104) rfl rfl
theorem qw958 : Cond.code yX3_moveWord cX3_moveWord 6 (Option.none : Option Jvm.ClassFile.FieldType) ∈ gw := mq_9 (i := 220) rfl rfl
theorem qw959 : Cond.methodLink RX3 181 yX3_moveWord ∈ gw := mq_9 (i := 217) rfl rfl
theorem qw960 : Cond.instanceMethod yX3_moveWord ∈ gw := mq_9 (i := 219) rfl rfl
theorem qw961 : Cond.selects RX3 yX3_moveWord yX3_moveWord ∈ gw := mk_s (i := 105) rfl rfl
theorem qw962 : Cond.code yX3_operate cX3_operate 4 (Option.some Jvm.ClassFile.FieldType.int) ∈ gw := mq_9 (i := 210) rfl rfl
theorem qw963 : Cond.methodLink RX3 171 yX3_operate ∈ gw := mq_9 (i := 207) rfl rfl
theorem qw964 : Cond.instanceMethod yX3_operate ∈ gw := mq_9 (i := 209) rfl rfl
theorem qw965 : Cond.selects RX3 yX3_operate yX3_operate ∈ gw := mk_s (i := 106) rfl rfl
theorem qw966 : Cond.fieldLink RX3 254 "Gearbox$Steps" "kind" "[I" ∈ gw := mq_1 (i := 166) rfl rfl
theorem qw967 : Cond.fieldLink RX3 257 "Gearbox$Steps" "left" "[I" ∈ gw := mq_1 (i := 180) rfl rfl
theorem qw968 : Cond.fieldLink RX3 260 "Gearbox$Steps" "right" "[I" ∈ gw := mq_1 (i := 187) rfl rfl
theorem qw969 : Cond.code yX3_moveStep cX3_moveStep 7 (Option.none : Option Jvm.ClassFile.FieldType) ∈ gw := mq_10 (i := 17) rfl rfl
theorem qw970 : Cond.methodLink RX3 217 yX3_moveStep ∈ gw := mq_10 (i := 14) rfl rfl
theorem qw971 : Cond.instanceMethod yX3_moveStep ∈ gw := mq_10 (i := 16) rfl rfl
theorem qw972 : Cond.selects RX3 yX3_moveStep yX3_moveStep ∈ gw := mk_s (i := 107) rfl rfl
theorem qw973 : Cond.fieldLink RX3 15 "Gearbox$Machine" "told" "[I" ∈ gw := mq_3 (i := 233) rfl rfl
theorem qw974 : Cond.fieldLink RX11 61 "Gearbox" "program" "LGearbox$Program;" ∈ gw := mq_4 (i := 57) rfl rfl
theorem qw975 : Cond.fieldLink RX11 112 "Gearbox$Program" "functions" "I" ∈ gw := mq_3 (i := 153) rfl rfl
theorem qw992 : Cond.constantLong RX11 323 (31) ∈ gw := mq_10 (i := 66) rfl rfl
theorem qw998 : Cond.fieldLink RX11 159 "Gearbox$Flow" "dominator" "[I" ∈ gw := mq_2 (i := 39) rfl rfl
theorem qw999 : Cond.fieldLink RX11 162 "Gearbox$Flow" "depth" "[I" ∈ gw := mq_2 (i := 43) rfl rfl
theorem qw1000 : Cond.methodLink RX11 188 yX1_countPhis ∈ gw := mq_10 (i := 79) rfl rfl
theorem qw1001 : Cond.code yX1_countSteps cX1_countSteps 4 (Option.some Jvm.ClassFile.FieldType.int) ∈ gw := mq_10 (i := 83) rfl rfl
theorem qw1002 : Cond.methodLink RX11 203 yX1_countSteps ∈ gw := mq_10 (i := 80) rfl rfl
theorem qw1003 : Cond.instanceMethod yX1_countSteps ∈ gw := mq_10 (i := 81) rfl rfl
theorem qw1004 : Cond.selects RX1 yX1_countSteps yX1_countSteps ∈ gw := mq_10 (i := 82) rfl rfl
theorem qw1005 : Cond.fieldLink RX11 176 "Gearbox$Flow" "end" "[I" ∈ gw := mq_2 (i := 10) rfl rfl
theorem qw1006 : Cond.fieldLink RX11 185 "Gearbox$Flow" "endValue" "[I" ∈ gw := mq_2 (i := 18) rfl rfl
theorem qw1007 : Cond.fieldLink RX11 182 "Gearbox$Flow" "first" "[I" ∈ gw := mq_2 (i := 26) rfl rfl
theorem qw1008 : Cond.fieldLink RX11 179 "Gearbox$Flow" "second" "[I" ∈ gw := mq_2 (i := 34) rfl rfl
theorem qw1009 : Cond.methodLink RX11 165 yX1_waysTo ∈ gw := mq_10 (i := 84) rfl rfl
theorem qw1010 : Cond.methodLink RX11 172 yX1_wayFrom ∈ gw := mq_10 (i := 85) rfl rfl
def fX3_giveBack_L23 (p0w : ST) (p1_2n : Nat → Nat) (p1_2w : ST) : Nat → Int32 → Int32 → Option Int32
  | 0 => fun _ _ => none
  | n_23 + 1 => fun v4_23 v5_23 => (if v5_23 < 0 then some v4_23 else (if ixb ((p0w 0 9) - 1) 8 = true then (if v5_23 = (p0w 12 (nn ((p0w 0 9) - 1))) then some v4_23 else (if ixb v5_23 (p1_2n 6) = true then ((fX3_giveBack_L23 p0w p1_2n p1_2w n_23) v5_23 (p1_2w 6 (nn v5_23))) else none)) else none))
def fX3_giveBack_J85 (p0w_85 : ST) : Option ST := some p0w_85
def fX3_giveBack (p0w : ST) (p1w : ST) (p2 : Int32) (p1_2n : Nat → Nat) (p1_2w : ST) : Option ST := (if ixb ((p0w 0 9) - 1) 8 = true then (if ixb (p0w 13 (nn ((p0w 0 9) - 1))) 60 = true then ((fX3_giveBack_L23 p0w p1_2n p1_2w NF (-1) (p1w 4 (nn (p0w 13 (nn ((p0w 0 9) - 1)))))).bind fun (o23 : Int32) => (if o23 < 0 then (fX3_giveBack_J85 p0w) else (if ixb o23 (p1_2n 3) = true then (if ixb ((((p0w 0 9) - 1) * 320) + (p1_2w 3 (nn o23))) 2560 = true then (lt9 (upw p0w 16 (nn ((((p0w 0 9) - 1) * 320) + (p1_2w 3 (nn o23)))) p2) fun (w10 : ST) => (fX3_giveBack_J85 w10)) else none) else none))) else none) else none)
set_option maxHeartbeats 16000000 in
set_option maxRecDepth 100000 in
theorem kX3_giveBack {zs : Nat × Nat} (l : Launch) (dC : Nat → ClassId) (dI : Nat → Nat → Nat) (p0a : Nat → Nat) (p0k : Nat → ClassId) (p0n : Nat → Nat) (p0w : ST) (p1a : Nat → Nat) (p1k : Nat → ClassId) (p1n : Nat → Nat) (p1w : ST) (p1l : SL) (p2 : Int32) (p1_2a : Nat → Nat) (p1_2k : Nat → ClassId) (p1_2n : Nat → Nat) (p1_2w : ST) (sz : Nat) (o : ST) (hrun : fX3_giveBack p0w p1w p2 p1_2n p1_2w = some o) : Met l yX3_giveBack (wz yX3_giveBack cX3_giveBack 6 (Option.none : Option Jvm.ClassFile.FieldType)) ({ frames := 0, cells := 0, slots := 0, locals := 0 } : Room) (va_Pc [.ref (p0a 0), .ref (p1a 0), .int p2] (PRE zs dC dI ((oX3 (p0a 0) p0a p0k p0n p0w) ++ (oX1 (p1a 0) p1a p1k p1n p1w p1l) ++ (oX9 (p1a 3) p1_2a p1_2k p1_2n p1_2w)) ((tX3 p0k) ++ (tX1 p1k) ++ (tX9 p1_2k)) sz)) (va_Qv (fun (_ : Unit) => True) (fun _ t => POST dC dI ((oX3 (p0a 0) p0a p0k p0n o) ++ (oX1 (p1a 0) p1a p1k p1n p1w p1l) ++ (oX9 (p1a 3) p1_2a p1_2k p1_2n p1_2w)) ((tX3 p0k) ++ (tX1 p1k) ++ (tX9 p1_2k)) (va_A ((oX3 (p0a 0) p0a p0k p0n p0w) ++ (oX1 (p1a 0) p1a p1k p1n p1w p1l) ++ (oX9 (p1a 3) p1_2a p1_2k p1_2n p1_2w)) sz) t) (va_A ((oX3 (p0a 0) p0a p0k p0n p0w) ++ (oX1 (p1a 0) p1a p1k p1n p1w p1l) ++ (oX9 (p1a 3) p1_2a p1_2k p1_2n p1_2w)) sz)) 0 0 (va_A ((oX3 (p0a 0) p0a p0k p0n p0w) ++ (oX1 (p1a 0) p1a p1k p1n p1w p1l) ++ (oX9 (p1a 3) p1_2a p1_2k p1_2n p1_2w)) sz) := by
  refine Met.ofW (cc := cX3_giveBack) (maxL := 6) (ret := (Option.none : Option Jvm.ClassFile.FieldType)) (by decide) rfl ?_
  intro p e s m args below meth c s₁ B hml hv
  obtain ⟨rfl, hsz, hP, hK, hD0, hE⟩ := hv
  have hx := B.exec
  have hb := B.bytes
  have hr := B.returns
  have hts0 := atoms_spec (ws := wz yX3_giveBack cX3_giveBack 6 (Option.none : Option Jvm.ClassFile.FieldType)) B.pre
  have hts : ∀ w ∈ gw, w.before _ s = true := fun w h => hts0 w (List.mem_cons_of_mem _ h)
  have hown : s.vm.findClass RX3 = some m.cls := findClass_of_methodNamed B.named
  have hlocks := B.notSynchronized
  subst hsz
  have hD := hD0.self (sz := s.heap.size)
  refine gQ9 ?_
  intro Q hQ
  generalize hAe : va_A ((oX3 (p0a 0) p0a p0k p0n p0w) ++ (oX1 (p1a 0) p1a p1k p1n p1w p1l) ++ (oX9 (p1a 3) p1_2a p1_2k p1_2n p1_2w)) s.heap.size = A at hD hE hQ
  have hA : ∀ q : Nat, s.heap.size ≤ q → A q := fun q h => by rw [← hAe]; exact Or.inr h
  have hS : va_S A s.heap s.heap [] := va_S.rf
  have hP : va_P (dC, dI) cls ((oX3 (p0a 0) p0a p0k p0n p0w) ++ (oX1 (p1a 0) p1a p1k p1n p1w p1l) ++ (oX9 (p1a 3) p1_2a p1_2k p1_2n p1_2w)) s.heap := hP
  have hl := lv_entry ([.ref (p0a 0), .ref (p1a 0), .int p2]) (n := 6) (Nat.le_of_ble_eq_true rfl)
  rw [lg_entry_eq]
  generalize (lg_sl ([.ref (p0a 0), .ref (p1a 0), .int p2]) ++ List.replicate (6 - (lg_sl ([.ref (p0a 0), .ref (p1a 0), .int p2])).length) Slot.unset).toArray = ls at hl ⊢
  have hl : lv_has ls 6 [(0, .ref (p0a 0)), (1, .ref (p1a 0)), (2, .int p2)] := hl
  obtain ⟨H, hHe⟩ : ∃ H, H = s.heap := ⟨_, rfl⟩
  obtain ⟨locs, hle⟩ : ∃ locs : List Loc, locs = [] := ⟨_, rfl⟩
  rw [← hHe] at hP
  have hS : va_S A s.heap H locs := by rw [hHe, hle]; exact hS
  show W p l e ({ frames := 0, cells := 0, slots := 0, locals := 0 } : Room) s m ([.ref (p0a 0), .ref (p1a 0), .int p2] : List Value).toArray below meth c s.heap [] 0 0 Q (F0 m 0 ls [])
  rw [← hle]
  refine wH9 hHe ?_
  unfold fX3_giveBack at hrun
  refine lv_aload_n hx hb dX3_giveBack_0 rfl (lv_at hl 0 rfl) ?_
  refine va_get (D := (dC, dI)) (ci := 10) (v := .int (p0w 0 9)) (C := RX3) (T := TX3) (N := 20) hx hb hts i_X3 hown hK hP 0 rfl rfl 9 (by decide) (hts _ qw882) (fun _ h9 => h9) rfl dX3_giveBack_1 ?_
  refine lv_iconst (v := 1) hx hb dX3_giveBack_4 (by decide) ?_
  refine lv_isub hx hb dX3_giveBack_5 ?_
  refine lv_istore_n (lv' := [(3, .int ((p0w 0 9) - 1)), (0, .ref (p0a 0)), (1, .ref (p1a 0)), (2, .int p2)]) hx hb dX3_giveBack_6 rfl hl (by decide) rfl (fun ls hl => ?_)
  refine lv_iconst (v := (-1)) hx hb dX3_giveBack_7 (by decide) ?_
  refine lv_istore (lv' := [(4, .int (-1)), (3, .int ((p0w 0 9) - 1)), (0, .ref (p0a 0)), (1, .ref (p1a 0)), (2, .int p2)]) hx hb dX3_giveBack_8 hl (by decide) rfl (fun ls hl => ?_)
  refine lv_aload_n hx hb dX3_giveBack_10 rfl (lv_at hl 3 rfl) ?_
  refine va_get (D := (dC, dI)) (ci := 4) (v := .ref (p1a 4)) (C := RX1) (T := TX1) (N := 21) hx hb hts i_X1 hown hK hP 11 rfl rfl 3 (by decide) (hts _ qw921) (fun _ h9 => h9) rfl dX3_giveBack_11 ?_
  refine lv_aload_n hx hb dX3_giveBack_14 rfl (lv_at hl 2 rfl) ?_
  refine va_get (D := (dC, dI)) (ci := 10) (v := .ref (p0a 13)) (C := RX3) (T := TX3) (N := 20) hx hb hts i_X3 hown hK hP 0 rfl rfl 12 (by decide) (hts _ qw889) (fun _ h9 => h9) rfl dX3_giveBack_15 ?_
  refine lv_iload_n hx hb dX3_giveBack_18 rfl (lv_at hl 1 rfl) ?_
  obtain ⟨hq1, hrun⟩ := chk9 hrun
  refine va_iald hx hb hK hP 5 4 rfl rfl (ixb_in hq1) dX3_giveBack_19 ?_
  obtain ⟨hq2, hrun⟩ := chk9 hrun
  refine va_iald hx hb hK hP 12 10 rfl rfl (ixb_in hq2) dX3_giveBack_20 ?_
  refine lv_istore (lv' := [(5, .int (p1w 4 (nn (p0w 13 (nn ((p0w 0 9) - 1)))))), (4, .int (-1)), (3, .int ((p0w 0 9) - 1)), (0, .ref (p0a 0)), (1, .ref (p1a 0)), (2, .int p2)]) hx hb dX3_giveBack_21 hl (by decide) rfl (fun ls hl => ?_)
  have L23 : ∀ (n_23 : Nat) (v4_23 : Int32) (v5_23 : Int32) (o23 : Int32) (H : Heap) (locs : List Loc) (ls : Array Slot), (fX3_giveBack_L23 p0w p1_2n p1_2w n_23) v4_23 v5_23 = some o23 → va_P (dC, dI) cls ((oX3 (p0a 0) p0a p0k p0n p0w) ++ (oX1 (p1a 0) p1a p1k p1n p1w p1l) ++ (oX9 (p1a 3) p1_2a p1_2k p1_2n p1_2w)) H → va_D A ((oX3 (p0a 0) p0a p0k p0n p0w) ++ (oX1 (p1a 0) p1a p1k p1n p1w p1l) ++ (oX9 (p1a 3) p1_2a p1_2k p1_2n p1_2w)) → va_K (dC, dI) cls ((tX3 p0k) ++ (tX1 p1k) ++ (tX9 p1_2k)) s → va_S A s.heap H locs → lv_has ls 6 [(0, .ref (p0a 0)), (1, .ref (p1a 0)), (2, .int p2), (3, .int ((p0w 0 9) - 1)), (4, .int v4_23), (5, .int v5_23)] → (∀ (H : Heap) (locs : List Loc) (ls : Array Slot), va_P (dC, dI) cls ((oX3 (p0a 0) p0a p0k p0n p0w) ++ (oX1 (p1a 0) p1a p1k p1n p1w p1l) ++ (oX9 (p1a 3) p1_2a p1_2k p1_2n p1_2w)) H → va_D A ((oX3 (p0a 0) p0a p0k p0n p0w) ++ (oX1 (p1a 0) p1a p1k p1n p1w p1l) ++ (oX9 (p1a 3) p1_2a p1_2k p1_2n p1_2w)) → va_K (dC, dI) cls ((tX3 p0k) ++ (tX1 p1k) ++ (tX9 p1_2k)) s → va_S A s.heap H locs → lv_has ls 6 [(0, .ref (p0a 0)), (1, .ref (p1a 0)), (2, .int p2), (3, .int ((p0w 0 9) - 1)), (4, .int o23)] → W p l e ({ frames := 0, cells := 0, slots := 0, locals := 0 } : Room) s m ([.ref (p0a 0), .ref (p1a 0), .int p2] : List Value).toArray below meth c H locs 0 0 Q (F0 m 58 ls [])) → W p l e ({ frames := 0, cells := 0, slots := 0, locals := 0 } : Room) s m ([.ref (p0a 0), .ref (p1a 0), .int p2] : List Value).toArray below meth c H locs 0 0 Q (F0 m 23 ls []) := by
    intro n_23
    induction n_23 with
    | zero => intro v4_23 v5_23 o23 H locs ls hrun; exact (no9 rfl hrun).elim
    | succ n_23 IH23 =>
      intro v4_23 v5_23 o23 H locs ls hrun hP hD hK hS hl hk23
      unfold fX3_giveBack_L23 at hrun
      refine lv_iload hx hb dX3_giveBack_23 (lv_at hl 5 rfl) ?_
      rcases br9 hrun with ⟨hc3, hrun⟩ | ⟨hc3, hrun⟩
      · refine lv_if_lt (tgt := 58) hx hb dX3_giveBack_25 (by decide) (fun _ => ?_) (fun c => absurd hc3 c)
        obtain rfl := (Option.some.inj hrun)
        exact hk23 _ _ _ hP hD hK hS (lv_sub hl [0, 1, 2, 3, 4] rfl)
      · refine lv_if_lt (tgt := 58) hx hb dX3_giveBack_25 (by decide) (fun c => absurd c hc3) (fun _ => ?_)
        refine lv_iload hx hb dX3_giveBack_28 (lv_at hl 5 rfl) ?_
        refine lv_aload_n hx hb dX3_giveBack_30 rfl (lv_at hl 0 rfl) ?_
        refine va_get (D := (dC, dI)) (ci := 10) (v := .ref (p0a 12)) (C := RX3) (T := TX3) (N := 20) hx hb hts i_X3 hown hK hP 0 rfl rfl 11 (by decide) (hts _ qw908) (fun _ h9 => h9) rfl dX3_giveBack_31 ?_
        refine lv_iload_n hx hb dX3_giveBack_34 rfl (lv_at hl 3 rfl) ?_
        obtain ⟨hq4, hrun⟩ := chk9 hrun
        refine va_iald hx hb hK hP 4 3 rfl rfl (ixb_in hq4) dX3_giveBack_35 ?_
        rcases br9 hrun with ⟨hc5, hrun⟩ | ⟨hc5, hrun⟩
        · refine lv_icmp_eq (tgt := 58) hx hb dX3_giveBack_36 (by decide) (fun _ => ?_) (fun c => absurd hc5 c)
          obtain rfl := (Option.some.inj hrun)
          exact hk23 _ _ _ hP hD hK hS (lv_sub hl [0, 1, 2, 3, 4] rfl)
        · refine lv_icmp_eq (tgt := 58) hx hb dX3_giveBack_36 (by decide) (fun c => absurd c hc5) (fun _ => ?_)
          refine lv_iload hx hb dX3_giveBack_39 (lv_at hl 5 rfl) ?_
          refine lv_istore (lv' := [(4, .int v5_23), (0, .ref (p0a 0)), (1, .ref (p1a 0)), (2, .int p2), (3, .int ((p0w 0 9) - 1)), (5, .int v5_23)]) hx hb dX3_giveBack_41 hl (by decide) rfl (fun ls hl => ?_)
          refine lv_aload_n hx hb dX3_giveBack_43 rfl (lv_at hl 2 rfl) ?_
          refine va_get (D := (dC, dI)) (ci := 4) (v := .ref (p1a 3)) (C := RX1) (T := TX1) (N := 21) hx hb hts i_X1 hown hK hP 11 rfl rfl 2 (by decide) (hts _ qw922) (fun _ h9 => h9) rfl dX3_giveBack_44 ?_
          refine va_get (D := (dC, dI)) (ci := 3) (v := .ref (p1_2a 6)) (C := RX9) (T := TX9) (N := 6) hx hb hts i_X9 hown hK hP 29 rfl rfl 5 (by decide) (hts _ qw923) (fun _ h9 => h9) rfl dX3_giveBack_47 ?_
          refine lv_iload hx hb dX3_giveBack_50 (lv_at hl 5 rfl) ?_
          obtain ⟨hq6, hrun⟩ := chk9 hrun
          refine va_iald hx hb hK hP 34 31 rfl rfl (ixb_in hq6) dX3_giveBack_52 ?_
          refine lv_istore (lv' := [(5, .int (p1_2w 6 (nn v5_23))), (4, .int v5_23), (0, .ref (p0a 0)), (1, .ref (p1a 0)), (2, .int p2), (3, .int ((p0w 0 9) - 1))]) hx hb dX3_giveBack_53 hl (by decide) rfl (fun ls hl => ?_)
          refine lv_goto (tgt := 23) hx hb dX3_giveBack_55 (by decide) ?_
          exact IH23 v5_23 (p1_2w 6 (nn v5_23)) o23 _ _ _ hrun hP hD hK hS (lv_sub hl [2, 3, 4, 5, 1, 0] rfl) hk23
  obtain ⟨o23, hc23, hrun⟩ := bnd9 hrun
  refine L23 NF (-1) (p1w 4 (nn (p0w 13 (nn ((p0w 0 9) - 1))))) o23 _ _ _ hc23 hP hD hK hS (lv_sub hl [3, 4, 5, 2, 1, 0] rfl) ?_
  intro H locs ls hP hD hK hS hl
  have hl := hl
  refine lv_iload hx hb dX3_giveBack_58 (lv_at hl 4 rfl) ?_
  have J85 : ∀ (p0w_85 : ST) (H : Heap) (locs : List Loc) (ls : Array Slot), (fX3_giveBack_J85 p0w_85) = some o → va_P (dC, dI) cls ((oX3 (p0a 0) p0a p0k p0n p0w_85) ++ (oX1 (p1a 0) p1a p1k p1n p1w p1l) ++ (oX9 (p1a 3) p1_2a p1_2k p1_2n p1_2w)) H → va_D A ((oX3 (p0a 0) p0a p0k p0n p0w_85) ++ (oX1 (p1a 0) p1a p1k p1n p1w p1l) ++ (oX9 (p1a 3) p1_2a p1_2k p1_2n p1_2w)) → va_K (dC, dI) cls ((tX3 p0k) ++ (tX1 p1k) ++ (tX9 p1_2k)) s → va_S A s.heap H locs → lv_has ls 6 [] → W p l e ({ frames := 0, cells := 0, slots := 0, locals := 0 } : Room) s m ([.ref (p0a 0), .ref (p1a 0), .int p2] : List Value).toArray below meth c H locs 0 0 Q (F0 m 85 ls []) := by
    intro p0w_85 H locs ls hrun hP hD hK hS hl 
    unfold fX3_giveBack_J85 at hrun
    have ho9 : p0w_85 = o := Option.some.inj hrun
    have hP9 : va_P (dC, dI) cls ((oX3 (p0a 0) p0a p0k p0n o) ++ (oX1 (p1a 0) p1a p1k p1n p1w p1l) ++ (oX9 (p1a 3) p1_2a p1_2k p1_2n p1_2w)) H := by first | exact hP | (rw [← ho9]; exact hP)
    have hD9 : va_D A ((oX3 (p0a 0) p0a p0k p0n o) ++ (oX1 (p1a 0) p1a p1k p1n p1w p1l) ++ (oX9 (p1a 3) p1_2a p1_2k p1_2n p1_2w)) := by first | exact hD | (rw [← ho9]; exact hD)
    subst hQ
    exact W.vret hx hb hr (fun t ht hW => ⟨⟨(), rfl, trivial, ⟨by rw [ht]; exact hP9, va_K.moved hW.alike hK, hD9⟩⟩, hS.F ht⟩) hS.2.2 dX3_giveBack_85
  rcases br9 hrun with ⟨hc7, hrun⟩ | ⟨hc7, hrun⟩
  · refine lv_if_lt (tgt := 85) hx hb dX3_giveBack_60 (by decide) (fun _ => ?_) (fun c => absurd hc7 c)
    exact J85 p0w _ _ _ hrun hP hD hK hS (lv_sub hl [] rfl)
  · refine lv_if_lt (tgt := 85) hx hb dX3_giveBack_60 (by decide) (fun c => absurd c hc7) (fun _ => ?_)
    refine lv_aload_n hx hb dX3_giveBack_63 rfl (lv_at hl 0 rfl) ?_
    refine va_get (D := (dC, dI)) (ci := 10) (v := .ref (p0a 16)) (C := RX3) (T := TX3) (N := 20) hx hb hts i_X3 hown hK hP 0 rfl rfl 15 (by decide) (hts _ qw891) (fun _ h9 => h9) rfl dX3_giveBack_64 ?_
    refine lv_iload_n hx hb dX3_giveBack_67 rfl (lv_at hl 3 rfl) ?_
    refine lv_sipush (v := 320) hx hb dX3_giveBack_68 (by decide) ?_
    refine lv_imul hx hb dX3_giveBack_71 ?_
    refine lv_aload_n hx hb dX3_giveBack_72 rfl (lv_at hl 1 rfl) ?_
    refine va_get (D := (dC, dI)) (ci := 4) (v := .ref (p1a 3)) (C := RX1) (T := TX1) (N := 21) hx hb hts i_X1 hown hK hP 11 rfl rfl 2 (by decide) (hts _ qw922) (fun _ h9 => h9) rfl dX3_giveBack_73 ?_
    refine va_get (D := (dC, dI)) (ci := 3) (v := .ref (p1_2a 3)) (C := RX9) (T := TX9) (N := 6) hx hb hts i_X9 hown hK hP 29 rfl rfl 2 (by decide) (hts _ qw924) (fun _ h9 => h9) rfl dX3_giveBack_76 ?_
    refine lv_iload hx hb dX3_giveBack_79 (lv_at hl 4 rfl) ?_
    obtain ⟨hq8, hrun⟩ := chk9 hrun
    refine va_iald hx hb hK hP 31 28 rfl rfl (ixb_in hq8) dX3_giveBack_81 ?_
    refine lv_iadd hx hb dX3_giveBack_82 ?_
    refine lv_iload_n hx hb dX3_giveBack_83 rfl (lv_at hl 2 rfl) ?_
    obtain ⟨hq9, hrun⟩ := chk9 hrun
    refine va_iast hx hb hK hP hD hS 8 7 rfl rfl (ixb_in hq9) dX3_giveBack_84 (fun H locs hP hD hS => ?_)
    have hP : va_P (dC, dI) cls ((oX3 (p0a 0) p0a p0k p0n (upw p0w 16 (nn ((((p0w 0 9) - 1) * 320) + (p1_2w 3 (nn o23)))) p2)) ++ (oX1 (p1a 0) p1a p1k p1n p1w p1l) ++ (oX9 (p1a 3) p1_2a p1_2k p1_2n p1_2w)) H := hP
    have hD : va_D A ((oX3 (p0a 0) p0a p0k p0n (upw p0w 16 (nn ((((p0w 0 9) - 1) * 320) + (p1_2w 3 (nn o23)))) p2)) ++ (oX1 (p1a 0) p1a p1k p1n p1w p1l) ++ (oX9 (p1a 3) p1_2a p1_2k p1_2n p1_2w)) := hD
    obtain ⟨w10, ew10, hrun⟩ := let9 hrun
    rw [← ew10] at hP hD
    exact J85 w10 _ _ _ hrun hP hD hK hS (lv_sub hl [] rfl)
def fX3_makeSlots_L7 (p1 : Int32) (p0_4w : ST) (p0_6w : ST) : Nat → Int32 → ST → Option ST
  | 0 => fun _ _ => none
  | n_7 + 1 => fun v2_7 p0w_7 => (if p1 ≤ 1 then some p0w_7 else (if (p0_4w 0 0) ≤ v2_7 then some p0w_7 else (if ixb v2_7 6 = true then (lt9 (upw p0w_7 0 17 (if (p0w_7 0 17) < (p0_6w 3 (nn v2_7)) then (p0_6w 3 (nn v2_7)) else (p0w_7 0 17))) fun (w5 : ST) => ((fX3_makeSlots_L7 p1 p0_4w p0_6w n_7) (v2_7 + 1) w5)) else none)))
def fX3_makeSlots_G67_11 (n7 : Nat → Nat) (w8 : ST) : Option (ST × (Nat → Nat)) := some (w8, n7)
theorem mo_fX3_makeSlots_G67_11 {n7 : Nat → Nat} {w8 : ST} {o9q : ST × (Nat → Nat)} (hrun : fX3_makeSlots_G67_11 n7 w8 = some o9q) : glX3 n7 (o9q.2) := by
  unfold fX3_makeSlots_G67_11 at hrun
  obtain rfl := (Option.some.inj hrun)
  exact (glX3_rf _)
def fX3_makeSlots (p0n : Nat → Nat) (p0w : ST) (p1 : Int32) (p0_4w : ST) (p0_6w : ST) : Option (ST × (Nat → Nat)) := (lt9 (upw p0w 0 17 0) fun (w1 : ST) => ((fX3_makeSlots_L7 p1 p0_4w p0_6w NF 0 w1).bind fun (o7 : ST) => ((fX11_atLeast (p0n 17) (o7 17) ((o7 0 17) * 8)).bind fun (o_6 : Nat × RI) => (lt9 (stn p0n 17 (o_6.1)) fun (n7 : Nat → Nat) => (lt9 (srw o7 17 (o_6.2)) fun (w8 : ST) => (fX3_makeSlots_G67_11 n7 w8))))))
theorem mo_fX3_makeSlots {p0n : Nat → Nat} {p0w : ST} {p1 : Int32} {p0_4w : ST} {p0_6w : ST} {o9q : ST × (Nat → Nat)} (hrun : fX3_makeSlots p0n p0w p1 p0_4w p0_6w = some o9q) : glX3 p0n (o9q.2) := by
  unfold fX3_makeSlots at hrun
  obtain ⟨w1, ew1, hrun⟩ := let9 hrun
  obtain ⟨o7, hc7, hrun⟩ := bnd9 hrun
  obtain ⟨o_6, hc_6, hrun⟩ := bnd9 hrun
  obtain ⟨n7, en7, hrun⟩ := let9 hrun
  obtain ⟨w8, ew8, hrun⟩ := let9 hrun
  skip
  exact (glX3_tr (by rw [en7]; exact glX3_17 (mo_fX11_atLeast hc_6) : glX3 p0n n7) (mo_fX3_makeSlots_G67_11 hrun))
set_option maxHeartbeats 16000000 in
set_option maxRecDepth 100000 in
theorem kX3_makeSlots {zs : Nat × Nat} (l : Launch) (dC : Nat → ClassId) (dI : Nat → Nat → Nat) (p0a : Nat → Nat) (p0k : Nat → ClassId) (p0n : Nat → Nat) (p0w : ST) (p1 : Int32) (p0_4a : Nat → Nat) (p0_4k : Nat → ClassId) (p0_4w : ST) (p0_4l : SL) (p0_6a : Nat → Nat) (p0_6k : Nat → ClassId) (p0_6n : Nat → Nat) (p0_6w : ST) (sz : Nat) (o : ST × (Nat → Nat)) (hrun : fX3_makeSlots p0n p0w p1 p0_4w p0_6w = some o) : Met l yX3_makeSlots (wz yX3_makeSlots cX3_makeSlots 3 (Option.none : Option Jvm.ClassFile.FieldType)) ({ frames := 3, cells := (gcX3 p0n (o.2)), slots := (3 * (gcX3 p0n (o.2))), locals := 83 } : Room) (va_Pc [.ref (p0a 0), .int p1] (PRE zs dC dI ((oX3 (p0a 0) p0a p0k p0n p0w) ++ (oX6 (p0a 5) p0_4a p0_4k p0_4w p0_4l) ++ (oX0 (p0a 7) p0_6a p0_6k p0_6n p0_6w)) ((tX3 p0k) ++ (tX6 p0_4k) ++ (tX0 p0_6k)) sz)) (va_Qv (fun (_ : Unit) => True) (fun _ t => ∃ (xp0_16_z : Nat), ∃ (zp0_16_z : ClassId), POST dC dI ((oX3 (p0a 0) (st1 p0a 17 xp0_16_z) (st1 p0k 17 zp0_16_z) (o.2) (o.1)) ++ (oX6 (p0a 5) p0_4a p0_4k p0_4w p0_4l) ++ (oX0 (p0a 7) p0_6a p0_6k p0_6n p0_6w)) ((tX3 (st1 p0k 17 zp0_16_z)) ++ (tX6 p0_4k) ++ (tX0 p0_6k)) (va_A ((oX3 (p0a 0) p0a p0k p0n p0w) ++ (oX6 (p0a 5) p0_4a p0_4k p0_4w p0_4l) ++ (oX0 (p0a 7) p0_6a p0_6k p0_6n p0_6w)) sz) t) (va_A ((oX3 (p0a 0) p0a p0k p0n p0w) ++ (oX6 (p0a 5) p0_4a p0_4k p0_4w p0_4l) ++ (oX0 (p0a 7) p0_6a p0_6k p0_6n p0_6w)) sz)) (gcX3 p0n (o.2)) (3 * (gcX3 p0n (o.2))) (va_A ((oX3 (p0a 0) p0a p0k p0n p0w) ++ (oX6 (p0a 5) p0_4a p0_4k p0_4w p0_4l) ++ (oX0 (p0a 7) p0_6a p0_6k p0_6n p0_6w)) sz) := by
  refine Met.ofW (cc := cX3_makeSlots) (maxL := 3) (ret := (Option.none : Option Jvm.ClassFile.FieldType)) (by decide) rfl ?_
  intro p e s m args below meth c s₁ B hml hv
  obtain ⟨rfl, hsz, hP, hK, hD0, hE⟩ := hv
  have hx := B.exec
  have hb := B.bytes
  have hr := B.returns
  have hts0 := atoms_spec (ws := wz yX3_makeSlots cX3_makeSlots 3 (Option.none : Option Jvm.ClassFile.FieldType)) B.pre
  have hts : ∀ w ∈ gw, w.before _ s = true := fun w h => hts0 w (List.mem_cons_of_mem _ h)
  have hown : s.vm.findClass RX3 = some m.cls := findClass_of_methodNamed B.named
  have hlocks := B.notSynchronized
  subst hsz
  have hD := hD0.self (sz := s.heap.size)
  refine gQ9 ?_
  intro Q hQ
  generalize hAe : va_A ((oX3 (p0a 0) p0a p0k p0n p0w) ++ (oX6 (p0a 5) p0_4a p0_4k p0_4w p0_4l) ++ (oX0 (p0a 7) p0_6a p0_6k p0_6n p0_6w)) s.heap.size = A at hD hE hQ
  have hA : ∀ q : Nat, s.heap.size ≤ q → A q := fun q h => by rw [← hAe]; exact Or.inr h
  have hS : va_S A s.heap s.heap [] := va_S.rf
  have hP : va_P (dC, dI) cls ((oX3 (p0a 0) p0a p0k p0n p0w) ++ (oX6 (p0a 5) p0_4a p0_4k p0_4w p0_4l) ++ (oX0 (p0a 7) p0_6a p0_6k p0_6n p0_6w)) s.heap := hP
  have hl := lv_entry ([.ref (p0a 0), .int p1]) (n := 3) (Nat.le_of_ble_eq_true rfl)
  rw [lg_entry_eq]
  generalize (lg_sl ([.ref (p0a 0), .int p1]) ++ List.replicate (3 - (lg_sl ([.ref (p0a 0), .int p1])).length) Slot.unset).toArray = ls at hl ⊢
  have hl : lv_has ls 3 [(0, .ref (p0a 0)), (1, .int p1)] := hl
  obtain ⟨H, hHe⟩ : ∃ H, H = s.heap := ⟨_, rfl⟩
  obtain ⟨locs, hle⟩ : ∃ locs : List Loc, locs = [] := ⟨_, rfl⟩
  rw [← hHe] at hP
  have hS : va_S A s.heap H locs := by rw [hHe, hle]; exact hS
  show W p l e ({ frames := 3, cells := (gcX3 p0n (o.2)), slots := (3 * (gcX3 p0n (o.2))), locals := 83 } : Room) s m ([.ref (p0a 0), .int p1] : List Value).toArray below meth c s.heap [] 0 0 Q (F0 m 0 ls [])
  rw [← hle]
  refine wH9 hHe ?_
  have hg_p0 := glX3_rf p0n
  have hgn_p0 : glX3 p0n (o.2) := (mo_fX3_makeSlots hrun)
  refine W.widen (k := (gcX3 p0n p0n)) (n := (3 * (gcX3 p0n p0n))) (Nat.zero_le _) (Nat.zero_le _) ?_
  unfold fX3_makeSlots at hrun
  refine lv_aload_n hx hb dX3_makeSlots_0 rfl (lv_at hl 0 rfl) ?_
  refine lv_iconst (v := 0) hx hb dX3_makeSlots_1 (by decide) ?_
  refine va_put (D := (dC, dI)) (ci := 10) (v := .int 0) (ty := .int) (C := RX3) (T := TX3) (N := 20) hx hb hts i_X3 tyX3 tyX3_ok nmX3 hown hK hP hD hS 0 rfl rfl 17 (by decide) (hts _ qw912) (fun _ h9 => h9) rfl (by decide +kernel) rfl rfl (Nat.le_of_ble_eq_true rfl) dX3_makeSlots_2 (fun H locs hP hD hS => ?_)
  have hP : va_P (dC, dI) cls ((oX3 (p0a 0) p0a p0k p0n (upw p0w 0 17 0)) ++ (oX6 (p0a 5) p0_4a p0_4k p0_4w p0_4l) ++ (oX0 (p0a 7) p0_6a p0_6k p0_6n p0_6w)) H := hP
  have hD : va_D A ((oX3 (p0a 0) p0a p0k p0n (upw p0w 0 17 0)) ++ (oX6 (p0a 5) p0_4a p0_4k p0_4w p0_4l) ++ (oX0 (p0a 7) p0_6a p0_6k p0_6n p0_6w)) := hD
  obtain ⟨w1, ew1, hrun⟩ := let9 hrun
  rw [← ew1] at hP hD
  refine lv_iconst (v := 0) hx hb dX3_makeSlots_5 (by decide) ?_
  refine lv_istore_n (lv' := [(2, .int 0), (0, .ref (p0a 0)), (1, .int p1)]) hx hb dX3_makeSlots_6 rfl hl (by decide) rfl (fun ls hl => ?_)
  have L7 : ∀ (n_7 : Nat) (v2_7 : Int32) (p0w_7 : ST) (o7 : ST) (H : Heap) (locs : List Loc) (ls : Array Slot), (fX3_makeSlots_L7 p1 p0_4w p0_6w n_7) v2_7 p0w_7 = some o7 → va_P (dC, dI) cls ((oX3 (p0a 0) p0a p0k p0n p0w_7) ++ (oX6 (p0a 5) p0_4a p0_4k p0_4w p0_4l) ++ (oX0 (p0a 7) p0_6a p0_6k p0_6n p0_6w)) H → va_D A ((oX3 (p0a 0) p0a p0k p0n p0w_7) ++ (oX6 (p0a 5) p0_4a p0_4k p0_4w p0_4l) ++ (oX0 (p0a 7) p0_6a p0_6k p0_6n p0_6w)) → va_K (dC, dI) cls ((tX3 p0k) ++ (tX6 p0_4k) ++ (tX0 p0_6k)) s → va_S A s.heap H locs → lv_has ls 3 [(0, .ref (p0a 0)), (1, .int p1), (2, .int v2_7)] → glX3 p0n p0n → (∀ (H : Heap) (locs : List Loc) (ls : Array Slot), va_P (dC, dI) cls ((oX3 (p0a 0) p0a p0k p0n o7) ++ (oX6 (p0a 5) p0_4a p0_4k p0_4w p0_4l) ++ (oX0 (p0a 7) p0_6a p0_6k p0_6n p0_6w)) H → va_D A ((oX3 (p0a 0) p0a p0k p0n o7) ++ (oX6 (p0a 5) p0_4a p0_4k p0_4w p0_4l) ++ (oX0 (p0a 7) p0_6a p0_6k p0_6n p0_6w)) → va_K (dC, dI) cls ((tX3 p0k) ++ (tX6 p0_4k) ++ (tX0 p0_6k)) s → va_S A s.heap H locs → lv_has ls 3 [(0, .ref (p0a 0))] → glX3 p0n p0n → W p l e ({ frames := 3, cells := (gcX3 p0n (o.2)), slots := (3 * (gcX3 p0n (o.2))), locals := 83 } : Room) s m ([.ref (p0a 0), .int p1] : List Value).toArray below meth c H locs (gcX3 p0n p0n) (3 * (gcX3 p0n p0n)) Q (F0 m 49 ls [])) → W p l e ({ frames := 3, cells := (gcX3 p0n (o.2)), slots := (3 * (gcX3 p0n (o.2))), locals := 83 } : Room) s m ([.ref (p0a 0), .int p1] : List Value).toArray below meth c H locs (gcX3 p0n p0n) (3 * (gcX3 p0n p0n)) Q (F0 m 7 ls []) := by
    intro n_7
    induction n_7 with
    | zero => intro v2_7 p0w_7 o7 H locs ls hrun; exact (no9 rfl hrun).elim
    | succ n_7 IH7 =>
      intro v2_7 p0w_7 o7 H locs ls hrun hP hD hK hS hl hg_p0 hk7
      unfold fX3_makeSlots_L7 at hrun
      refine lv_iload_n hx hb dX3_makeSlots_7 rfl (lv_at hl 1 rfl) ?_
      refine lv_iconst (v := 1) hx hb dX3_makeSlots_8 (by decide) ?_
      rcases br9 hrun with ⟨hc2, hrun⟩ | ⟨hc2, hrun⟩
      · refine lv_icmp_le (tgt := 49) hx hb dX3_makeSlots_9 (by decide) (fun _ => ?_) (fun c => absurd hc2 c)
        obtain rfl := (Option.some.inj hrun)
        exact hk7 _ _ _ hP hD hK hS (lv_sub hl [0] rfl) hg_p0
      · refine lv_icmp_le (tgt := 49) hx hb dX3_makeSlots_9 (by decide) (fun c => absurd c hc2) (fun _ => ?_)
        refine lv_iload_n hx hb dX3_makeSlots_12 rfl (lv_at hl 2 rfl) ?_
        refine lv_aload_n hx hb dX3_makeSlots_13 rfl (lv_at hl 0 rfl) ?_
        refine va_get (D := (dC, dI)) (ci := 10) (v := .ref (p0a 5)) (C := RX3) (T := TX3) (N := 20) hx hb hts i_X3 hown hK hP 0 rfl rfl 4 (by decide) (hts _ qw899) (fun _ h9 => h9) rfl dX3_makeSlots_14 ?_
        refine va_get (D := (dC, dI)) (ci := 2) (v := .int (p0_4w 0 0)) (C := RX6) (T := TX6) (N := 13) hx hb hts i_X6 hown hK hP 11 rfl rfl 0 (by decide) (hts _ qw925) (fun _ h9 => h9) rfl dX3_makeSlots_17 ?_
        rcases br9 hrun with ⟨hc3, hrun⟩ | ⟨hc3, hrun⟩
        · refine lv_icmp_ge (tgt := 49) hx hb dX3_makeSlots_20 (by decide) (fun _ => ?_) (fun c => absurd hc3 c)
          obtain rfl := (Option.some.inj hrun)
          exact hk7 _ _ _ hP hD hK hS (lv_sub hl [0] rfl) hg_p0
        · refine lv_icmp_ge (tgt := 49) hx hb dX3_makeSlots_20 (by decide) (fun c => absurd c hc3) (fun _ => ?_)
          refine lv_aload_n hx hb dX3_makeSlots_23 rfl (lv_at hl 0 rfl) ?_
          refine lv_aload_n hx hb dX3_makeSlots_24 rfl (lv_at hl 0 rfl) ?_
          refine va_get (D := (dC, dI)) (ci := 10) (v := .int (p0w_7 0 17)) (C := RX3) (T := TX3) (N := 20) hx hb hts i_X3 hown hK hP 0 rfl rfl 17 (by decide) (hts _ qw912) (fun _ h9 => h9) rfl dX3_makeSlots_25 ?_
          refine lv_aload_n hx hb dX3_makeSlots_28 rfl (lv_at hl 0 rfl) ?_
          refine va_get (D := (dC, dI)) (ci := 10) (v := .ref (p0a 7)) (C := RX3) (T := TX3) (N := 20) hx hb hts i_X3 hown hK hP 0 rfl rfl 6 (by decide) (hts _ qw926) (fun _ h9 => h9) rfl dX3_makeSlots_29 ?_
          refine va_get (D := (dC, dI)) (ci := 8) (v := .ref (p0_6a 3)) (C := RX0) (T := TX0) (N := 17) hx hb hts i_X0 hown hK hP 22 rfl rfl 2 (by decide) (hts _ qw927) (fun _ h9 => h9) rfl dX3_makeSlots_32 ?_
          refine lv_iload_n hx hb dX3_makeSlots_35 rfl (lv_at hl 2 rfl) ?_
          obtain ⟨hq4, hrun⟩ := chk9 hrun
          refine va_iald hx hb hK hP 23 20 rfl rfl (ixb_in hq4) dX3_makeSlots_36 ?_
          refine va_mmax hx hb (hml.trans hl.1.symm) hown (hts _ qw928) (hts _ qw359) (hts _ qw100) (hts _ qw360) (Nat.le_of_ble_eq_true rfl) (Nat.le_of_ble_eq_true rfl) (show (gcX3 p0n p0n) + 0 ≤ (gcX3 p0n (o.2)) from by have q0 := gmX3 hg_p0 hgn_p0; omega) (show (3 * (gcX3 p0n p0n)) + 0 ≤ (3 * (gcX3 p0n (o.2))) from by have q0 := gmX3 hg_p0 hgn_p0; omega) dX3_makeSlots_37 ?_
          refine va_put (D := (dC, dI)) (ci := 10) (v := .int (if (p0w_7 0 17) < (p0_6w 3 (nn v2_7)) then (p0_6w 3 (nn v2_7)) else (p0w_7 0 17))) (ty := .int) (C := RX3) (T := TX3) (N := 20) hx hb hts i_X3 tyX3 tyX3_ok nmX3 hown hK hP hD hS 0 rfl rfl 17 (by decide) (hts _ qw912) (fun _ h9 => h9) rfl (by decide +kernel) rfl rfl (Nat.le_of_ble_eq_true rfl) dX3_makeSlots_40 (fun H locs hP hD hS => ?_)
          have hP : va_P (dC, dI) cls ((oX3 (p0a 0) p0a p0k p0n (upw p0w_7 0 17 (if (p0w_7 0 17) < (p0_6w 3 (nn v2_7)) then (p0_6w 3 (nn v2_7)) else (p0w_7 0 17)))) ++ (oX6 (p0a 5) p0_4a p0_4k p0_4w p0_4l) ++ (oX0 (p0a 7) p0_6a p0_6k p0_6n p0_6w)) H := hP
          have hD : va_D A ((oX3 (p0a 0) p0a p0k p0n (upw p0w_7 0 17 (if (p0w_7 0 17) < (p0_6w 3 (nn v2_7)) then (p0_6w 3 (nn v2_7)) else (p0w_7 0 17)))) ++ (oX6 (p0a 5) p0_4a p0_4k p0_4w p0_4l) ++ (oX0 (p0a 7) p0_6a p0_6k p0_6n p0_6w)) := hD
          obtain ⟨w5, ew5, hrun⟩ := let9 hrun
          rw [← ew5] at hP hD
          refine lv_iinc (v := (v2_7 + 1)) (lv' := [(2, .int (v2_7 + 1)), (0, .ref (p0a 0)), (1, .int p1)]) hx hb dX3_makeSlots_43 hl (k := 2) rfl rfl (by decide) rfl (fun ls hl => ?_)
          refine lv_goto (tgt := 7) hx hb dX3_makeSlots_46 (by decide) ?_
          exact IH7 (v2_7 + 1) w5 o7 _ _ _ hrun hP hD hK hS (lv_sub hl [1, 2, 0] rfl) hg_p0 hk7
  obtain ⟨o7, hc7, hrun⟩ := bnd9 hrun
  refine L7 NF 0 w1 o7 _ _ _ hc7 hP hD hK hS (lv_sub hl [1, 2, 0] rfl) hg_p0 ?_
  intro H locs ls hP hD hK hS hl hg_p0
  have hl := hl
  refine lv_aload_n hx hb dX3_makeSlots_49 rfl (lv_at hl 0 rfl) ?_
  refine lv_aload_n hx hb dX3_makeSlots_50 rfl (lv_at hl 0 rfl) ?_
  refine va_get (D := (dC, dI)) (ci := 10) (v := .ref (p0a 17)) (C := RX3) (T := TX3) (N := 20) hx hb hts i_X3 hown hK hP 0 rfl rfl 16 (by decide) (hts _ qw911) (fun _ h9 => h9) rfl dX3_makeSlots_51 ?_
  refine lv_aload_n hx hb dX3_makeSlots_54 rfl (lv_at hl 0 rfl) ?_
  refine va_get (D := (dC, dI)) (ci := 10) (v := .int (o7 0 17)) (C := RX3) (T := TX3) (N := 20) hx hb hts i_X3 hown hK hP 0 rfl rfl 17 (by decide) (hts _ qw912) (fun _ h9 => h9) rfl dX3_makeSlots_55 ?_
  refine lv_bipush (v := 8) hx hb dX3_makeSlots_58 (by decide) ?_
  refine lv_imul hx hb dX3_makeSlots_60 ?_
  obtain ⟨o_6, hc_6, hrun⟩ := bnd9 hrun
  obtain ⟨n7, en7, hrun⟩ := let9 hrun
  obtain ⟨w8, ew8, hrun⟩ := let9 hrun
  have hst10 : glX3 p0n n7 := by rw [en7]; exact glX3_17 (mo_fX11_atLeast hc_6)
  have hgn_p0 : glX3 n7 (o.2) := (mo_fX3_makeSlots_G67_11 hrun)
  have hPc := hP.sub (ws' := [((p0a 17), .inl ((p0k 17), (p0n 17), .inl (o7 17)))]) [9] rfl
  have hDc := hD.sub (ws' := [((p0a 17), .inl ((p0k 17), (p0n 17), .inl (o7 17)))]) [9] (by decide) rfl
  have hKc := hK.sub (tys' := [((p0k 17), .int)]) [8] rfl
  have hFc := va_free (wc := [((p0a 17), .inl ((p0k 17), (p0n 17), .inl (o7 17)))]) hD hS hA [9] rfl
  refine va_callr (va_runSN (As := [.ref (p0a 17), .int ((o7 0 17) * 8)]) (rest := [.ref (p0a 0)]) ⟨hx, hb, hml, hown, hts⟩ (kX11_atLeast l dC dI (p0a := (p0a 17)) (p0k := (p0k 17)) (p0n := (p0n 17)) (p0f := (o7 17)) (p1 := ((o7 0 17) * 8)) (sz := _) (o := o_6) (hrun := hc_6)) ⟨(va_cnB 2 hts (gi_z qw128) rfl rfl rfl (hE.nw (List.mem_append_right _ (tbl_9 (i := 179) rfl)) rfl) (hts _ qw129) (by decide +kernel) ⟨Nat.le_of_ble_eq_true rfl, Nat.le_of_ble_eq_true rfl⟩), (hts _ qw130), trivial⟩ ⟨PRE.blind, PRE.of hE hS hFc hPc hKc hDc⟩ rfl rfl hl.1 rfl (lv_room (Nat.le_of_ble_eq_true rfl)) dX3_makeSlots_61 ⟨(show (gcX3 p0n p0n) + (o_6.1 - (p0n 17)) ≤ (gcX3 p0n (o.2)) from by have q0 := gsX3 hg_p0 hst10 hgn_p0; have q5 := gcX3_17 (n := p0n) (mo_fX11_atLeast hc_6); rw [← en7] at q5; omega), (show (3 * (gcX3 p0n p0n)) + (3 * (o_6.1 - (p0n 17))) ≤ (3 * (gcX3 p0n (o.2))) from by have q0 := gsX3 hg_p0 hst10 hgn_p0; have q5 := gcX3_17 (n := p0n) (mo_fX11_atLeast hc_6); rw [← en7] at q5; omega)⟩) hS (fun q _ h => hFc q h) hFc (fun u ra10 t H locs ht hvm hw hB hz1 hk1 hS => ?_)
  obtain ⟨z9, hB⟩ := hB
  obtain ⟨hP, hD, hK⟩ := JOIN (wr := ([((p0a 0), .inr (10, [.int (o7 0 0), .int (o7 0 1), .int (o7 0 2), .ref (p0a 4), .ref (p0a 5), .ref (p0a 6), .ref (p0a 7), .ref (p0a 8), .int (o7 0 8), .int (o7 0 9), .ref (p0a 11), .ref (p0a 12), .ref (p0a 13), .ref (p0a 14), .ref (p0a 15), .ref (p0a 16), .ref (p0a 17), .int (o7 0 17), .ref (p0a 19), .int (o7 0 19)])), ((p0a 4), .inl ((p0k 4), 16, .inl (o7 4))), ((p0a 8), .inl ((p0k 8), 4, .inl (o7 8))), ((p0a 11), .inl ((p0k 11), 8, .inl (o7 11))), ((p0a 12), .inl ((p0k 12), 8, .inl (o7 12))), ((p0a 13), .inl ((p0k 13), 8, .inl (o7 13))), ((p0a 14), .inl ((p0k 14), 8, .inl (o7 14))), ((p0a 15), .inl ((p0k 15), 32, .inl (o7 15))), ((p0a 16), .inl ((p0k 16), 2560, .inl (o7 16))), ((p0a 19), .inl ((p0k 19), 512, .inl (o7 19)))] ++ (oX6 (p0a 5) p0_4a p0_4k p0_4w p0_4l) ++ (oX0 (p0a 7) p0_6a p0_6k p0_6n p0_6w))) hP hD hK [9] [0, 1, 2, 3, 4, 5, 6, 7, 8, 10, 11, 12, 13, 14, 15, 16, 17, 18, 19, 20, 21, 22, 23, 24, 25, 26, 27, 28, 29, 30] [0, 1, 2, 3, 4, 5, 6, 7, 9, 10, 11, 12, 13, 14, 15, 16, 17, 18, 19, 20, 21, 22, 23, 24, 25, 26, 27] rfl rfl (by decide) (by decide) rfl hk1 hFc ht hvm hB
  refine va_put (D := (dC, dI)) (ci := 10) (v := .ref ra10) (ty := .array .int) (C := RX3) (T := TX3) (N := 20) hx hb hts i_X3 tyX3 tyX3_ok nmX3 hown hK hP hD hS 0 rfl rfl 16 (by decide) (hts _ qw911) (fun _ h9 => h9) rfl (by decide +kernel) rfl rfl (Nat.le_of_ble_eq_true rfl) dX3_makeSlots_64 (fun H locs hP hD hS => ?_)
  have hP : va_P (dC, dI) cls ((oX3 (p0a 0) (st1 p0a 17 ra10) (st1 p0k 17 z9) n7 w8) ++ (oX6 (p0a 5) p0_4a p0_4k p0_4w p0_4l) ++ (oX0 (p0a 7) p0_6a p0_6k p0_6n p0_6w)) H := by rw [en7, ew8]; exact hP.sub [0, 1, 2, 3, 4, 5, 6, 7, 8, 30, 9, 10, 11, 12, 13, 14, 15, 16, 17, 18, 19, 20, 21, 22, 23, 24, 25, 26, 27, 28, 29] rfl
  have hD : va_D A ((oX3 (p0a 0) (st1 p0a 17 ra10) (st1 p0k 17 z9) n7 w8) ++ (oX6 (p0a 5) p0_4a p0_4k p0_4w p0_4l) ++ (oX0 (p0a 7) p0_6a p0_6k p0_6n p0_6w)) := by rw [en7, ew8]; exact hD.sub [0, 1, 2, 3, 4, 5, 6, 7, 8, 30, 9, 10, 11, 12, 13, 14, 15, 16, 17, 18, 19, 20, 21, 22, 23, 24, 25, 26, 27, 28, 29] (by decide) rfl
  have hK : va_K (dC, dI) cls ((tX3 (st1 p0k 17 z9)) ++ (tX6 p0_4k) ++ (tX0 p0_6k)) s := hK.sub [0, 1, 2, 3, 4, 5, 6, 7, 27, 8, 9, 10, 11, 12, 13, 14, 15, 16, 17, 18, 19, 20, 21, 22, 23, 24, 25, 26] rfl
  refine W.widen (k := (gcX3 p0n n7)) (n := (3 * (gcX3 p0n n7))) (by have a0 := gcX3_add hg_p0 hst10; have q5 := gcX3_17 (n := p0n) (mo_fX11_atLeast hc_6); rw [← en7] at q5; omega) (by have a0 := gcX3_add hg_p0 hst10; have q5 := gcX3_17 (n := p0n) (mo_fX11_atLeast hc_6); rw [← en7] at q5; omega) ?_
  have hg_p0 : glX3 p0n n7 := glX3_tr hg_p0 hst10
  unfold fX3_makeSlots_G67_11 at hrun
  have ho9 : (w8, n7) = o := Option.some.inj hrun
  subst ho9
  subst hQ
  exact W.vret hx hb hr (fun t ht hW => ⟨⟨(), rfl, trivial, ⟨ra10, z9, by rw [ht]; exact hP, va_K.moved hW.alike hK, hD⟩⟩, hS.F ht⟩) hS.2.2 dX3_makeSlots_67
def fX3_push_J30 (p0w_30 : ST) : Option ST := some p0w_30
def fX3_push (p0w : ST) (p1 : Int32) : Option ST := (if 512 ≤ (p0w 0 19) then (fX3_push_J30 p0w) else (if ixb (p0w 0 19) 512 = true then (lt9 (upw p0w 19 (nn (p0w 0 19)) p1) fun (w3 : ST) => (lt9 (upw w3 0 19 ((w3 0 19) + 1)) fun (w4 : ST) => (fX3_push_J30 w4))) else none))
set_option maxHeartbeats 16000000 in
set_option maxRecDepth 100000 in
theorem kX3_push {zs : Nat × Nat} (l : Launch) (dC : Nat → ClassId) (dI : Nat → Nat → Nat) (p0a : Nat → Nat) (p0k : Nat → ClassId) (p0n : Nat → Nat) (p0w : ST) (p1 : Int32) (sz : Nat) (o : ST) (hrun : fX3_push p0w p1 = some o) : Met l yX3_push (wz yX3_push cX3_push 2 (Option.none : Option Jvm.ClassFile.FieldType)) ({ frames := 0, cells := 0, slots := 0, locals := 0 } : Room) (va_Pc [.ref (p0a 0), .int p1] (PRE zs dC dI (oX3 (p0a 0) p0a p0k p0n p0w) (tX3 p0k) sz)) (va_Qv (fun (_ : Unit) => True) (fun _ t => POST dC dI (oX3 (p0a 0) p0a p0k p0n o) (tX3 p0k) (va_A (oX3 (p0a 0) p0a p0k p0n p0w) sz) t) (va_A (oX3 (p0a 0) p0a p0k p0n p0w) sz)) 0 0 (va_A (oX3 (p0a 0) p0a p0k p0n p0w) sz) := by
  refine Met.ofW (cc := cX3_push) (maxL := 2) (ret := (Option.none : Option Jvm.ClassFile.FieldType)) (by decide) rfl ?_
  intro p e s m args below meth c s₁ B hml hv
  obtain ⟨rfl, hsz, hP, hK, hD0, hE⟩ := hv
  have hx := B.exec
  have hb := B.bytes
  have hr := B.returns
  have hts0 := atoms_spec (ws := wz yX3_push cX3_push 2 (Option.none : Option Jvm.ClassFile.FieldType)) B.pre
  have hts : ∀ w ∈ gw, w.before _ s = true := fun w h => hts0 w (List.mem_cons_of_mem _ h)
  have hown : s.vm.findClass RX3 = some m.cls := findClass_of_methodNamed B.named
  have hlocks := B.notSynchronized
  subst hsz
  have hD := hD0.self (sz := s.heap.size)
  refine gQ9 ?_
  intro Q hQ
  generalize hAe : va_A (oX3 (p0a 0) p0a p0k p0n p0w) s.heap.size = A at hD hE hQ
  have hA : ∀ q : Nat, s.heap.size ≤ q → A q := fun q h => by rw [← hAe]; exact Or.inr h
  have hS : va_S A s.heap s.heap [] := va_S.rf
  have hP : va_P (dC, dI) cls (oX3 (p0a 0) p0a p0k p0n p0w) s.heap := hP
  have hl := lv_entry ([.ref (p0a 0), .int p1]) (n := 2) (Nat.le_of_ble_eq_true rfl)
  rw [lg_entry_eq]
  generalize (lg_sl ([.ref (p0a 0), .int p1]) ++ List.replicate (2 - (lg_sl ([.ref (p0a 0), .int p1])).length) Slot.unset).toArray = ls at hl ⊢
  have hl : lv_has ls 2 [(0, .ref (p0a 0)), (1, .int p1)] := hl
  obtain ⟨H, hHe⟩ : ∃ H, H = s.heap := ⟨_, rfl⟩
  obtain ⟨locs, hle⟩ : ∃ locs : List Loc, locs = [] := ⟨_, rfl⟩
  rw [← hHe] at hP
  have hS : va_S A s.heap H locs := by rw [hHe, hle]; exact hS
  show W p l e ({ frames := 0, cells := 0, slots := 0, locals := 0 } : Room) s m ([.ref (p0a 0), .int p1] : List Value).toArray below meth c s.heap [] 0 0 Q (F0 m 0 ls [])
  rw [← hle]
  refine wH9 hHe ?_
  unfold fX3_push at hrun
  refine lv_aload_n hx hb dX3_push_0 rfl (lv_at hl 0 rfl) ?_
  refine va_get (D := (dC, dI)) (ci := 10) (v := .int (p0w 0 19)) (C := RX3) (T := TX3) (N := 20) hx hb hts i_X3 hown hK hP 0 rfl rfl 19 (by decide) (hts _ qw901) (fun _ h9 => h9) rfl dX3_push_1 ?_
  refine lv_sipush (v := 512) hx hb dX3_push_4 (by decide) ?_
  have J30 : ∀ (p0w_30 : ST) (H : Heap) (locs : List Loc) (ls : Array Slot), (fX3_push_J30 p0w_30) = some o → va_P (dC, dI) cls (oX3 (p0a 0) p0a p0k p0n p0w_30) H → va_D A (oX3 (p0a 0) p0a p0k p0n p0w_30) → va_K (dC, dI) cls (tX3 p0k) s → va_S A s.heap H locs → lv_has ls 2 [] → W p l e ({ frames := 0, cells := 0, slots := 0, locals := 0 } : Room) s m ([.ref (p0a 0), .int p1] : List Value).toArray below meth c H locs 0 0 Q (F0 m 30 ls []) := by
    intro p0w_30 H locs ls hrun hP hD hK hS hl 
    unfold fX3_push_J30 at hrun
    have ho9 : p0w_30 = o := Option.some.inj hrun
    have hP9 : va_P (dC, dI) cls (oX3 (p0a 0) p0a p0k p0n o) H := by first | exact hP | (rw [← ho9]; exact hP)
    have hD9 : va_D A (oX3 (p0a 0) p0a p0k p0n o) := by first | exact hD | (rw [← ho9]; exact hD)
    subst hQ
    exact W.vret hx hb hr (fun t ht hW => ⟨⟨(), rfl, trivial, ⟨by rw [ht]; exact hP9, va_K.moved hW.alike hK, hD9⟩⟩, hS.F ht⟩) hS.2.2 dX3_push_30
  rcases br9 hrun with ⟨hc1, hrun⟩ | ⟨hc1, hrun⟩
  · refine lv_icmp_ge (tgt := 30) hx hb dX3_push_7 (by decide) (fun _ => ?_) (fun c => absurd hc1 c)
    exact J30 p0w _ _ _ hrun hP hD hK hS (lv_sub hl [] rfl)
  · refine lv_icmp_ge (tgt := 30) hx hb dX3_push_7 (by decide) (fun c => absurd c hc1) (fun _ => ?_)
    refine lv_aload_n hx hb dX3_push_10 rfl (lv_at hl 0 rfl) ?_
    refine va_get (D := (dC, dI)) (ci := 10) (v := .ref (p0a 19)) (C := RX3) (T := TX3) (N := 20) hx hb hts i_X3 hown hK hP 0 rfl rfl 18 (by decide) (hts _ qw902) (fun _ h9 => h9) rfl dX3_push_11 ?_
    refine lv_aload_n hx hb dX3_push_14 rfl (lv_at hl 0 rfl) ?_
    refine va_get (D := (dC, dI)) (ci := 10) (v := .int (p0w 0 19)) (C := RX3) (T := TX3) (N := 20) hx hb hts i_X3 hown hK hP 0 rfl rfl 19 (by decide) (hts _ qw901) (fun _ h9 => h9) rfl dX3_push_15 ?_
    refine lv_iload_n hx hb dX3_push_18 rfl (lv_at hl 1 rfl) ?_
    obtain ⟨hq2, hrun⟩ := chk9 hrun
    refine va_iast hx hb hK hP hD hS 10 9 rfl rfl (ixb_in hq2) dX3_push_19 (fun H locs hP hD hS => ?_)
    have hP : va_P (dC, dI) cls (oX3 (p0a 0) p0a p0k p0n (upw p0w 19 (nn (p0w 0 19)) p1)) H := hP
    have hD : va_D A (oX3 (p0a 0) p0a p0k p0n (upw p0w 19 (nn (p0w 0 19)) p1)) := hD
    obtain ⟨w3, ew3, hrun⟩ := let9 hrun
    rw [← ew3] at hP hD
    refine lv_aload_n hx hb dX3_push_20 rfl (lv_at hl 0 rfl) ?_
    refine lv_dup hx hb dX3_push_21 rfl ?_
    refine va_get (D := (dC, dI)) (ci := 10) (v := .int (w3 0 19)) (C := RX3) (T := TX3) (N := 20) hx hb hts i_X3 hown hK hP 0 rfl rfl 19 (by decide) (hts _ qw901) (fun _ h9 => h9) rfl dX3_push_22 ?_
    refine lv_iconst (v := 1) hx hb dX3_push_25 (by decide) ?_
    refine lv_iadd hx hb dX3_push_26 ?_
    refine va_put (D := (dC, dI)) (ci := 10) (v := .int ((w3 0 19) + 1)) (ty := .int) (C := RX3) (T := TX3) (N := 20) hx hb hts i_X3 tyX3 tyX3_ok nmX3 hown hK hP hD hS 0 rfl rfl 19 (by decide) (hts _ qw901) (fun _ h9 => h9) rfl (by decide +kernel) rfl rfl (Nat.le_of_ble_eq_true rfl) dX3_push_27 (fun H locs hP hD hS => ?_)
    have hP : va_P (dC, dI) cls (oX3 (p0a 0) p0a p0k p0n (upw w3 0 19 ((w3 0 19) + 1))) H := hP
    have hD : va_D A (oX3 (p0a 0) p0a p0k p0n (upw w3 0 19 ((w3 0 19) + 1))) := hD
    obtain ⟨w4, ew4, hrun⟩ := let9 hrun
    rw [← ew4] at hP hD
    exact J30 w4 _ _ _ hrun hP hD hK hS (lv_sub hl [] rfl)
def fX3_moveVariable_J221 (p0w_221 : ST) : Option ST := some p0w_221
def fX3_moveVariable (p0w : ST) (p1 : Int32) (p2 : Int32) (p3 : Int32) (p0_4w : ST) : Option ST := (if p2 = 22 then (if ixb p3 640 = true then (if ixb p1 8 = true then (lt9 (upw p0w 12 (nn p1) (p0_4w 13 (nn p3))) fun (w4 : ST) => (fX3_moveVariable_J221 w4)) else none) else none) else (if p2 = 23 then (fX3_moveVariable_J221 p0w) else (if p2 = 24 then (fX3_moveVariable_J221 p0w) else (if p2 = 25 then (fX3_moveVariable_J221 p0w) else (if p2 = 26 then (fX3_moveVariable_J221 p0w) else (if p2 = 27 then (fX3_moveVariable_J221 p0w) else (if p2 = 28 then (fX3_moveVariable_J221 p0w) else (if p2 = 29 then (fX3_moveVariable_J221 p0w) else (if p2 = 30 then (if ixb ((p1 * 320) + p3) 2560 = true then ((fX3_push p0w (p0w 16 (nn ((p1 * 320) + p3)))).bind fun (o_14 : ST) => (fX3_moveVariable_J221 o_14)) else none) else (if p2 = 31 then ((fX3_pop p0w).bind fun (o_16 : Int32 × ST) => (if ixb ((p1 * 320) + p3) 2560 = true then (lt9 (upw (o_16.2) 16 (nn ((p1 * 320) + p3)) (o_16.1)) fun (w19 : ST) => (fX3_moveVariable_J221 w19)) else none)) else (if p2 = 32 then ((fX3_pop p0w).bind fun (o_21 : Int32 × ST) => (if ixb ((p1 * 320) + p3) 2560 = true then (lt9 (upw (o_21.2) 16 (nn ((p1 * 320) + p3)) (o_21.1)) fun (w24 : ST) => (if ixb ((p1 * 320) + p3) 2560 = true then ((fX3_push w24 (w24 16 (nn ((p1 * 320) + p3)))).bind fun (o_26 : ST) => (fX3_moveVariable_J221 o_26)) else none)) else none)) else (if p2 = 33 then ((fX3_pop p0w).bind fun (o_28 : Int32 × ST) => (if (o_28.1) = 0 then (if ixb p3 640 = true then (if ixb p1 8 = true then (lt9 (upw (o_28.2) 12 (nn p1) (p0_4w 13 (nn p3))) fun (w33 : ST) => (fX3_moveVariable_J221 w33)) else none) else none) else (fX3_moveVariable_J221 (o_28.2)))) else (if p2 = 34 then ((fX3_pop p0w).bind fun (o_35 : Int32 × ST) => (if (o_35.1) = 0 then (fX3_moveVariable_J221 (o_35.2)) else (if ixb p3 640 = true then (if ixb p1 8 = true then (lt9 (upw (o_35.2) 12 (nn p1) (p0_4w 13 (nn p3))) fun (w40 : ST) => (fX3_moveVariable_J221 w40)) else none) else none))) else (if p2 = 35 then (fX3_moveVariable_J221 p0w) else (if p2 = 36 then ((fX3_pop p0w).bind fun (o_43 : Int32 × ST) => (fX3_moveVariable_J221 (o_43.2))) else (fX3_moveVariable_J221 p0w))))))))))))))))
set_option maxHeartbeats 16000000 in
set_option maxRecDepth 100000 in
theorem kX3_moveVariable {zs : Nat × Nat} (l : Launch) (dC : Nat → ClassId) (dI : Nat → Nat → Nat) (p0a : Nat → Nat) (p0k : Nat → ClassId) (p0n : Nat → Nat) (p0w : ST) (p1 : Int32) (p2 : Int32) (p3 : Int32) (p0_4a : Nat → Nat) (p0_4k : Nat → ClassId) (p0_4w : ST) (p0_4l : SL) (sz : Nat) (o : ST) (hrun : fX3_moveVariable p0w p1 p2 p3 p0_4w = some o) : Met l yX3_moveVariable (wz yX3_moveVariable cX3_moveVariable 5 (Option.none : Option Jvm.ClassFile.FieldType)) ({ frames := 1, cells := 0, slots := 0, locals := 21 } : Room) (va_Pc [.ref (p0a 0), .int p1, .int p2, .int p3] (PRE zs dC dI ((oX3 (p0a 0) p0a p0k p0n p0w) ++ (oX6 (p0a 5) p0_4a p0_4k p0_4w p0_4l)) ((tX3 p0k) ++ (tX6 p0_4k)) sz)) (va_Qv (fun (_ : Unit) => True) (fun _ t => POST dC dI ((oX3 (p0a 0) p0a p0k p0n o) ++ (oX6 (p0a 5) p0_4a p0_4k p0_4w p0_4l)) ((tX3 p0k) ++ (tX6 p0_4k)) (va_A ((oX3 (p0a 0) p0a p0k p0n p0w) ++ (oX6 (p0a 5) p0_4a p0_4k p0_4w p0_4l)) sz) t) (va_A ((oX3 (p0a 0) p0a p0k p0n p0w) ++ (oX6 (p0a 5) p0_4a p0_4k p0_4w p0_4l)) sz)) 0 0 (va_A ((oX3 (p0a 0) p0a p0k p0n p0w) ++ (oX6 (p0a 5) p0_4a p0_4k p0_4w p0_4l)) sz) := by
  refine Met.ofW (cc := cX3_moveVariable) (maxL := 5) (ret := (Option.none : Option Jvm.ClassFile.FieldType)) (by decide) rfl ?_
  intro p e s m args below meth c s₁ B hml hv
  obtain ⟨rfl, hsz, hP, hK, hD0, hE⟩ := hv
  have hx := B.exec
  have hb := B.bytes
  have hr := B.returns
  have hts0 := atoms_spec (ws := wz yX3_moveVariable cX3_moveVariable 5 (Option.none : Option Jvm.ClassFile.FieldType)) B.pre
  have hts : ∀ w ∈ gw, w.before _ s = true := fun w h => hts0 w (List.mem_cons_of_mem _ h)
  have hown : s.vm.findClass RX3 = some m.cls := findClass_of_methodNamed B.named
  have hlocks := B.notSynchronized
  subst hsz
  have hD := hD0.self (sz := s.heap.size)
  refine gQ9 ?_
  intro Q hQ
  generalize hAe : va_A ((oX3 (p0a 0) p0a p0k p0n p0w) ++ (oX6 (p0a 5) p0_4a p0_4k p0_4w p0_4l)) s.heap.size = A at hD hE hQ
  have hA : ∀ q : Nat, s.heap.size ≤ q → A q := fun q h => by rw [← hAe]; exact Or.inr h
  have hS : va_S A s.heap s.heap [] := va_S.rf
  have hP : va_P (dC, dI) cls ((oX3 (p0a 0) p0a p0k p0n p0w) ++ (oX6 (p0a 5) p0_4a p0_4k p0_4w p0_4l)) s.heap := hP
  have hl := lv_entry ([.ref (p0a 0), .int p1, .int p2, .int p3]) (n := 5) (Nat.le_of_ble_eq_true rfl)
  rw [lg_entry_eq]
  generalize (lg_sl ([.ref (p0a 0), .int p1, .int p2, .int p3]) ++ List.replicate (5 - (lg_sl ([.ref (p0a 0), .int p1, .int p2, .int p3])).length) Slot.unset).toArray = ls at hl ⊢
  have hl : lv_has ls 5 [(0, .ref (p0a 0)), (1, .int p1), (2, .int p2), (3, .int p3)] := hl
  obtain ⟨H, hHe⟩ : ∃ H, H = s.heap := ⟨_, rfl⟩
  obtain ⟨locs, hle⟩ : ∃ locs : List Loc, locs = [] := ⟨_, rfl⟩
  rw [← hHe] at hP
  have hS : va_S A s.heap H locs := by rw [hHe, hle]; exact hS
  show W p l e ({ frames := 1, cells := 0, slots := 0, locals := 21 } : Room) s m ([.ref (p0a 0), .int p1, .int p2, .int p3] : List Value).toArray below meth c s.heap [] 0 0 Q (F0 m 0 ls [])
  rw [← hle]
  refine wH9 hHe ?_
  unfold fX3_moveVariable at hrun
  refine lv_iload_n hx hb dX3_moveVariable_0 rfl (lv_at hl 1 rfl) ?_
  refine lv_sipush (v := 320) hx hb dX3_moveVariable_1 (by decide) ?_
  refine lv_imul hx hb dX3_moveVariable_4 ?_
  refine lv_istore (lv' := [(4, .int (p1 * 320)), (0, .ref (p0a 0)), (1, .int p1), (2, .int p2), (3, .int p3)]) hx hb dX3_moveVariable_5 hl (by decide) rfl (fun ls hl => ?_)
  refine lv_iload_n hx hb dX3_moveVariable_7 rfl (lv_at hl 3 rfl) ?_
  have J221 : ∀ (p0w_221 : ST) (H : Heap) (locs : List Loc) (ls : Array Slot), (fX3_moveVariable_J221 p0w_221) = some o → va_P (dC, dI) cls ((oX3 (p0a 0) p0a p0k p0n p0w_221) ++ (oX6 (p0a 5) p0_4a p0_4k p0_4w p0_4l)) H → va_D A ((oX3 (p0a 0) p0a p0k p0n p0w_221) ++ (oX6 (p0a 5) p0_4a p0_4k p0_4w p0_4l)) → va_K (dC, dI) cls ((tX3 p0k) ++ (tX6 p0_4k)) s → va_S A s.heap H locs → lv_has ls 5 [] → W p l e ({ frames := 1, cells := 0, slots := 0, locals := 21 } : Room) s m ([.ref (p0a 0), .int p1, .int p2, .int p3] : List Value).toArray below meth c H locs 0 0 Q (F0 m 221 ls []) := by
    intro p0w_221 H locs ls hrun hP hD hK hS hl 
    unfold fX3_moveVariable_J221 at hrun
    have ho9 : p0w_221 = o := Option.some.inj hrun
    have hP9 : va_P (dC, dI) cls ((oX3 (p0a 0) p0a p0k p0n o) ++ (oX6 (p0a 5) p0_4a p0_4k p0_4w p0_4l)) H := by first | exact hP | (rw [← ho9]; exact hP)
    have hD9 : va_D A ((oX3 (p0a 0) p0a p0k p0n o) ++ (oX6 (p0a 5) p0_4a p0_4k p0_4w p0_4l)) := by first | exact hD | (rw [← ho9]; exact hD)
    subst hQ
    exact W.vret hx hb hr (fun t ht hW => ⟨⟨(), rfl, trivial, ⟨by rw [ht]; exact hP9, va_K.moved hW.alike hK, hD9⟩⟩, hS.F ht⟩) hS.2.2 dX3_moveVariable_221
  rcases br9 hrun with ⟨hc1, hrun⟩ | ⟨hc1, hrun⟩
  · refine lv_tableIn (off := 137) (tgt := 145) hx hb dX3_moveVariable_8 (by rw [hc1]; decide) (by rw [hc1]; decide) (by rw [hc1]; rfl) (by decide) ?_
    refine lv_aload_n hx hb dX3_moveVariable_145 rfl (lv_at hl 1 rfl) ?_
    refine va_get (D := (dC, dI)) (ci := 10) (v := .ref (p0a 12)) (C := RX3) (T := TX3) (N := 20) hx hb hts i_X3 hown hK hP 0 rfl rfl 11 (by decide) (hts _ qw908) (fun _ h9 => h9) rfl dX3_moveVariable_146 ?_
    refine lv_iload_n hx hb dX3_moveVariable_149 rfl (lv_at hl 2 rfl) ?_
    refine lv_aload_n hx hb dX3_moveVariable_150 rfl (lv_at hl 1 rfl) ?_
    refine va_get (D := (dC, dI)) (ci := 10) (v := .ref (p0a 5)) (C := RX3) (T := TX3) (N := 20) hx hb hts i_X3 hown hK hP 0 rfl rfl 4 (by decide) (hts _ qw899) (fun _ h9 => h9) rfl dX3_moveVariable_151 ?_
    refine va_get (D := (dC, dI)) (ci := 2) (v := .ref (p0_4a 13)) (C := RX6) (T := TX6) (N := 13) hx hb hts i_X6 hown hK hP 11 rfl rfl 12 (by decide) (hts _ qw933) (fun _ h9 => h9) rfl dX3_moveVariable_154 ?_
    refine lv_iload_n hx hb dX3_moveVariable_157 rfl (lv_at hl 4 rfl) ?_
    obtain ⟨hq2, hrun⟩ := chk9 hrun
    refine va_iald hx hb hK hP 21 19 rfl rfl (ixb_in hq2) dX3_moveVariable_158 ?_
    obtain ⟨hq3, hrun⟩ := chk9 hrun
    refine va_iast hx hb hK hP hD hS 4 3 rfl rfl (ixb_in hq3) dX3_moveVariable_159 (fun H locs hP hD hS => ?_)
    have hP : va_P (dC, dI) cls ((oX3 (p0a 0) p0a p0k p0n (upw p0w 12 (nn p1) (p0_4w 13 (nn p3)))) ++ (oX6 (p0a 5) p0_4a p0_4k p0_4w p0_4l)) H := hP
    have hD : va_D A ((oX3 (p0a 0) p0a p0k p0n (upw p0w 12 (nn p1) (p0_4w 13 (nn p3)))) ++ (oX6 (p0a 5) p0_4a p0_4k p0_4w p0_4l)) := hD
    obtain ⟨w4, ew4, hrun⟩ := let9 hrun
    rw [← ew4] at hP hD
    refine lv_goto (tgt := 221) hx hb dX3_moveVariable_160 (by decide) ?_
    exact J221 w4 _ _ _ hrun hP hD hK hS (lv_sub hl [] rfl)
  rcases br9 hrun with ⟨hc5, hrun⟩ | ⟨hc5, hrun⟩
  · refine lv_tableIn (off := 213) (tgt := 221) hx hb dX3_moveVariable_8 (by rw [hc5]; decide) (by rw [hc5]; decide) (by rw [hc5]; rfl) (by decide) ?_
    exact J221 p0w _ _ _ hrun hP hD hK hS (lv_sub hl [] rfl)
  rcases br9 hrun with ⟨hc6, hrun⟩ | ⟨hc6, hrun⟩
  · refine lv_tableIn (off := 213) (tgt := 221) hx hb dX3_moveVariable_8 (by rw [hc6]; decide) (by rw [hc6]; decide) (by rw [hc6]; rfl) (by decide) ?_
    exact J221 p0w _ _ _ hrun hP hD hK hS (lv_sub hl [] rfl)
  rcases br9 hrun with ⟨hc7, hrun⟩ | ⟨hc7, hrun⟩
  · refine lv_tableIn (off := 213) (tgt := 221) hx hb dX3_moveVariable_8 (by rw [hc7]; decide) (by rw [hc7]; decide) (by rw [hc7]; rfl) (by decide) ?_
    exact J221 p0w _ _ _ hrun hP hD hK hS (lv_sub hl [] rfl)
  rcases br9 hrun with ⟨hc8, hrun⟩ | ⟨hc8, hrun⟩
  · refine lv_tableIn (off := 213) (tgt := 221) hx hb dX3_moveVariable_8 (by rw [hc8]; decide) (by rw [hc8]; decide) (by rw [hc8]; rfl) (by decide) ?_
    exact J221 p0w _ _ _ hrun hP hD hK hS (lv_sub hl [] rfl)
  rcases br9 hrun with ⟨hc9, hrun⟩ | ⟨hc9, hrun⟩
  · refine lv_tableIn (off := 213) (tgt := 221) hx hb dX3_moveVariable_8 (by rw [hc9]; decide) (by rw [hc9]; decide) (by rw [hc9]; rfl) (by decide) ?_
    exact J221 p0w _ _ _ hrun hP hD hK hS (lv_sub hl [] rfl)
  rcases br9 hrun with ⟨hc10, hrun⟩ | ⟨hc10, hrun⟩
  · refine lv_tableIn (off := 213) (tgt := 221) hx hb dX3_moveVariable_8 (by rw [hc10]; decide) (by rw [hc10]; decide) (by rw [hc10]; rfl) (by decide) ?_
    exact J221 p0w _ _ _ hrun hP hD hK hS (lv_sub hl [] rfl)
  rcases br9 hrun with ⟨hc11, hrun⟩ | ⟨hc11, hrun⟩
  · refine lv_tableIn (off := 213) (tgt := 221) hx hb dX3_moveVariable_8 (by rw [hc11]; decide) (by rw [hc11]; decide) (by rw [hc11]; rfl) (by decide) ?_
    exact J221 p0w _ _ _ hrun hP hD hK hS (lv_sub hl [] rfl)
  rcases br9 hrun with ⟨hc12, hrun⟩ | ⟨hc12, hrun⟩
  · refine lv_tableIn (off := 76) (tgt := 84) hx hb dX3_moveVariable_8 (by rw [hc12]; decide) (by rw [hc12]; decide) (by rw [hc12]; rfl) (by decide) ?_
    refine lv_aload_n hx hb dX3_moveVariable_84 rfl (lv_at hl 1 rfl) ?_
    refine lv_aload_n hx hb dX3_moveVariable_85 rfl (lv_at hl 1 rfl) ?_
    refine va_get (D := (dC, dI)) (ci := 10) (v := .ref (p0a 16)) (C := RX3) (T := TX3) (N := 20) hx hb hts i_X3 hown hK hP 0 rfl rfl 15 (by decide) (hts _ qw891) (fun _ h9 => h9) rfl dX3_moveVariable_86 ?_
    refine lv_iload hx hb dX3_moveVariable_89 (lv_at hl 0 rfl) ?_
    refine lv_iload_n hx hb dX3_moveVariable_91 rfl (lv_at hl 4 rfl) ?_
    refine lv_iadd hx hb dX3_moveVariable_92 ?_
    obtain ⟨hq13, hrun⟩ := chk9 hrun
    refine va_iald hx hb hK hP 8 7 rfl rfl (ixb_in hq13) dX3_moveVariable_93 ?_
    obtain ⟨o_14, hc_14, hrun⟩ := bnd9 hrun
    have hPc := hP.sub (ws' := (oX3 (p0a 0) p0a p0k p0n p0w)) [0, 1, 2, 3, 4, 5, 6, 7, 8, 9, 10] rfl
    have hDc := hD.sub (ws' := (oX3 (p0a 0) p0a p0k p0n p0w)) [0, 1, 2, 3, 4, 5, 6, 7, 8, 9, 10] (by decide) rfl
    have hKc := hK.sub (tys' := (tX3 p0k)) [0, 1, 2, 3, 4, 5, 6, 7, 8, 9] rfl
    have hFc := va_free (wc := (oX3 (p0a 0) p0a p0k p0n p0w)) hD hS hA [0, 1, 2, 3, 4, 5, 6, 7, 8, 9, 10] rfl
    refine va_callv (va_runV (As := [.int (p0w 16 (nn ((p1 * 320) + p3)))]) (rest := []) ⟨hx, hb, hml, hown, hts⟩ (kX3_push l dC dI (p0a := (st0 (p0a 0) p0a)) (p0k := p0k) (p0n := p0n) (p0w := p0w) (p1 := (p0w 16 (nn ((p1 * 320) + p3)))) (sz := _) (o := o_14) (hrun := hc_14)) (cwV 1 hts (gi_V qw935 qw936 qw937 qw888 (gi_z qw934)) rfl rfl rfl (by decide +kernel) ⟨Nat.le_of_ble_eq_true rfl, Nat.le_of_ble_eq_true rfl⟩) ⟨PRE.blind, va_recv hKc hPc (ci := 10) (q0 := 0) rfl rfl, PRE.of hE hS hFc hPc hKc hDc⟩ rfl rfl hl.1 rfl (lv_room (Nat.le_of_ble_eq_true rfl)) dX3_moveVariable_94 ⟨(Nat.le_of_ble_eq_true rfl), (Nat.le_of_ble_eq_true rfl)⟩) hS (fun q _ h => hFc q h) hFc (fun u t H locs ht hvm hw hB hz1 hk1 hS => ?_)
    obtain ⟨hP, hD, hK⟩ := JOIN (wr := (oX6 (p0a 5) p0_4a p0_4k p0_4w p0_4l)) hP hD hK [0, 1, 2, 3, 4, 5, 6, 7, 8, 9, 10] [11, 12, 13, 14, 15, 16, 17, 18, 19, 20, 21] [10, 11, 12, 13, 14, 15, 16, 17, 18, 19] rfl rfl (by decide) (by decide) rfl hk1 hFc ht hvm hB
    have hP : va_P (dC, dI) cls ((oX3 (p0a 0) p0a p0k p0n o_14) ++ (oX6 (p0a 5) p0_4a p0_4k p0_4w p0_4l)) H := hP.sub [11, 12, 13, 14, 15, 16, 17, 18, 19, 20, 21, 0, 1, 2, 3, 4, 5, 6, 7, 8, 9, 10] rfl
    have hD : va_D A ((oX3 (p0a 0) p0a p0k p0n o_14) ++ (oX6 (p0a 5) p0_4a p0_4k p0_4w p0_4l)) := hD.sub [11, 12, 13, 14, 15, 16, 17, 18, 19, 20, 21, 0, 1, 2, 3, 4, 5, 6, 7, 8, 9, 10] (by decide) rfl
    have hK : va_K (dC, dI) cls ((tX3 p0k) ++ (tX6 p0_4k)) s := hK.sub [10, 11, 12, 13, 14, 15, 16, 17, 18, 19, 0, 1, 2, 3, 4, 5, 6, 7, 8, 9] rfl
    refine lv_goto (tgt := 221) hx hb dX3_moveVariable_97 (by decide) ?_
    exact J221 o_14 _ _ _ hrun hP hD hK hS (lv_sub hl [] rfl)
  rcases br9 hrun with ⟨hc15, hrun⟩ | ⟨hc15, hrun⟩
  · refine lv_tableIn (off := 92) (tgt := 100) hx hb dX3_moveVariable_8 (by rw [hc15]; decide) (by rw [hc15]; decide) (by rw [hc15]; rfl) (by decide) ?_
    refine lv_aload_n hx hb dX3_moveVariable_100 rfl (lv_at hl 1 rfl) ?_
    refine va_get (D := (dC, dI)) (ci := 10) (v := .ref (p0a 16)) (C := RX3) (T := TX3) (N := 20) hx hb hts i_X3 hown hK hP 0 rfl rfl 15 (by decide) (hts _ qw891) (fun _ h9 => h9) rfl dX3_moveVariable_101 ?_
    refine lv_iload hx hb dX3_moveVariable_104 (lv_at hl 0 rfl) ?_
    refine lv_iload_n hx hb dX3_moveVariable_106 rfl (lv_at hl 4 rfl) ?_
    refine lv_iadd hx hb dX3_moveVariable_107 ?_
    refine lv_aload_n hx hb dX3_moveVariable_108 rfl (lv_at hl 1 rfl) ?_
    obtain ⟨o_16, hc_16, hrun⟩ := bnd9 hrun
    have hPc := hP.sub (ws' := (oX3 (p0a 0) p0a p0k p0n p0w)) [0, 1, 2, 3, 4, 5, 6, 7, 8, 9, 10] rfl
    have hDc := hD.sub (ws' := (oX3 (p0a 0) p0a p0k p0n p0w)) [0, 1, 2, 3, 4, 5, 6, 7, 8, 9, 10] (by decide) rfl
    have hKc := hK.sub (tys' := (tX3 p0k)) [0, 1, 2, 3, 4, 5, 6, 7, 8, 9] rfl
    have hFc := va_free (wc := (oX3 (p0a 0) p0a p0k p0n p0w)) hD hS hA [0, 1, 2, 3, 4, 5, 6, 7, 8, 9, 10] rfl
    refine va_calli (va_runV (As := []) (rest := [.int ((p1 * 320) + p3), .ref (p0a 16)]) ⟨hx, hb, hml, hown, hts⟩ (kX3_pop l dC dI (p0a := (st0 (p0a 0) p0a)) (p0k := p0k) (p0n := p0n) (p0w := p0w) (sz := _) (o := o_16) (hrun := hc_16)) (cwV 0 hts (gi_V qw904 qw905 qw906 qw888 (gi_z qw903)) rfl rfl rfl (by decide +kernel) ⟨Nat.le_of_ble_eq_true rfl, Nat.le_of_ble_eq_true rfl⟩) ⟨PRE.blind, va_recv hKc hPc (ci := 10) (q0 := 0) rfl rfl, PRE.of hE hS hFc hPc hKc hDc⟩ rfl rfl hl.1 rfl (lv_room (Nat.le_of_ble_eq_true rfl)) dX3_moveVariable_109 ⟨(Nat.le_of_ble_eq_true rfl), (Nat.le_of_ble_eq_true rfl)⟩) hS (fun q _ h => hFc q h) hFc (fun r17 u t H locs ht hvm hw hB hz1 hk1 hS => ?_)
    obtain ⟨hP, hD, hK⟩ := JOIN (wr := (oX6 (p0a 5) p0_4a p0_4k p0_4w p0_4l)) hP hD hK [0, 1, 2, 3, 4, 5, 6, 7, 8, 9, 10] [11, 12, 13, 14, 15, 16, 17, 18, 19, 20, 21] [10, 11, 12, 13, 14, 15, 16, 17, 18, 19] rfl rfl (by decide) (by decide) rfl hk1 hFc ht hvm hB
    have hP : va_P (dC, dI) cls ((oX3 (p0a 0) p0a p0k p0n (o_16.2)) ++ (oX6 (p0a 5) p0_4a p0_4k p0_4w p0_4l)) H := hP.sub [11, 12, 13, 14, 15, 16, 17, 18, 19, 20, 21, 0, 1, 2, 3, 4, 5, 6, 7, 8, 9, 10] rfl
    have hD : va_D A ((oX3 (p0a 0) p0a p0k p0n (o_16.2)) ++ (oX6 (p0a 5) p0_4a p0_4k p0_4w p0_4l)) := hD.sub [11, 12, 13, 14, 15, 16, 17, 18, 19, 20, 21, 0, 1, 2, 3, 4, 5, 6, 7, 8, 9, 10] (by decide) rfl
    have hK : va_K (dC, dI) cls ((tX3 p0k) ++ (tX6 p0_4k)) s := hK.sub [10, 11, 12, 13, 14, 15, 16, 17, 18, 19, 0, 1, 2, 3, 4, 5, 6, 7, 8, 9] rfl
    obtain rfl : r17 = (o_16.1) := hw
    obtain ⟨hq18, hrun⟩ := chk9 hrun
    refine va_iast hx hb hK hP hD hS 8 7 rfl rfl (ixb_in hq18) dX3_moveVariable_112 (fun H locs hP hD hS => ?_)
    have hP : va_P (dC, dI) cls ((oX3 (p0a 0) p0a p0k p0n (upw (o_16.2) 16 (nn ((p1 * 320) + p3)) (o_16.1))) ++ (oX6 (p0a 5) p0_4a p0_4k p0_4w p0_4l)) H := hP
    have hD : va_D A ((oX3 (p0a 0) p0a p0k p0n (upw (o_16.2) 16 (nn ((p1 * 320) + p3)) (o_16.1))) ++ (oX6 (p0a 5) p0_4a p0_4k p0_4w p0_4l)) := hD
    obtain ⟨w19, ew19, hrun⟩ := let9 hrun
    rw [← ew19] at hP hD
    refine lv_goto (tgt := 221) hx hb dX3_moveVariable_113 (by decide) ?_
    exact J221 w19 _ _ _ hrun hP hD hK hS (lv_sub hl [] rfl)
  rcases br9 hrun with ⟨hc20, hrun⟩ | ⟨hc20, hrun⟩
  · refine lv_tableIn (off := 108) (tgt := 116) hx hb dX3_moveVariable_8 (by rw [hc20]; decide) (by rw [hc20]; decide) (by rw [hc20]; rfl) (by decide) ?_
    refine lv_aload_n hx hb dX3_moveVariable_116 rfl (lv_at hl 1 rfl) ?_
    refine va_get (D := (dC, dI)) (ci := 10) (v := .ref (p0a 16)) (C := RX3) (T := TX3) (N := 20) hx hb hts i_X3 hown hK hP 0 rfl rfl 15 (by decide) (hts _ qw891) (fun _ h9 => h9) rfl dX3_moveVariable_117 ?_
    refine lv_iload hx hb dX3_moveVariable_120 (lv_at hl 0 rfl) ?_
    refine lv_iload_n hx hb dX3_moveVariable_122 rfl (lv_at hl 4 rfl) ?_
    refine lv_iadd hx hb dX3_moveVariable_123 ?_
    refine lv_aload_n hx hb dX3_moveVariable_124 rfl (lv_at hl 1 rfl) ?_
    obtain ⟨o_21, hc_21, hrun⟩ := bnd9 hrun
    have hPc := hP.sub (ws' := (oX3 (p0a 0) p0a p0k p0n p0w)) [0, 1, 2, 3, 4, 5, 6, 7, 8, 9, 10] rfl
    have hDc := hD.sub (ws' := (oX3 (p0a 0) p0a p0k p0n p0w)) [0, 1, 2, 3, 4, 5, 6, 7, 8, 9, 10] (by decide) rfl
    have hKc := hK.sub (tys' := (tX3 p0k)) [0, 1, 2, 3, 4, 5, 6, 7, 8, 9] rfl
    have hFc := va_free (wc := (oX3 (p0a 0) p0a p0k p0n p0w)) hD hS hA [0, 1, 2, 3, 4, 5, 6, 7, 8, 9, 10] rfl
    refine va_calli (va_runV (As := []) (rest := [.int ((p1 * 320) + p3), .ref (p0a 16)]) ⟨hx, hb, hml, hown, hts⟩ (kX3_pop l dC dI (p0a := (st0 (p0a 0) p0a)) (p0k := p0k) (p0n := p0n) (p0w := p0w) (sz := _) (o := o_21) (hrun := hc_21)) (cwV 0 hts (gi_V qw904 qw905 qw906 qw888 (gi_z qw903)) rfl rfl rfl (by decide +kernel) ⟨Nat.le_of_ble_eq_true rfl, Nat.le_of_ble_eq_true rfl⟩) ⟨PRE.blind, va_recv hKc hPc (ci := 10) (q0 := 0) rfl rfl, PRE.of hE hS hFc hPc hKc hDc⟩ rfl rfl hl.1 rfl (lv_room (Nat.le_of_ble_eq_true rfl)) dX3_moveVariable_125 ⟨(Nat.le_of_ble_eq_true rfl), (Nat.le_of_ble_eq_true rfl)⟩) hS (fun q _ h => hFc q h) hFc (fun r22 u t H locs ht hvm hw hB hz1 hk1 hS => ?_)
    obtain ⟨hP, hD, hK⟩ := JOIN (wr := (oX6 (p0a 5) p0_4a p0_4k p0_4w p0_4l)) hP hD hK [0, 1, 2, 3, 4, 5, 6, 7, 8, 9, 10] [11, 12, 13, 14, 15, 16, 17, 18, 19, 20, 21] [10, 11, 12, 13, 14, 15, 16, 17, 18, 19] rfl rfl (by decide) (by decide) rfl hk1 hFc ht hvm hB
    have hP : va_P (dC, dI) cls ((oX3 (p0a 0) p0a p0k p0n (o_21.2)) ++ (oX6 (p0a 5) p0_4a p0_4k p0_4w p0_4l)) H := hP.sub [11, 12, 13, 14, 15, 16, 17, 18, 19, 20, 21, 0, 1, 2, 3, 4, 5, 6, 7, 8, 9, 10] rfl
    have hD : va_D A ((oX3 (p0a 0) p0a p0k p0n (o_21.2)) ++ (oX6 (p0a 5) p0_4a p0_4k p0_4w p0_4l)) := hD.sub [11, 12, 13, 14, 15, 16, 17, 18, 19, 20, 21, 0, 1, 2, 3, 4, 5, 6, 7, 8, 9, 10] (by decide) rfl
    have hK : va_K (dC, dI) cls ((tX3 p0k) ++ (tX6 p0_4k)) s := hK.sub [10, 11, 12, 13, 14, 15, 16, 17, 18, 19, 0, 1, 2, 3, 4, 5, 6, 7, 8, 9] rfl
    obtain rfl : r22 = (o_21.1) := hw
    obtain ⟨hq23, hrun⟩ := chk9 hrun
    refine va_iast hx hb hK hP hD hS 8 7 rfl rfl (ixb_in hq23) dX3_moveVariable_128 (fun H locs hP hD hS => ?_)
    have hP : va_P (dC, dI) cls ((oX3 (p0a 0) p0a p0k p0n (upw (o_21.2) 16 (nn ((p1 * 320) + p3)) (o_21.1))) ++ (oX6 (p0a 5) p0_4a p0_4k p0_4w p0_4l)) H := hP
    have hD : va_D A ((oX3 (p0a 0) p0a p0k p0n (upw (o_21.2) 16 (nn ((p1 * 320) + p3)) (o_21.1))) ++ (oX6 (p0a 5) p0_4a p0_4k p0_4w p0_4l)) := hD
    obtain ⟨w24, ew24, hrun⟩ := let9 hrun
    rw [← ew24] at hP hD
    refine lv_aload_n hx hb dX3_moveVariable_129 rfl (lv_at hl 1 rfl) ?_
    refine lv_aload_n hx hb dX3_moveVariable_130 rfl (lv_at hl 1 rfl) ?_
    refine va_get (D := (dC, dI)) (ci := 10) (v := .ref (p0a 16)) (C := RX3) (T := TX3) (N := 20) hx hb hts i_X3 hown hK hP 0 rfl rfl 15 (by decide) (hts _ qw891) (fun _ h9 => h9) rfl dX3_moveVariable_131 ?_
    refine lv_iload hx hb dX3_moveVariable_134 (lv_at hl 0 rfl) ?_
    refine lv_iload_n hx hb dX3_moveVariable_136 rfl (lv_at hl 4 rfl) ?_
    refine lv_iadd hx hb dX3_moveVariable_137 ?_
    obtain ⟨hq25, hrun⟩ := chk9 hrun
    refine va_iald hx hb hK hP 8 7 rfl rfl (ixb_in hq25) dX3_moveVariable_138 ?_
    obtain ⟨o_26, hc_26, hrun⟩ := bnd9 hrun
    have hPc := hP.sub (ws' := (oX3 (p0a 0) p0a p0k p0n w24)) [0, 1, 2, 3, 4, 5, 6, 7, 8, 9, 10] rfl
    have hDc := hD.sub (ws' := (oX3 (p0a 0) p0a p0k p0n w24)) [0, 1, 2, 3, 4, 5, 6, 7, 8, 9, 10] (by decide) rfl
    have hKc := hK.sub (tys' := (tX3 p0k)) [0, 1, 2, 3, 4, 5, 6, 7, 8, 9] rfl
    have hFc := va_free (wc := (oX3 (p0a 0) p0a p0k p0n w24)) hD hS hA [0, 1, 2, 3, 4, 5, 6, 7, 8, 9, 10] rfl
    refine va_callv (va_runV (As := [.int (w24 16 (nn ((p1 * 320) + p3)))]) (rest := []) ⟨hx, hb, hml, hown, hts⟩ (kX3_push l dC dI (p0a := (st0 (p0a 0) p0a)) (p0k := p0k) (p0n := p0n) (p0w := w24) (p1 := (w24 16 (nn ((p1 * 320) + p3)))) (sz := _) (o := o_26) (hrun := hc_26)) (cwV 1 hts (gi_V qw935 qw936 qw937 qw888 (gi_z qw934)) rfl rfl rfl (by decide +kernel) ⟨Nat.le_of_ble_eq_true rfl, Nat.le_of_ble_eq_true rfl⟩) ⟨PRE.blind, va_recv hKc hPc (ci := 10) (q0 := 0) rfl rfl, PRE.of hE hS hFc hPc hKc hDc⟩ rfl rfl hl.1 rfl (lv_room (Nat.le_of_ble_eq_true rfl)) dX3_moveVariable_139 ⟨(Nat.le_of_ble_eq_true rfl), (Nat.le_of_ble_eq_true rfl)⟩) hS (fun q _ h => hFc q h) hFc (fun u t H locs ht hvm hw hB hz1 hk1 hS => ?_)
    obtain ⟨hP, hD, hK⟩ := JOIN (wr := (oX6 (p0a 5) p0_4a p0_4k p0_4w p0_4l)) hP hD hK [0, 1, 2, 3, 4, 5, 6, 7, 8, 9, 10] [11, 12, 13, 14, 15, 16, 17, 18, 19, 20, 21] [10, 11, 12, 13, 14, 15, 16, 17, 18, 19] rfl rfl (by decide) (by decide) rfl hk1 hFc ht hvm hB
    have hP : va_P (dC, dI) cls ((oX3 (p0a 0) p0a p0k p0n o_26) ++ (oX6 (p0a 5) p0_4a p0_4k p0_4w p0_4l)) H := hP.sub [11, 12, 13, 14, 15, 16, 17, 18, 19, 20, 21, 0, 1, 2, 3, 4, 5, 6, 7, 8, 9, 10] rfl
    have hD : va_D A ((oX3 (p0a 0) p0a p0k p0n o_26) ++ (oX6 (p0a 5) p0_4a p0_4k p0_4w p0_4l)) := hD.sub [11, 12, 13, 14, 15, 16, 17, 18, 19, 20, 21, 0, 1, 2, 3, 4, 5, 6, 7, 8, 9, 10] (by decide) rfl
    have hK : va_K (dC, dI) cls ((tX3 p0k) ++ (tX6 p0_4k)) s := hK.sub [10, 11, 12, 13, 14, 15, 16, 17, 18, 19, 0, 1, 2, 3, 4, 5, 6, 7, 8, 9] rfl
    refine lv_goto (tgt := 221) hx hb dX3_moveVariable_142 (by decide) ?_
    exact J221 o_26 _ _ _ hrun hP hD hK hS (lv_sub hl [] rfl)
  rcases br9 hrun with ⟨hc27, hrun⟩ | ⟨hc27, hrun⟩
  · refine lv_tableIn (off := 155) (tgt := 163) hx hb dX3_moveVariable_8 (by rw [hc27]; decide) (by rw [hc27]; decide) (by rw [hc27]; rfl) (by decide) ?_
    refine lv_aload_n hx hb dX3_moveVariable_163 rfl (lv_at hl 1 rfl) ?_
    obtain ⟨o_28, hc_28, hrun⟩ := bnd9 hrun
    have hPc := hP.sub (ws' := (oX3 (p0a 0) p0a p0k p0n p0w)) [0, 1, 2, 3, 4, 5, 6, 7, 8, 9, 10] rfl
    have hDc := hD.sub (ws' := (oX3 (p0a 0) p0a p0k p0n p0w)) [0, 1, 2, 3, 4, 5, 6, 7, 8, 9, 10] (by decide) rfl
    have hKc := hK.sub (tys' := (tX3 p0k)) [0, 1, 2, 3, 4, 5, 6, 7, 8, 9] rfl
    have hFc := va_free (wc := (oX3 (p0a 0) p0a p0k p0n p0w)) hD hS hA [0, 1, 2, 3, 4, 5, 6, 7, 8, 9, 10] rfl
    refine va_calli (va_runV (As := []) (rest := []) ⟨hx, hb, hml, hown, hts⟩ (kX3_pop l dC dI (p0a := (st0 (p0a 0) p0a)) (p0k := p0k) (p0n := p0n) (p0w := p0w) (sz := _) (o := o_28) (hrun := hc_28)) (cwV 0 hts (gi_V qw904 qw905 qw906 qw888 (gi_z qw903)) rfl rfl rfl (by decide +kernel) ⟨Nat.le_of_ble_eq_true rfl, Nat.le_of_ble_eq_true rfl⟩) ⟨PRE.blind, va_recv hKc hPc (ci := 10) (q0 := 0) rfl rfl, PRE.of hE hS hFc hPc hKc hDc⟩ rfl rfl hl.1 rfl (lv_room (Nat.le_of_ble_eq_true rfl)) dX3_moveVariable_164 ⟨(Nat.le_of_ble_eq_true rfl), (Nat.le_of_ble_eq_true rfl)⟩) hS (fun q _ h => hFc q h) hFc (fun r29 u t H locs ht hvm hw hB hz1 hk1 hS => ?_)
    obtain ⟨hP, hD, hK⟩ := JOIN (wr := (oX6 (p0a 5) p0_4a p0_4k p0_4w p0_4l)) hP hD hK [0, 1, 2, 3, 4, 5, 6, 7, 8, 9, 10] [11, 12, 13, 14, 15, 16, 17, 18, 19, 20, 21] [10, 11, 12, 13, 14, 15, 16, 17, 18, 19] rfl rfl (by decide) (by decide) rfl hk1 hFc ht hvm hB
    have hP : va_P (dC, dI) cls ((oX3 (p0a 0) p0a p0k p0n (o_28.2)) ++ (oX6 (p0a 5) p0_4a p0_4k p0_4w p0_4l)) H := hP.sub [11, 12, 13, 14, 15, 16, 17, 18, 19, 20, 21, 0, 1, 2, 3, 4, 5, 6, 7, 8, 9, 10] rfl
    have hD : va_D A ((oX3 (p0a 0) p0a p0k p0n (o_28.2)) ++ (oX6 (p0a 5) p0_4a p0_4k p0_4w p0_4l)) := hD.sub [11, 12, 13, 14, 15, 16, 17, 18, 19, 20, 21, 0, 1, 2, 3, 4, 5, 6, 7, 8, 9, 10] (by decide) rfl
    have hK : va_K (dC, dI) cls ((tX3 p0k) ++ (tX6 p0_4k)) s := hK.sub [10, 11, 12, 13, 14, 15, 16, 17, 18, 19, 0, 1, 2, 3, 4, 5, 6, 7, 8, 9] rfl
    obtain rfl : r29 = (o_28.1) := hw
    rcases br9 hrun with ⟨hc30, hrun⟩ | ⟨hc30, hrun⟩
    · refine lv_if_ne (tgt := 221) hx hb dX3_moveVariable_167 (by decide) (fun c => absurd hc30 c) (fun _ => ?_)
      refine lv_aload_n hx hb dX3_moveVariable_170 rfl (lv_at hl 1 rfl) ?_
      refine va_get (D := (dC, dI)) (ci := 10) (v := .ref (p0a 12)) (C := RX3) (T := TX3) (N := 20) hx hb hts i_X3 hown hK hP 0 rfl rfl 11 (by decide) (hts _ qw908) (fun _ h9 => h9) rfl dX3_moveVariable_171 ?_
      refine lv_iload_n hx hb dX3_moveVariable_174 rfl (lv_at hl 2 rfl) ?_
      refine lv_aload_n hx hb dX3_moveVariable_175 rfl (lv_at hl 1 rfl) ?_
      refine va_get (D := (dC, dI)) (ci := 10) (v := .ref (p0a 5)) (C := RX3) (T := TX3) (N := 20) hx hb hts i_X3 hown hK hP 0 rfl rfl 4 (by decide) (hts _ qw899) (fun _ h9 => h9) rfl dX3_moveVariable_176 ?_
      refine va_get (D := (dC, dI)) (ci := 2) (v := .ref (p0_4a 13)) (C := RX6) (T := TX6) (N := 13) hx hb hts i_X6 hown hK hP 11 rfl rfl 12 (by decide) (hts _ qw933) (fun _ h9 => h9) rfl dX3_moveVariable_179 ?_
      refine lv_iload_n hx hb dX3_moveVariable_182 rfl (lv_at hl 4 rfl) ?_
      obtain ⟨hq31, hrun⟩ := chk9 hrun
      refine va_iald hx hb hK hP 21 19 rfl rfl (ixb_in hq31) dX3_moveVariable_183 ?_
      obtain ⟨hq32, hrun⟩ := chk9 hrun
      refine va_iast hx hb hK hP hD hS 4 3 rfl rfl (ixb_in hq32) dX3_moveVariable_184 (fun H locs hP hD hS => ?_)
      have hP : va_P (dC, dI) cls ((oX3 (p0a 0) p0a p0k p0n (upw (o_28.2) 12 (nn p1) (p0_4w 13 (nn p3)))) ++ (oX6 (p0a 5) p0_4a p0_4k p0_4w p0_4l)) H := hP
      have hD : va_D A ((oX3 (p0a 0) p0a p0k p0n (upw (o_28.2) 12 (nn p1) (p0_4w 13 (nn p3)))) ++ (oX6 (p0a 5) p0_4a p0_4k p0_4w p0_4l)) := hD
      obtain ⟨w33, ew33, hrun⟩ := let9 hrun
      rw [← ew33] at hP hD
      refine lv_goto (tgt := 221) hx hb dX3_moveVariable_185 (by decide) ?_
      exact J221 w33 _ _ _ hrun hP hD hK hS (lv_sub hl [] rfl)
    · refine lv_if_ne (tgt := 221) hx hb dX3_moveVariable_167 (by decide) (fun _ => ?_) (fun c => absurd c hc30)
      exact J221 (o_28.2) _ _ _ hrun hP hD hK hS (lv_sub hl [] rfl)
  rcases br9 hrun with ⟨hc34, hrun⟩ | ⟨hc34, hrun⟩
  · refine lv_tableIn (off := 180) (tgt := 188) hx hb dX3_moveVariable_8 (by rw [hc34]; decide) (by rw [hc34]; decide) (by rw [hc34]; rfl) (by decide) ?_
    refine lv_aload_n hx hb dX3_moveVariable_188 rfl (lv_at hl 1 rfl) ?_
    obtain ⟨o_35, hc_35, hrun⟩ := bnd9 hrun
    have hPc := hP.sub (ws' := (oX3 (p0a 0) p0a p0k p0n p0w)) [0, 1, 2, 3, 4, 5, 6, 7, 8, 9, 10] rfl
    have hDc := hD.sub (ws' := (oX3 (p0a 0) p0a p0k p0n p0w)) [0, 1, 2, 3, 4, 5, 6, 7, 8, 9, 10] (by decide) rfl
    have hKc := hK.sub (tys' := (tX3 p0k)) [0, 1, 2, 3, 4, 5, 6, 7, 8, 9] rfl
    have hFc := va_free (wc := (oX3 (p0a 0) p0a p0k p0n p0w)) hD hS hA [0, 1, 2, 3, 4, 5, 6, 7, 8, 9, 10] rfl
    refine va_calli (va_runV (As := []) (rest := []) ⟨hx, hb, hml, hown, hts⟩ (kX3_pop l dC dI (p0a := (st0 (p0a 0) p0a)) (p0k := p0k) (p0n := p0n) (p0w := p0w) (sz := _) (o := o_35) (hrun := hc_35)) (cwV 0 hts (gi_V qw904 qw905 qw906 qw888 (gi_z qw903)) rfl rfl rfl (by decide +kernel) ⟨Nat.le_of_ble_eq_true rfl, Nat.le_of_ble_eq_true rfl⟩) ⟨PRE.blind, va_recv hKc hPc (ci := 10) (q0 := 0) rfl rfl, PRE.of hE hS hFc hPc hKc hDc⟩ rfl rfl hl.1 rfl (lv_room (Nat.le_of_ble_eq_true rfl)) dX3_moveVariable_189 ⟨(Nat.le_of_ble_eq_true rfl), (Nat.le_of_ble_eq_true rfl)⟩) hS (fun q _ h => hFc q h) hFc (fun r36 u t H locs ht hvm hw hB hz1 hk1 hS => ?_)
    obtain ⟨hP, hD, hK⟩ := JOIN (wr := (oX6 (p0a 5) p0_4a p0_4k p0_4w p0_4l)) hP hD hK [0, 1, 2, 3, 4, 5, 6, 7, 8, 9, 10] [11, 12, 13, 14, 15, 16, 17, 18, 19, 20, 21] [10, 11, 12, 13, 14, 15, 16, 17, 18, 19] rfl rfl (by decide) (by decide) rfl hk1 hFc ht hvm hB
    have hP : va_P (dC, dI) cls ((oX3 (p0a 0) p0a p0k p0n (o_35.2)) ++ (oX6 (p0a 5) p0_4a p0_4k p0_4w p0_4l)) H := hP.sub [11, 12, 13, 14, 15, 16, 17, 18, 19, 20, 21, 0, 1, 2, 3, 4, 5, 6, 7, 8, 9, 10] rfl
    have hD : va_D A ((oX3 (p0a 0) p0a p0k p0n (o_35.2)) ++ (oX6 (p0a 5) p0_4a p0_4k p0_4w p0_4l)) := hD.sub [11, 12, 13, 14, 15, 16, 17, 18, 19, 20, 21, 0, 1, 2, 3, 4, 5, 6, 7, 8, 9, 10] (by decide) rfl
    have hK : va_K (dC, dI) cls ((tX3 p0k) ++ (tX6 p0_4k)) s := hK.sub [10, 11, 12, 13, 14, 15, 16, 17, 18, 19, 0, 1, 2, 3, 4, 5, 6, 7, 8, 9] rfl
    obtain rfl : r36 = (o_35.1) := hw
    rcases br9 hrun with ⟨hc37, hrun⟩ | ⟨hc37, hrun⟩
    · refine lv_if_eq (tgt := 221) hx hb dX3_moveVariable_192 (by decide) (fun _ => ?_) (fun c => absurd hc37 c)
      exact J221 (o_35.2) _ _ _ hrun hP hD hK hS (lv_sub hl [] rfl)
    · refine lv_if_eq (tgt := 221) hx hb dX3_moveVariable_192 (by decide) (fun c => absurd c hc37) (fun _ => ?_)
      refine lv_aload_n hx hb dX3_moveVariable_195 rfl (lv_at hl 1 rfl) ?_
      refine va_get (D := (dC, dI)) (ci := 10) (v := .ref (p0a 12)) (C := RX3) (T := TX3) (N := 20) hx hb hts i_X3 hown hK hP 0 rfl rfl 11 (by decide) (hts _ qw908) (fun _ h9 => h9) rfl dX3_moveVariable_196 ?_
      refine lv_iload_n hx hb dX3_moveVariable_199 rfl (lv_at hl 2 rfl) ?_
      refine lv_aload_n hx hb dX3_moveVariable_200 rfl (lv_at hl 1 rfl) ?_
      refine va_get (D := (dC, dI)) (ci := 10) (v := .ref (p0a 5)) (C := RX3) (T := TX3) (N := 20) hx hb hts i_X3 hown hK hP 0 rfl rfl 4 (by decide) (hts _ qw899) (fun _ h9 => h9) rfl dX3_moveVariable_201 ?_
      refine va_get (D := (dC, dI)) (ci := 2) (v := .ref (p0_4a 13)) (C := RX6) (T := TX6) (N := 13) hx hb hts i_X6 hown hK hP 11 rfl rfl 12 (by decide) (hts _ qw933) (fun _ h9 => h9) rfl dX3_moveVariable_204 ?_
      refine lv_iload_n hx hb dX3_moveVariable_207 rfl (lv_at hl 4 rfl) ?_
      obtain ⟨hq38, hrun⟩ := chk9 hrun
      refine va_iald hx hb hK hP 21 19 rfl rfl (ixb_in hq38) dX3_moveVariable_208 ?_
      obtain ⟨hq39, hrun⟩ := chk9 hrun
      refine va_iast hx hb hK hP hD hS 4 3 rfl rfl (ixb_in hq39) dX3_moveVariable_209 (fun H locs hP hD hS => ?_)
      have hP : va_P (dC, dI) cls ((oX3 (p0a 0) p0a p0k p0n (upw (o_35.2) 12 (nn p1) (p0_4w 13 (nn p3)))) ++ (oX6 (p0a 5) p0_4a p0_4k p0_4w p0_4l)) H := hP
      have hD : va_D A ((oX3 (p0a 0) p0a p0k p0n (upw (o_35.2) 12 (nn p1) (p0_4w 13 (nn p3)))) ++ (oX6 (p0a 5) p0_4a p0_4k p0_4w p0_4l)) := hD
      obtain ⟨w40, ew40, hrun⟩ := let9 hrun
      rw [← ew40] at hP hD
      refine lv_goto (tgt := 221) hx hb dX3_moveVariable_210 (by decide) ?_
      exact J221 w40 _ _ _ hrun hP hD hK hS (lv_sub hl [] rfl)
  rcases br9 hrun with ⟨hc41, hrun⟩ | ⟨hc41, hrun⟩
  · refine lv_tableIn (off := 213) (tgt := 221) hx hb dX3_moveVariable_8 (by rw [hc41]; decide) (by rw [hc41]; decide) (by rw [hc41]; rfl) (by decide) ?_
    exact J221 p0w _ _ _ hrun hP hD hK hS (lv_sub hl [] rfl)
  rcases br9 hrun with ⟨hc42, hrun⟩ | ⟨hc42, hrun⟩
  · refine lv_tableIn (off := 205) (tgt := 213) hx hb dX3_moveVariable_8 (by rw [hc42]; decide) (by rw [hc42]; decide) (by rw [hc42]; rfl) (by decide) ?_
    refine lv_aload_n hx hb dX3_moveVariable_213 rfl (lv_at hl 1 rfl) ?_
    obtain ⟨o_43, hc_43, hrun⟩ := bnd9 hrun
    have hPc := hP.sub (ws' := (oX3 (p0a 0) p0a p0k p0n p0w)) [0, 1, 2, 3, 4, 5, 6, 7, 8, 9, 10] rfl
    have hDc := hD.sub (ws' := (oX3 (p0a 0) p0a p0k p0n p0w)) [0, 1, 2, 3, 4, 5, 6, 7, 8, 9, 10] (by decide) rfl
    have hKc := hK.sub (tys' := (tX3 p0k)) [0, 1, 2, 3, 4, 5, 6, 7, 8, 9] rfl
    have hFc := va_free (wc := (oX3 (p0a 0) p0a p0k p0n p0w)) hD hS hA [0, 1, 2, 3, 4, 5, 6, 7, 8, 9, 10] rfl
    refine va_calli (va_runV (As := []) (rest := []) ⟨hx, hb, hml, hown, hts⟩ (kX3_pop l dC dI (p0a := (st0 (p0a 0) p0a)) (p0k := p0k) (p0n := p0n) (p0w := p0w) (sz := _) (o := o_43) (hrun := hc_43)) (cwV 0 hts (gi_V qw904 qw905 qw906 qw888 (gi_z qw903)) rfl rfl rfl (by decide +kernel) ⟨Nat.le_of_ble_eq_true rfl, Nat.le_of_ble_eq_true rfl⟩) ⟨PRE.blind, va_recv hKc hPc (ci := 10) (q0 := 0) rfl rfl, PRE.of hE hS hFc hPc hKc hDc⟩ rfl rfl hl.1 rfl (lv_room (Nat.le_of_ble_eq_true rfl)) dX3_moveVariable_214 ⟨(Nat.le_of_ble_eq_true rfl), (Nat.le_of_ble_eq_true rfl)⟩) hS (fun q _ h => hFc q h) hFc (fun r44 u t H locs ht hvm hw hB hz1 hk1 hS => ?_)
    obtain ⟨hP, hD, hK⟩ := JOIN (wr := (oX6 (p0a 5) p0_4a p0_4k p0_4w p0_4l)) hP hD hK [0, 1, 2, 3, 4, 5, 6, 7, 8, 9, 10] [11, 12, 13, 14, 15, 16, 17, 18, 19, 20, 21] [10, 11, 12, 13, 14, 15, 16, 17, 18, 19] rfl rfl (by decide) (by decide) rfl hk1 hFc ht hvm hB
    have hP : va_P (dC, dI) cls ((oX3 (p0a 0) p0a p0k p0n (o_43.2)) ++ (oX6 (p0a 5) p0_4a p0_4k p0_4w p0_4l)) H := hP.sub [11, 12, 13, 14, 15, 16, 17, 18, 19, 20, 21, 0, 1, 2, 3, 4, 5, 6, 7, 8, 9, 10] rfl
    have hD : va_D A ((oX3 (p0a 0) p0a p0k p0n (o_43.2)) ++ (oX6 (p0a 5) p0_4a p0_4k p0_4w p0_4l)) := hD.sub [11, 12, 13, 14, 15, 16, 17, 18, 19, 20, 21, 0, 1, 2, 3, 4, 5, 6, 7, 8, 9, 10] (by decide) rfl
    have hK : va_K (dC, dI) cls ((tX3 p0k) ++ (tX6 p0_4k)) s := hK.sub [10, 11, 12, 13, 14, 15, 16, 17, 18, 19, 0, 1, 2, 3, 4, 5, 6, 7, 8, 9] rfl
    obtain rfl : r44 = (o_43.1) := hw
    refine lv_pop hx hb dX3_moveVariable_217 rfl ?_
    refine lv_goto (tgt := 221) hx hb dX3_moveVariable_218 (by decide) ?_
    exact J221 (o_43.2) _ _ _ hrun hP hD hK hS (lv_sub hl [] rfl)
  refine lv_tableOut (tgt := 221) hx hb dX3_moveVariable_8 (by have g0 := lv_neT hc1 (show Int32.toInt 22 = 22 by decide); have g1 := lv_neT hc5 (show Int32.toInt 23 = 23 by decide); have g2 := lv_neT hc6 (show Int32.toInt 24 = 24 by decide); have g3 := lv_neT hc7 (show Int32.toInt 25 = 25 by decide); have g4 := lv_neT hc8 (show Int32.toInt 26 = 26 by decide); have g5 := lv_neT hc9 (show Int32.toInt 27 = 27 by decide); have g6 := lv_neT hc10 (show Int32.toInt 28 = 28 by decide); have g7 := lv_neT hc11 (show Int32.toInt 29 = 29 by decide); have g8 := lv_neT hc12 (show Int32.toInt 30 = 30 by decide); have g9 := lv_neT hc15 (show Int32.toInt 31 = 31 by decide); have g10 := lv_neT hc20 (show Int32.toInt 32 = 32 by decide); have g11 := lv_neT hc27 (show Int32.toInt 33 = 33 by decide); have g12 := lv_neT hc34 (show Int32.toInt 34 = 34 by decide); have g13 := lv_neT hc41 (show Int32.toInt 35 = 35 by decide); have g14 := lv_neT hc42 (show Int32.toInt 36 = 36 by decide); omega) (by decide) ?_
  exact J221 p0w _ _ _ hrun hP hD hK hS (lv_sub hl [] rfl)
def fX3_readWord (p0w : ST) (p1 : Int32) : Option Int32 := (if ixb (p1 &&& 15) 16 = true then some (p0w 4 (nn (p1 &&& 15))) else none)
set_option maxHeartbeats 16000000 in
set_option maxRecDepth 100000 in
theorem kX3_readWord {zs : Nat × Nat} (l : Launch) (dC : Nat → ClassId) (dI : Nat → Nat → Nat) (p0a : Nat → Nat) (p0k : Nat → ClassId) (p0n : Nat → Nat) (p0w : ST) (p1 : Int32) (sz : Nat) (o : Int32) (hrun : fX3_readWord p0w p1 = some o) : Met l yX3_readWord (wz yX3_readWord cX3_readWord 2 (Option.some Jvm.ClassFile.FieldType.int)) ({ frames := 0, cells := 0, slots := 0, locals := 0 } : Room) (va_Pc [.ref (p0a 0), .int p1] (PRE zs dC dI (oX3 (p0a 0) p0a p0k p0n p0w) (tX3 p0k) sz)) (va_Qi (fun (r : Int32) (_ : Unit) => r = o) (fun _ t => POST dC dI (oX3 (p0a 0) p0a p0k p0n p0w) (tX3 p0k) (va_A (oX3 (p0a 0) p0a p0k p0n p0w) sz) t) (va_A (oX3 (p0a 0) p0a p0k p0n p0w) sz)) 0 0 (va_A (oX3 (p0a 0) p0a p0k p0n p0w) sz) := by
  refine Met.ofW (cc := cX3_readWord) (maxL := 2) (ret := (Option.some Jvm.ClassFile.FieldType.int)) (by decide) rfl ?_
  intro p e s m args below meth c s₁ B hml hv
  obtain ⟨rfl, hsz, hP, hK, hD0, hE⟩ := hv
  have hx := B.exec
  have hb := B.bytes
  have hr := B.returns
  have hts0 := atoms_spec (ws := wz yX3_readWord cX3_readWord 2 (Option.some Jvm.ClassFile.FieldType.int)) B.pre
  have hts : ∀ w ∈ gw, w.before _ s = true := fun w h => hts0 w (List.mem_cons_of_mem _ h)
  have hown : s.vm.findClass RX3 = some m.cls := findClass_of_methodNamed B.named
  have hlocks := B.notSynchronized
  subst hsz
  have hD := hD0.self (sz := s.heap.size)
  refine gQ9 ?_
  intro Q hQ
  generalize hAe : va_A (oX3 (p0a 0) p0a p0k p0n p0w) s.heap.size = A at hD hE hQ
  have hA : ∀ q : Nat, s.heap.size ≤ q → A q := fun q h => by rw [← hAe]; exact Or.inr h
  have hS : va_S A s.heap s.heap [] := va_S.rf
  have hP : va_P (dC, dI) cls (oX3 (p0a 0) p0a p0k p0n p0w) s.heap := hP
  have hl := lv_entry ([.ref (p0a 0), .int p1]) (n := 2) (Nat.le_of_ble_eq_true rfl)
  rw [lg_entry_eq]
  generalize (lg_sl ([.ref (p0a 0), .int p1]) ++ List.replicate (2 - (lg_sl ([.ref (p0a 0), .int p1])).length) Slot.unset).toArray = ls at hl ⊢
  have hl : lv_has ls 2 [(0, .ref (p0a 0)), (1, .int p1)] := hl
  obtain ⟨H, hHe⟩ : ∃ H, H = s.heap := ⟨_, rfl⟩
  obtain ⟨locs, hle⟩ : ∃ locs : List Loc, locs = [] := ⟨_, rfl⟩
  rw [← hHe] at hP
  have hS : va_S A s.heap H locs := by rw [hHe, hle]; exact hS
  show W p l e ({ frames := 0, cells := 0, slots := 0, locals := 0 } : Room) s m ([.ref (p0a 0), .int p1] : List Value).toArray below meth c s.heap [] 0 0 Q (F0 m 0 ls [])
  rw [← hle]
  refine wH9 hHe ?_
  unfold fX3_readWord at hrun
  refine lv_aload_n hx hb dX3_readWord_0 rfl (lv_at hl 0 rfl) ?_
  refine va_get (D := (dC, dI)) (ci := 10) (v := .ref (p0a 4)) (C := RX3) (T := TX3) (N := 20) hx hb hts i_X3 hown hK hP 0 rfl rfl 3 (by decide) (hts _ qw880) (fun _ h9 => h9) rfl dX3_readWord_1 ?_
  refine lv_iload_n hx hb dX3_readWord_4 rfl (lv_at hl 1 rfl) ?_
  refine lv_bipush (v := 15) hx hb dX3_readWord_5 (by decide) ?_
  refine lv_iand hx hb dX3_readWord_7 ?_
  obtain ⟨hq1, hrun⟩ := chk9 hrun
  refine va_iald hx hb hK hP 1 0 rfl rfl (ixb_in hq1) dX3_readWord_8 ?_
  have ho9 : (p0w 4 (nn (p1 &&& 15))) = o := Option.some.inj hrun
  have hP9 : va_P (dC, dI) cls (oX3 (p0a 0) p0a p0k p0n p0w) H := by first | exact hP | (rw [← ho9]; exact hP)
  have hD9 : va_D A (oX3 (p0a 0) p0a p0k p0n p0w) := by first | exact hD | (rw [← ho9]; exact hD)
  subst hQ
  exact W.iret (v := (p0w 4 (nn (p1 &&& 15)))) hx hb hr (fun t ht hW => ⟨⟨(p0w 4 (nn (p1 &&& 15))), (), rfl, (by rw [← ho9]), ⟨by rw [ht]; exact hP9, va_K.moved hW.alike hK, hD9⟩⟩, hS.F ht⟩) hS.2.2 dX3_readWord_9
def fX3_writeWord (p0w : ST) (p1 : Int32) (p2 : Int32) : Option ST := (if ixb (p1 &&& 15) 16 = true then (lt9 (upw p0w 4 (nn (p1 &&& 15)) p2) fun (w2 : ST) => some w2) else none)
set_option maxHeartbeats 16000000 in
set_option maxRecDepth 100000 in
theorem kX3_writeWord {zs : Nat × Nat} (l : Launch) (dC : Nat → ClassId) (dI : Nat → Nat → Nat) (p0a : Nat → Nat) (p0k : Nat → ClassId) (p0n : Nat → Nat) (p0w : ST) (p1 : Int32) (p2 : Int32) (sz : Nat) (o : ST) (hrun : fX3_writeWord p0w p1 p2 = some o) : Met l yX3_writeWord (wz yX3_writeWord cX3_writeWord 3 (Option.none : Option Jvm.ClassFile.FieldType)) ({ frames := 0, cells := 0, slots := 0, locals := 0 } : Room) (va_Pc [.ref (p0a 0), .int p1, .int p2] (PRE zs dC dI (oX3 (p0a 0) p0a p0k p0n p0w) (tX3 p0k) sz)) (va_Qv (fun (_ : Unit) => True) (fun _ t => POST dC dI (oX3 (p0a 0) p0a p0k p0n o) (tX3 p0k) (va_A (oX3 (p0a 0) p0a p0k p0n p0w) sz) t) (va_A (oX3 (p0a 0) p0a p0k p0n p0w) sz)) 0 0 (va_A (oX3 (p0a 0) p0a p0k p0n p0w) sz) := by
  refine Met.ofW (cc := cX3_writeWord) (maxL := 3) (ret := (Option.none : Option Jvm.ClassFile.FieldType)) (by decide) rfl ?_
  intro p e s m args below meth c s₁ B hml hv
  obtain ⟨rfl, hsz, hP, hK, hD0, hE⟩ := hv
  have hx := B.exec
  have hb := B.bytes
  have hr := B.returns
  have hts0 := atoms_spec (ws := wz yX3_writeWord cX3_writeWord 3 (Option.none : Option Jvm.ClassFile.FieldType)) B.pre
  have hts : ∀ w ∈ gw, w.before _ s = true := fun w h => hts0 w (List.mem_cons_of_mem _ h)
  have hown : s.vm.findClass RX3 = some m.cls := findClass_of_methodNamed B.named
  have hlocks := B.notSynchronized
  subst hsz
  have hD := hD0.self (sz := s.heap.size)
  refine gQ9 ?_
  intro Q hQ
  generalize hAe : va_A (oX3 (p0a 0) p0a p0k p0n p0w) s.heap.size = A at hD hE hQ
  have hA : ∀ q : Nat, s.heap.size ≤ q → A q := fun q h => by rw [← hAe]; exact Or.inr h
  have hS : va_S A s.heap s.heap [] := va_S.rf
  have hP : va_P (dC, dI) cls (oX3 (p0a 0) p0a p0k p0n p0w) s.heap := hP
  have hl := lv_entry ([.ref (p0a 0), .int p1, .int p2]) (n := 3) (Nat.le_of_ble_eq_true rfl)
  rw [lg_entry_eq]
  generalize (lg_sl ([.ref (p0a 0), .int p1, .int p2]) ++ List.replicate (3 - (lg_sl ([.ref (p0a 0), .int p1, .int p2])).length) Slot.unset).toArray = ls at hl ⊢
  have hl : lv_has ls 3 [(0, .ref (p0a 0)), (1, .int p1), (2, .int p2)] := hl
  obtain ⟨H, hHe⟩ : ∃ H, H = s.heap := ⟨_, rfl⟩
  obtain ⟨locs, hle⟩ : ∃ locs : List Loc, locs = [] := ⟨_, rfl⟩
  rw [← hHe] at hP
  have hS : va_S A s.heap H locs := by rw [hHe, hle]; exact hS
  show W p l e ({ frames := 0, cells := 0, slots := 0, locals := 0 } : Room) s m ([.ref (p0a 0), .int p1, .int p2] : List Value).toArray below meth c s.heap [] 0 0 Q (F0 m 0 ls [])
  rw [← hle]
  refine wH9 hHe ?_
  unfold fX3_writeWord at hrun
  refine lv_aload_n hx hb dX3_writeWord_0 rfl (lv_at hl 0 rfl) ?_
  refine va_get (D := (dC, dI)) (ci := 10) (v := .ref (p0a 4)) (C := RX3) (T := TX3) (N := 20) hx hb hts i_X3 hown hK hP 0 rfl rfl 3 (by decide) (hts _ qw880) (fun _ h9 => h9) rfl dX3_writeWord_1 ?_
  refine lv_iload_n hx hb dX3_writeWord_4 rfl (lv_at hl 1 rfl) ?_
  refine lv_bipush (v := 15) hx hb dX3_writeWord_5 (by decide) ?_
  refine lv_iand hx hb dX3_writeWord_7 ?_
  refine lv_iload_n hx hb dX3_writeWord_8 rfl (lv_at hl 2 rfl) ?_
  obtain ⟨hq1, hrun⟩ := chk9 hrun
  refine va_iast hx hb hK hP hD hS 1 0 rfl rfl (ixb_in hq1) dX3_writeWord_9 (fun H locs hP hD hS => ?_)
  have hP : va_P (dC, dI) cls (oX3 (p0a 0) p0a p0k p0n (upw p0w 4 (nn (p1 &&& 15)) p2)) H := hP
  have hD : va_D A (oX3 (p0a 0) p0a p0k p0n (upw p0w 4 (nn (p1 &&& 15)) p2)) := hD
  obtain ⟨w2, ew2, hrun⟩ := let9 hrun
  rw [← ew2] at hP hD
  have ho9 : w2 = o := Option.some.inj hrun
  have hP9 : va_P (dC, dI) cls (oX3 (p0a 0) p0a p0k p0n o) H := by first | exact hP | (rw [← ho9]; exact hP)
  have hD9 : va_D A (oX3 (p0a 0) p0a p0k p0n o) := by first | exact hD | (rw [← ho9]; exact hD)
  subst hQ
  exact W.vret hx hb hr (fun t ht hW => ⟨⟨(), rfl, trivial, ⟨by rw [ht]; exact hP9, va_K.moved hW.alike hK, hD9⟩⟩, hS.F ht⟩) hS.2.2 dX3_writeWord_10
def fX3_moveWord_J156 (p0w_156 : ST) : Option ST := some p0w_156
def fX3_moveWord (p0n : Nat → Nat) (p0w : ST) (p1 : Int32) (p2 : Int32) (p3 : Int32) (p0_4w : ST) : Option ST := (if p2 = 0 then ((fX3_push p0w p3).bind fun (o_2 : ST) => (fX3_moveWord_J156 o_2)) else (if p2 = 17 then ((fX3_pop p0w).bind fun (o_4 : Int32 × ST) => ((fX3_readWord (o_4.2) (o_4.1)).bind fun (o_6 : Int32) => ((fX3_push (o_4.2) o_6).bind fun (o_8 : ST) => (fX3_moveWord_J156 o_8)))) else (if p2 = 18 then ((fX3_pop p0w).bind fun (o_10 : Int32 × ST) => ((fX3_pop (o_10.2)).bind fun (o_12 : Int32 × ST) => ((fX3_writeWord (o_12.2) (o_12.1) (o_10.1)).bind fun (o_14 : ST) => (fX3_moveWord_J156 o_14)))) else (if p2 = 20 then ((fX3_enter p0n p0w 0 p3 p0_4w).bind fun (o_16 : ST) => (fX3_moveWord_J156 o_16)) else (if p2 = 21 then ((fX3_argumentOf p0w p1 p3).bind fun (o_18 : Int32) => (if ixb ((p1 * 320) + p3) 2560 = true then (lt9 (upw p0w 16 (nn ((p1 * 320) + p3)) o_18) fun (w21 : ST) => (fX3_moveWord_J156 w21)) else none)) else (if p2 = 24 then ((fX3_pop p0w).bind fun (o_23 : Int32 × ST) => ((fX3_close (o_23.2) (o_23.1)).bind fun (o_25 : Int32 × ST) => (if (o_25.1) = 0 then (fX3_moveWord_J156 (o_25.2)) else ((fX3_push (o_25.2) (o_23.1)).bind fun (o_28 : ST) => (fX3_moveWord_J156 o_28))))) else (fX3_moveWord_J156 p0w)))))))
set_option maxHeartbeats 16000000 in
set_option maxRecDepth 100000 in
theorem kX3_moveWord {zs : Nat × Nat} (l : Launch) (dC : Nat → ClassId) (dI : Nat → Nat → Nat) (p0a : Nat → Nat) (p0k : Nat → ClassId) (p0n : Nat → Nat) (p0w : ST) (p1 : Int32) (p2 : Int32) (p3 : Int32) (p0_4a : Nat → Nat) (p0_4k : Nat → ClassId) (p0_4w : ST) (p0_4l : SL) (sz : Nat) (o : ST) (hrun : fX3_moveWord p0n p0w p1 p2 p3 p0_4w = some o) : Met l yX3_moveWord (wz yX3_moveWord cX3_moveWord 6 (Option.none : Option Jvm.ClassFile.FieldType)) ({ frames := 3, cells := 0, slots := 0, locals := 71 } : Room) (va_Pc [.ref (p0a 0), .int p1, .int p2, .int p3] (PRE zs dC dI ((oX3 (p0a 0) p0a p0k p0n p0w) ++ (oX6 (p0a 5) p0_4a p0_4k p0_4w p0_4l)) ((tX3 p0k) ++ (tX6 p0_4k)) sz)) (va_Qv (fun (_ : Unit) => True) (fun _ t => POST dC dI ((oX3 (p0a 0) p0a p0k p0n o) ++ (oX6 (p0a 5) p0_4a p0_4k p0_4w p0_4l)) ((tX3 p0k) ++ (tX6 p0_4k)) (va_A ((oX3 (p0a 0) p0a p0k p0n p0w) ++ (oX6 (p0a 5) p0_4a p0_4k p0_4w p0_4l)) sz) t) (va_A ((oX3 (p0a 0) p0a p0k p0n p0w) ++ (oX6 (p0a 5) p0_4a p0_4k p0_4w p0_4l)) sz)) 0 0 (va_A ((oX3 (p0a 0) p0a p0k p0n p0w) ++ (oX6 (p0a 5) p0_4a p0_4k p0_4w p0_4l)) sz) := by
  refine Met.ofW (cc := cX3_moveWord) (maxL := 6) (ret := (Option.none : Option Jvm.ClassFile.FieldType)) (by decide) rfl ?_
  intro p e s m args below meth c s₁ B hml hv
  obtain ⟨rfl, hsz, hP, hK, hD0, hE⟩ := hv
  have hx := B.exec
  have hb := B.bytes
  have hr := B.returns
  have hts0 := atoms_spec (ws := wz yX3_moveWord cX3_moveWord 6 (Option.none : Option Jvm.ClassFile.FieldType)) B.pre
  have hts : ∀ w ∈ gw, w.before _ s = true := fun w h => hts0 w (List.mem_cons_of_mem _ h)
  have hown : s.vm.findClass RX3 = some m.cls := findClass_of_methodNamed B.named
  have hlocks := B.notSynchronized
  subst hsz
  have hD := hD0.self (sz := s.heap.size)
  refine gQ9 ?_
  intro Q hQ
  generalize hAe : va_A ((oX3 (p0a 0) p0a p0k p0n p0w) ++ (oX6 (p0a 5) p0_4a p0_4k p0_4w p0_4l)) s.heap.size = A at hD hE hQ
  have hA : ∀ q : Nat, s.heap.size ≤ q → A q := fun q h => by rw [← hAe]; exact Or.inr h
  have hS : va_S A s.heap s.heap [] := va_S.rf
  have hP : va_P (dC, dI) cls ((oX3 (p0a 0) p0a p0k p0n p0w) ++ (oX6 (p0a 5) p0_4a p0_4k p0_4w p0_4l)) s.heap := hP
  have hl := lv_entry ([.ref (p0a 0), .int p1, .int p2, .int p3]) (n := 6) (Nat.le_of_ble_eq_true rfl)
  rw [lg_entry_eq]
  generalize (lg_sl ([.ref (p0a 0), .int p1, .int p2, .int p3]) ++ List.replicate (6 - (lg_sl ([.ref (p0a 0), .int p1, .int p2, .int p3])).length) Slot.unset).toArray = ls at hl ⊢
  have hl : lv_has ls 6 [(0, .ref (p0a 0)), (1, .int p1), (2, .int p2), (3, .int p3)] := hl
  obtain ⟨H, hHe⟩ : ∃ H, H = s.heap := ⟨_, rfl⟩
  obtain ⟨locs, hle⟩ : ∃ locs : List Loc, locs = [] := ⟨_, rfl⟩
  rw [← hHe] at hP
  have hS : va_S A s.heap H locs := by rw [hHe, hle]; exact hS
  show W p l e ({ frames := 3, cells := 0, slots := 0, locals := 71 } : Room) s m ([.ref (p0a 0), .int p1, .int p2, .int p3] : List Value).toArray below meth c s.heap [] 0 0 Q (F0 m 0 ls [])
  rw [← hle]
  refine wH9 hHe ?_
  unfold fX3_moveWord at hrun
  refine lv_iload_n hx hb dX3_moveWord_0 rfl (lv_at hl 2 rfl) ?_
  have J156 : ∀ (p0w_156 : ST) (H : Heap) (locs : List Loc) (ls : Array Slot), (fX3_moveWord_J156 p0w_156) = some o → va_P (dC, dI) cls ((oX3 (p0a 0) p0a p0k p0n p0w_156) ++ (oX6 (p0a 5) p0_4a p0_4k p0_4w p0_4l)) H → va_D A ((oX3 (p0a 0) p0a p0k p0n p0w_156) ++ (oX6 (p0a 5) p0_4a p0_4k p0_4w p0_4l)) → va_K (dC, dI) cls ((tX3 p0k) ++ (tX6 p0_4k)) s → va_S A s.heap H locs → lv_has ls 6 [] → W p l e ({ frames := 3, cells := 0, slots := 0, locals := 71 } : Room) s m ([.ref (p0a 0), .int p1, .int p2, .int p3] : List Value).toArray below meth c H locs 0 0 Q (F0 m 156 ls []) := by
    intro p0w_156 H locs ls hrun hP hD hK hS hl 
    unfold fX3_moveWord_J156 at hrun
    have ho9 : p0w_156 = o := Option.some.inj hrun
    have hP9 : va_P (dC, dI) cls ((oX3 (p0a 0) p0a p0k p0n o) ++ (oX6 (p0a 5) p0_4a p0_4k p0_4w p0_4l)) H := by first | exact hP | (rw [← ho9]; exact hP)
    have hD9 : va_D A ((oX3 (p0a 0) p0a p0k p0n o) ++ (oX6 (p0a 5) p0_4a p0_4k p0_4w p0_4l)) := by first | exact hD | (rw [← ho9]; exact hD)
    subst hQ
    exact W.vret hx hb hr (fun t ht hW => ⟨⟨(), rfl, trivial, ⟨by rw [ht]; exact hP9, va_K.moved hW.alike hK, hD9⟩⟩, hS.F ht⟩) hS.2.2 dX3_moveWord_156
  rcases br9 hrun with ⟨hc1, hrun⟩ | ⟨hc1, hrun⟩
  · refine lv_lookup (off := 59) (tgt := 60) hx hb dX3_moveWord_1 (by decide) (by rw [hc1]; decide) (by decide) ?_
    refine lv_aload_n hx hb dX3_moveWord_60 rfl (lv_at hl 0 rfl) ?_
    refine lv_iload_n hx hb dX3_moveWord_61 rfl (lv_at hl 3 rfl) ?_
    obtain ⟨o_2, hc_2, hrun⟩ := bnd9 hrun
    have hPc := hP.sub (ws' := (oX3 (p0a 0) p0a p0k p0n p0w)) [0, 1, 2, 3, 4, 5, 6, 7, 8, 9, 10] rfl
    have hDc := hD.sub (ws' := (oX3 (p0a 0) p0a p0k p0n p0w)) [0, 1, 2, 3, 4, 5, 6, 7, 8, 9, 10] (by decide) rfl
    have hKc := hK.sub (tys' := (tX3 p0k)) [0, 1, 2, 3, 4, 5, 6, 7, 8, 9] rfl
    have hFc := va_free (wc := (oX3 (p0a 0) p0a p0k p0n p0w)) hD hS hA [0, 1, 2, 3, 4, 5, 6, 7, 8, 9, 10] rfl
    refine va_callv (va_runV (As := [.int p3]) (rest := []) ⟨hx, hb, hml, hown, hts⟩ (kX3_push l dC dI (p0a := (st0 (p0a 0) p0a)) (p0k := p0k) (p0n := p0n) (p0w := p0w) (p1 := p3) (sz := _) (o := o_2) (hrun := hc_2)) (cwV 1 hts (gi_V qw935 qw936 qw937 qw888 (gi_z qw934)) rfl rfl rfl (by decide +kernel) ⟨Nat.le_of_ble_eq_true rfl, Nat.le_of_ble_eq_true rfl⟩) ⟨PRE.blind, va_recv hKc hPc (ci := 10) (q0 := 0) rfl rfl, PRE.of hE hS hFc hPc hKc hDc⟩ rfl rfl hl.1 rfl (lv_room (Nat.le_of_ble_eq_true rfl)) dX3_moveWord_62 ⟨(Nat.le_of_ble_eq_true rfl), (Nat.le_of_ble_eq_true rfl)⟩) hS (fun q _ h => hFc q h) hFc (fun u t H locs ht hvm hw hB hz1 hk1 hS => ?_)
    obtain ⟨hP, hD, hK⟩ := JOIN (wr := (oX6 (p0a 5) p0_4a p0_4k p0_4w p0_4l)) hP hD hK [0, 1, 2, 3, 4, 5, 6, 7, 8, 9, 10] [11, 12, 13, 14, 15, 16, 17, 18, 19, 20, 21] [10, 11, 12, 13, 14, 15, 16, 17, 18, 19] rfl rfl (by decide) (by decide) rfl hk1 hFc ht hvm hB
    have hP : va_P (dC, dI) cls ((oX3 (p0a 0) p0a p0k p0n o_2) ++ (oX6 (p0a 5) p0_4a p0_4k p0_4w p0_4l)) H := hP.sub [11, 12, 13, 14, 15, 16, 17, 18, 19, 20, 21, 0, 1, 2, 3, 4, 5, 6, 7, 8, 9, 10] rfl
    have hD : va_D A ((oX3 (p0a 0) p0a p0k p0n o_2) ++ (oX6 (p0a 5) p0_4a p0_4k p0_4w p0_4l)) := hD.sub [11, 12, 13, 14, 15, 16, 17, 18, 19, 20, 21, 0, 1, 2, 3, 4, 5, 6, 7, 8, 9, 10] (by decide) rfl
    have hK : va_K (dC, dI) cls ((tX3 p0k) ++ (tX6 p0_4k)) s := hK.sub [10, 11, 12, 13, 14, 15, 16, 17, 18, 19, 0, 1, 2, 3, 4, 5, 6, 7, 8, 9] rfl
    refine lv_goto (tgt := 156) hx hb dX3_moveWord_65 (by decide) ?_
    exact J156 o_2 _ _ _ hrun hP hD hK hS (lv_sub hl [] rfl)
  rcases br9 hrun with ⟨hc3, hrun⟩ | ⟨hc3, hrun⟩
  · refine lv_lookup (off := 67) (tgt := 68) hx hb dX3_moveWord_1 (by decide) (by rw [hc3]; decide) (by decide) ?_
    refine lv_aload_n hx hb dX3_moveWord_68 rfl (lv_at hl 0 rfl) ?_
    refine lv_aload_n hx hb dX3_moveWord_69 rfl (lv_at hl 0 rfl) ?_
    refine lv_aload_n hx hb dX3_moveWord_70 rfl (lv_at hl 0 rfl) ?_
    obtain ⟨o_4, hc_4, hrun⟩ := bnd9 hrun
    have hPc := hP.sub (ws' := (oX3 (p0a 0) p0a p0k p0n p0w)) [0, 1, 2, 3, 4, 5, 6, 7, 8, 9, 10] rfl
    have hDc := hD.sub (ws' := (oX3 (p0a 0) p0a p0k p0n p0w)) [0, 1, 2, 3, 4, 5, 6, 7, 8, 9, 10] (by decide) rfl
    have hKc := hK.sub (tys' := (tX3 p0k)) [0, 1, 2, 3, 4, 5, 6, 7, 8, 9] rfl
    have hFc := va_free (wc := (oX3 (p0a 0) p0a p0k p0n p0w)) hD hS hA [0, 1, 2, 3, 4, 5, 6, 7, 8, 9, 10] rfl
    refine va_calli (va_runV (As := []) (rest := [.ref (p0a 0), .ref (p0a 0)]) ⟨hx, hb, hml, hown, hts⟩ (kX3_pop l dC dI (p0a := (st0 (p0a 0) p0a)) (p0k := p0k) (p0n := p0n) (p0w := p0w) (sz := _) (o := o_4) (hrun := hc_4)) (cwV 0 hts (gi_V qw904 qw905 qw906 qw888 (gi_z qw903)) rfl rfl rfl (by decide +kernel) ⟨Nat.le_of_ble_eq_true rfl, Nat.le_of_ble_eq_true rfl⟩) ⟨PRE.blind, va_recv hKc hPc (ci := 10) (q0 := 0) rfl rfl, PRE.of hE hS hFc hPc hKc hDc⟩ rfl rfl hl.1 rfl (lv_room (Nat.le_of_ble_eq_true rfl)) dX3_moveWord_71 ⟨(Nat.le_of_ble_eq_true rfl), (Nat.le_of_ble_eq_true rfl)⟩) hS (fun q _ h => hFc q h) hFc (fun r5 u t H locs ht hvm hw hB hz1 hk1 hS => ?_)
    obtain ⟨hP, hD, hK⟩ := JOIN (wr := (oX6 (p0a 5) p0_4a p0_4k p0_4w p0_4l)) hP hD hK [0, 1, 2, 3, 4, 5, 6, 7, 8, 9, 10] [11, 12, 13, 14, 15, 16, 17, 18, 19, 20, 21] [10, 11, 12, 13, 14, 15, 16, 17, 18, 19] rfl rfl (by decide) (by decide) rfl hk1 hFc ht hvm hB
    have hP : va_P (dC, dI) cls ((oX3 (p0a 0) p0a p0k p0n (o_4.2)) ++ (oX6 (p0a 5) p0_4a p0_4k p0_4w p0_4l)) H := hP.sub [11, 12, 13, 14, 15, 16, 17, 18, 19, 20, 21, 0, 1, 2, 3, 4, 5, 6, 7, 8, 9, 10] rfl
    have hD : va_D A ((oX3 (p0a 0) p0a p0k p0n (o_4.2)) ++ (oX6 (p0a 5) p0_4a p0_4k p0_4w p0_4l)) := hD.sub [11, 12, 13, 14, 15, 16, 17, 18, 19, 20, 21, 0, 1, 2, 3, 4, 5, 6, 7, 8, 9, 10] (by decide) rfl
    have hK : va_K (dC, dI) cls ((tX3 p0k) ++ (tX6 p0_4k)) s := hK.sub [10, 11, 12, 13, 14, 15, 16, 17, 18, 19, 0, 1, 2, 3, 4, 5, 6, 7, 8, 9] rfl
    obtain rfl : r5 = (o_4.1) := hw
    obtain ⟨o_6, hc_6, hrun⟩ := bnd9 hrun
    have hPc := hP.sub (ws' := (oX3 (p0a 0) p0a p0k p0n (o_4.2))) [0, 1, 2, 3, 4, 5, 6, 7, 8, 9, 10] rfl
    have hDc := hD.sub (ws' := (oX3 (p0a 0) p0a p0k p0n (o_4.2))) [0, 1, 2, 3, 4, 5, 6, 7, 8, 9, 10] (by decide) rfl
    have hKc := hK.sub (tys' := (tX3 p0k)) [0, 1, 2, 3, 4, 5, 6, 7, 8, 9] rfl
    have hFc := va_free (wc := (oX3 (p0a 0) p0a p0k p0n (o_4.2))) hD hS hA [0, 1, 2, 3, 4, 5, 6, 7, 8, 9, 10] rfl
    refine va_calli (va_runV (As := [.int (o_4.1)]) (rest := [.ref (p0a 0)]) ⟨hx, hb, hml, hown, hts⟩ (kX3_readWord l dC dI (p0a := (st0 (p0a 0) p0a)) (p0k := p0k) (p0n := p0n) (p0w := (o_4.2)) (p1 := (o_4.1)) (sz := _) (o := o_6) (hrun := hc_6)) (cwV 1 hts (gi_V qw943 qw944 qw945 qw888 (gi_z qw942)) rfl rfl rfl (by decide +kernel) ⟨Nat.le_of_ble_eq_true rfl, Nat.le_of_ble_eq_true rfl⟩) ⟨PRE.blind, va_recv hKc hPc (ci := 10) (q0 := 0) rfl rfl, PRE.of hE hS hFc hPc hKc hDc⟩ rfl rfl hl.1 rfl (lv_room (Nat.le_of_ble_eq_true rfl)) dX3_moveWord_74 ⟨(Nat.le_of_ble_eq_true rfl), (Nat.le_of_ble_eq_true rfl)⟩) hS (fun q _ h => hFc q h) hFc (fun r7 u t H locs ht hvm hw hB hz1 hk1 hS => ?_)
    obtain ⟨hP, hD, hK⟩ := JOIN (wr := (oX6 (p0a 5) p0_4a p0_4k p0_4w p0_4l)) hP hD hK [0, 1, 2, 3, 4, 5, 6, 7, 8, 9, 10] [11, 12, 13, 14, 15, 16, 17, 18, 19, 20, 21] [10, 11, 12, 13, 14, 15, 16, 17, 18, 19] rfl rfl (by decide) (by decide) rfl hk1 hFc ht hvm hB
    have hP : va_P (dC, dI) cls ((oX3 (p0a 0) p0a p0k p0n (o_4.2)) ++ (oX6 (p0a 5) p0_4a p0_4k p0_4w p0_4l)) H := hP.sub [11, 12, 13, 14, 15, 16, 17, 18, 19, 20, 21, 0, 1, 2, 3, 4, 5, 6, 7, 8, 9, 10] rfl
    have hD : va_D A ((oX3 (p0a 0) p0a p0k p0n (o_4.2)) ++ (oX6 (p0a 5) p0_4a p0_4k p0_4w p0_4l)) := hD.sub [11, 12, 13, 14, 15, 16, 17, 18, 19, 20, 21, 0, 1, 2, 3, 4, 5, 6, 7, 8, 9, 10] (by decide) rfl
    have hK : va_K (dC, dI) cls ((tX3 p0k) ++ (tX6 p0_4k)) s := hK.sub [10, 11, 12, 13, 14, 15, 16, 17, 18, 19, 0, 1, 2, 3, 4, 5, 6, 7, 8, 9] rfl
    obtain rfl : o_6 = r7 := hw.symm
    obtain ⟨o_8, hc_8, hrun⟩ := bnd9 hrun
    have hPc := hP.sub (ws' := (oX3 (p0a 0) p0a p0k p0n (o_4.2))) [0, 1, 2, 3, 4, 5, 6, 7, 8, 9, 10] rfl
    have hDc := hD.sub (ws' := (oX3 (p0a 0) p0a p0k p0n (o_4.2))) [0, 1, 2, 3, 4, 5, 6, 7, 8, 9, 10] (by decide) rfl
    have hKc := hK.sub (tys' := (tX3 p0k)) [0, 1, 2, 3, 4, 5, 6, 7, 8, 9] rfl
    have hFc := va_free (wc := (oX3 (p0a 0) p0a p0k p0n (o_4.2))) hD hS hA [0, 1, 2, 3, 4, 5, 6, 7, 8, 9, 10] rfl
    refine va_callv (va_runV (As := [.int o_6]) (rest := []) ⟨hx, hb, hml, hown, hts⟩ (kX3_push l dC dI (p0a := (st0 (p0a 0) p0a)) (p0k := p0k) (p0n := p0n) (p0w := (o_4.2)) (p1 := o_6) (sz := _) (o := o_8) (hrun := hc_8)) (cwV 1 hts (gi_V qw935 qw936 qw937 qw888 (gi_z qw934)) rfl rfl rfl (by decide +kernel) ⟨Nat.le_of_ble_eq_true rfl, Nat.le_of_ble_eq_true rfl⟩) ⟨PRE.blind, va_recv hKc hPc (ci := 10) (q0 := 0) rfl rfl, PRE.of hE hS hFc hPc hKc hDc⟩ rfl rfl hl.1 rfl (lv_room (Nat.le_of_ble_eq_true rfl)) dX3_moveWord_77 ⟨(Nat.le_of_ble_eq_true rfl), (Nat.le_of_ble_eq_true rfl)⟩) hS (fun q _ h => hFc q h) hFc (fun u t H locs ht hvm hw hB hz1 hk1 hS => ?_)
    obtain ⟨hP, hD, hK⟩ := JOIN (wr := (oX6 (p0a 5) p0_4a p0_4k p0_4w p0_4l)) hP hD hK [0, 1, 2, 3, 4, 5, 6, 7, 8, 9, 10] [11, 12, 13, 14, 15, 16, 17, 18, 19, 20, 21] [10, 11, 12, 13, 14, 15, 16, 17, 18, 19] rfl rfl (by decide) (by decide) rfl hk1 hFc ht hvm hB
    have hP : va_P (dC, dI) cls ((oX3 (p0a 0) p0a p0k p0n o_8) ++ (oX6 (p0a 5) p0_4a p0_4k p0_4w p0_4l)) H := hP.sub [11, 12, 13, 14, 15, 16, 17, 18, 19, 20, 21, 0, 1, 2, 3, 4, 5, 6, 7, 8, 9, 10] rfl
    have hD : va_D A ((oX3 (p0a 0) p0a p0k p0n o_8) ++ (oX6 (p0a 5) p0_4a p0_4k p0_4w p0_4l)) := hD.sub [11, 12, 13, 14, 15, 16, 17, 18, 19, 20, 21, 0, 1, 2, 3, 4, 5, 6, 7, 8, 9, 10] (by decide) rfl
    have hK : va_K (dC, dI) cls ((tX3 p0k) ++ (tX6 p0_4k)) s := hK.sub [10, 11, 12, 13, 14, 15, 16, 17, 18, 19, 0, 1, 2, 3, 4, 5, 6, 7, 8, 9] rfl
    refine lv_goto (tgt := 156) hx hb dX3_moveWord_80 (by decide) ?_
    exact J156 o_8 _ _ _ hrun hP hD hK hS (lv_sub hl [] rfl)
  rcases br9 hrun with ⟨hc9, hrun⟩ | ⟨hc9, hrun⟩
  · refine lv_lookup (off := 82) (tgt := 83) hx hb dX3_moveWord_1 (by decide) (by rw [hc9]; decide) (by decide) ?_
    refine lv_aload_n hx hb dX3_moveWord_83 rfl (lv_at hl 0 rfl) ?_
    obtain ⟨o_10, hc_10, hrun⟩ := bnd9 hrun
    have hPc := hP.sub (ws' := (oX3 (p0a 0) p0a p0k p0n p0w)) [0, 1, 2, 3, 4, 5, 6, 7, 8, 9, 10] rfl
    have hDc := hD.sub (ws' := (oX3 (p0a 0) p0a p0k p0n p0w)) [0, 1, 2, 3, 4, 5, 6, 7, 8, 9, 10] (by decide) rfl
    have hKc := hK.sub (tys' := (tX3 p0k)) [0, 1, 2, 3, 4, 5, 6, 7, 8, 9] rfl
    have hFc := va_free (wc := (oX3 (p0a 0) p0a p0k p0n p0w)) hD hS hA [0, 1, 2, 3, 4, 5, 6, 7, 8, 9, 10] rfl
    refine va_calli (va_runV (As := []) (rest := []) ⟨hx, hb, hml, hown, hts⟩ (kX3_pop l dC dI (p0a := (st0 (p0a 0) p0a)) (p0k := p0k) (p0n := p0n) (p0w := p0w) (sz := _) (o := o_10) (hrun := hc_10)) (cwV 0 hts (gi_V qw904 qw905 qw906 qw888 (gi_z qw903)) rfl rfl rfl (by decide +kernel) ⟨Nat.le_of_ble_eq_true rfl, Nat.le_of_ble_eq_true rfl⟩) ⟨PRE.blind, va_recv hKc hPc (ci := 10) (q0 := 0) rfl rfl, PRE.of hE hS hFc hPc hKc hDc⟩ rfl rfl hl.1 rfl (lv_room (Nat.le_of_ble_eq_true rfl)) dX3_moveWord_84 ⟨(Nat.le_of_ble_eq_true rfl), (Nat.le_of_ble_eq_true rfl)⟩) hS (fun q _ h => hFc q h) hFc (fun r11 u t H locs ht hvm hw hB hz1 hk1 hS => ?_)
    obtain ⟨hP, hD, hK⟩ := JOIN (wr := (oX6 (p0a 5) p0_4a p0_4k p0_4w p0_4l)) hP hD hK [0, 1, 2, 3, 4, 5, 6, 7, 8, 9, 10] [11, 12, 13, 14, 15, 16, 17, 18, 19, 20, 21] [10, 11, 12, 13, 14, 15, 16, 17, 18, 19] rfl rfl (by decide) (by decide) rfl hk1 hFc ht hvm hB
    have hP : va_P (dC, dI) cls ((oX3 (p0a 0) p0a p0k p0n (o_10.2)) ++ (oX6 (p0a 5) p0_4a p0_4k p0_4w p0_4l)) H := hP.sub [11, 12, 13, 14, 15, 16, 17, 18, 19, 20, 21, 0, 1, 2, 3, 4, 5, 6, 7, 8, 9, 10] rfl
    have hD : va_D A ((oX3 (p0a 0) p0a p0k p0n (o_10.2)) ++ (oX6 (p0a 5) p0_4a p0_4k p0_4w p0_4l)) := hD.sub [11, 12, 13, 14, 15, 16, 17, 18, 19, 20, 21, 0, 1, 2, 3, 4, 5, 6, 7, 8, 9, 10] (by decide) rfl
    have hK : va_K (dC, dI) cls ((tX3 p0k) ++ (tX6 p0_4k)) s := hK.sub [10, 11, 12, 13, 14, 15, 16, 17, 18, 19, 0, 1, 2, 3, 4, 5, 6, 7, 8, 9] rfl
    obtain rfl : r11 = (o_10.1) := hw
    refine lv_istore (lv' := [(4, .int (o_10.1)), (0, .ref (p0a 0)), (1, .int p1), (2, .int p2), (3, .int p3)]) hx hb dX3_moveWord_87 hl (by decide) rfl (fun ls hl => ?_)
    refine lv_aload_n hx hb dX3_moveWord_89 rfl (lv_at hl 1 rfl) ?_
    refine lv_aload_n hx hb dX3_moveWord_90 rfl (lv_at hl 1 rfl) ?_
    obtain ⟨o_12, hc_12, hrun⟩ := bnd9 hrun
    have hPc := hP.sub (ws' := (oX3 (p0a 0) p0a p0k p0n (o_10.2))) [0, 1, 2, 3, 4, 5, 6, 7, 8, 9, 10] rfl
    have hDc := hD.sub (ws' := (oX3 (p0a 0) p0a p0k p0n (o_10.2))) [0, 1, 2, 3, 4, 5, 6, 7, 8, 9, 10] (by decide) rfl
    have hKc := hK.sub (tys' := (tX3 p0k)) [0, 1, 2, 3, 4, 5, 6, 7, 8, 9] rfl
    have hFc := va_free (wc := (oX3 (p0a 0) p0a p0k p0n (o_10.2))) hD hS hA [0, 1, 2, 3, 4, 5, 6, 7, 8, 9, 10] rfl
    refine va_calli (va_runV (As := []) (rest := [.ref (p0a 0)]) ⟨hx, hb, hml, hown, hts⟩ (kX3_pop l dC dI (p0a := (st0 (p0a 0) p0a)) (p0k := p0k) (p0n := p0n) (p0w := (o_10.2)) (sz := _) (o := o_12) (hrun := hc_12)) (cwV 0 hts (gi_V qw904 qw905 qw906 qw888 (gi_z qw903)) rfl rfl rfl (by decide +kernel) ⟨Nat.le_of_ble_eq_true rfl, Nat.le_of_ble_eq_true rfl⟩) ⟨PRE.blind, va_recv hKc hPc (ci := 10) (q0 := 0) rfl rfl, PRE.of hE hS hFc hPc hKc hDc⟩ rfl rfl hl.1 rfl (lv_room (Nat.le_of_ble_eq_true rfl)) dX3_moveWord_91 ⟨(Nat.le_of_ble_eq_true rfl), (Nat.le_of_ble_eq_true rfl)⟩) hS (fun q _ h => hFc q h) hFc (fun r13 u t H locs ht hvm hw hB hz1 hk1 hS => ?_)
    obtain ⟨hP, hD, hK⟩ := JOIN (wr := (oX6 (p0a 5) p0_4a p0_4k p0_4w p0_4l)) hP hD hK [0, 1, 2, 3, 4, 5, 6, 7, 8, 9, 10] [11, 12, 13, 14, 15, 16, 17, 18, 19, 20, 21] [10, 11, 12, 13, 14, 15, 16, 17, 18, 19] rfl rfl (by decide) (by decide) rfl hk1 hFc ht hvm hB
    have hP : va_P (dC, dI) cls ((oX3 (p0a 0) p0a p0k p0n (o_12.2)) ++ (oX6 (p0a 5) p0_4a p0_4k p0_4w p0_4l)) H := hP.sub [11, 12, 13, 14, 15, 16, 17, 18, 19, 20, 21, 0, 1, 2, 3, 4, 5, 6, 7, 8, 9, 10] rfl
    have hD : va_D A ((oX3 (p0a 0) p0a p0k p0n (o_12.2)) ++ (oX6 (p0a 5) p0_4a p0_4k p0_4w p0_4l)) := hD.sub [11, 12, 13, 14, 15, 16, 17, 18, 19, 20, 21, 0, 1, 2, 3, 4, 5, 6, 7, 8, 9, 10] (by decide) rfl
    have hK : va_K (dC, dI) cls ((tX3 p0k) ++ (tX6 p0_4k)) s := hK.sub [10, 11, 12, 13, 14, 15, 16, 17, 18, 19, 0, 1, 2, 3, 4, 5, 6, 7, 8, 9] rfl
    obtain rfl : r13 = (o_12.1) := hw
    refine lv_iload hx hb dX3_moveWord_94 (lv_at hl 0 rfl) ?_
    obtain ⟨o_14, hc_14, hrun⟩ := bnd9 hrun
    have hPc := hP.sub (ws' := (oX3 (p0a 0) p0a p0k p0n (o_12.2))) [0, 1, 2, 3, 4, 5, 6, 7, 8, 9, 10] rfl
    have hDc := hD.sub (ws' := (oX3 (p0a 0) p0a p0k p0n (o_12.2))) [0, 1, 2, 3, 4, 5, 6, 7, 8, 9, 10] (by decide) rfl
    have hKc := hK.sub (tys' := (tX3 p0k)) [0, 1, 2, 3, 4, 5, 6, 7, 8, 9] rfl
    have hFc := va_free (wc := (oX3 (p0a 0) p0a p0k p0n (o_12.2))) hD hS hA [0, 1, 2, 3, 4, 5, 6, 7, 8, 9, 10] rfl
    refine va_callv (va_runV (As := [.int (o_12.1), .int (o_10.1)]) (rest := []) ⟨hx, hb, hml, hown, hts⟩ (kX3_writeWord l dC dI (p0a := (st0 (p0a 0) p0a)) (p0k := p0k) (p0n := p0n) (p0w := (o_12.2)) (p1 := (o_12.1)) (p2 := (o_10.1)) (sz := _) (o := o_14) (hrun := hc_14)) (cwV 2 hts (gi_V qw947 qw948 qw949 qw888 (gi_z qw946)) rfl rfl rfl (by decide +kernel) ⟨Nat.le_of_ble_eq_true rfl, Nat.le_of_ble_eq_true rfl⟩) ⟨PRE.blind, va_recv hKc hPc (ci := 10) (q0 := 0) rfl rfl, PRE.of hE hS hFc hPc hKc hDc⟩ rfl rfl hl.1 rfl (lv_room (Nat.le_of_ble_eq_true rfl)) dX3_moveWord_96 ⟨(Nat.le_of_ble_eq_true rfl), (Nat.le_of_ble_eq_true rfl)⟩) hS (fun q _ h => hFc q h) hFc (fun u t H locs ht hvm hw hB hz1 hk1 hS => ?_)
    obtain ⟨hP, hD, hK⟩ := JOIN (wr := (oX6 (p0a 5) p0_4a p0_4k p0_4w p0_4l)) hP hD hK [0, 1, 2, 3, 4, 5, 6, 7, 8, 9, 10] [11, 12, 13, 14, 15, 16, 17, 18, 19, 20, 21] [10, 11, 12, 13, 14, 15, 16, 17, 18, 19] rfl rfl (by decide) (by decide) rfl hk1 hFc ht hvm hB
    have hP : va_P (dC, dI) cls ((oX3 (p0a 0) p0a p0k p0n o_14) ++ (oX6 (p0a 5) p0_4a p0_4k p0_4w p0_4l)) H := hP.sub [11, 12, 13, 14, 15, 16, 17, 18, 19, 20, 21, 0, 1, 2, 3, 4, 5, 6, 7, 8, 9, 10] rfl
    have hD : va_D A ((oX3 (p0a 0) p0a p0k p0n o_14) ++ (oX6 (p0a 5) p0_4a p0_4k p0_4w p0_4l)) := hD.sub [11, 12, 13, 14, 15, 16, 17, 18, 19, 20, 21, 0, 1, 2, 3, 4, 5, 6, 7, 8, 9, 10] (by decide) rfl
    have hK : va_K (dC, dI) cls ((tX3 p0k) ++ (tX6 p0_4k)) s := hK.sub [10, 11, 12, 13, 14, 15, 16, 17, 18, 19, 0, 1, 2, 3, 4, 5, 6, 7, 8, 9] rfl
    refine lv_goto (tgt := 156) hx hb dX3_moveWord_99 (by decide) ?_
    exact J156 o_14 _ _ _ hrun hP hD hK hS (lv_sub hl [] rfl)
  rcases br9 hrun with ⟨hc15, hrun⟩ | ⟨hc15, hrun⟩
  · refine lv_lookup (off := 122) (tgt := 123) hx hb dX3_moveWord_1 (by decide) (by rw [hc15]; decide) (by decide) ?_
    refine lv_aload_n hx hb dX3_moveWord_123 rfl (lv_at hl 0 rfl) ?_
    refine lv_iconst (v := 0) hx hb dX3_moveWord_124 (by decide) ?_
    refine lv_iload_n hx hb dX3_moveWord_125 rfl (lv_at hl 3 rfl) ?_
    obtain ⟨o_16, hc_16, hrun⟩ := bnd9 hrun
    have hPc := hP.sub (ws' := ((oX3 (p0a 0) p0a p0k p0n p0w) ++ (oX6 (p0a 5) p0_4a p0_4k p0_4w p0_4l))) [0, 1, 2, 3, 4, 5, 6, 7, 8, 9, 10, 11, 12, 13, 14, 15, 16, 17, 18, 19, 20, 21] rfl
    have hDc := hD.sub (ws' := ((oX3 (p0a 0) p0a p0k p0n p0w) ++ (oX6 (p0a 5) p0_4a p0_4k p0_4w p0_4l))) [0, 1, 2, 3, 4, 5, 6, 7, 8, 9, 10, 11, 12, 13, 14, 15, 16, 17, 18, 19, 20, 21] (by decide) rfl
    have hKc := hK.sub (tys' := ((tX3 p0k) ++ (tX6 p0_4k))) [0, 1, 2, 3, 4, 5, 6, 7, 8, 9, 10, 11, 12, 13, 14, 15, 16, 17, 18, 19] rfl
    have hFc := va_free (wc := ((oX3 (p0a 0) p0a p0k p0n p0w) ++ (oX6 (p0a 5) p0_4a p0_4k p0_4w p0_4l))) hD hS hA [0, 1, 2, 3, 4, 5, 6, 7, 8, 9, 10, 11, 12, 13, 14, 15, 16, 17, 18, 19, 20, 21] rfl
    refine va_callv (va_runV (As := [.int 0, .int p3]) (rest := []) ⟨hx, hb, hml, hown, hts⟩ (kX3_enter l dC dI (p0a := (st0 (p0a 0) p0a)) (p0k := p0k) (p0n := p0n) (p0w := p0w) (p1 := 0) (p2 := p3) (p0_4a := p0_4a) (p0_4k := p0_4k) (p0_4w := p0_4w) (p0_4l := p0_4l) (sz := _) (o := o_16) (hrun := hc_16)) (cwV 2 hts (gi_V qw951 qw952 qw953 qw888 (gi_z qw950)) rfl rfl rfl (by decide +kernel) ⟨Nat.le_of_ble_eq_true rfl, Nat.le_of_ble_eq_true rfl⟩) ⟨PRE.blind, va_recv hKc hPc (ci := 10) (q0 := 0) rfl rfl, PRE.of hE hS hFc hPc hKc hDc⟩ rfl rfl hl.1 rfl (lv_room (Nat.le_of_ble_eq_true rfl)) dX3_moveWord_126 ⟨(Nat.le_of_ble_eq_true rfl), (Nat.le_of_ble_eq_true rfl)⟩) hS (fun q _ h => hFc q h) hFc (fun u t H locs ht hvm hw hB hz1 hk1 hS => ?_)
    obtain ⟨hP, hD, hK⟩ := JOIN (wr := ([] : va_W)) hP hD hK [0, 1, 2, 3, 4, 5, 6, 7, 8, 9, 10, 11, 12, 13, 14, 15, 16, 17, 18, 19, 20, 21] [] [] rfl rfl (by decide) (by decide) rfl hk1 hFc ht hvm hB
    have hP : va_P (dC, dI) cls ((oX3 (p0a 0) p0a p0k p0n o_16) ++ (oX6 (p0a 5) p0_4a p0_4k p0_4w p0_4l)) H := hP.sub [0, 1, 2, 3, 4, 5, 6, 7, 8, 9, 10, 11, 12, 13, 14, 15, 16, 17, 18, 19, 20, 21] rfl
    have hD : va_D A ((oX3 (p0a 0) p0a p0k p0n o_16) ++ (oX6 (p0a 5) p0_4a p0_4k p0_4w p0_4l)) := hD.sub [0, 1, 2, 3, 4, 5, 6, 7, 8, 9, 10, 11, 12, 13, 14, 15, 16, 17, 18, 19, 20, 21] (by decide) rfl
    have hK : va_K (dC, dI) cls ((tX3 p0k) ++ (tX6 p0_4k)) s := hK.sub [0, 1, 2, 3, 4, 5, 6, 7, 8, 9, 10, 11, 12, 13, 14, 15, 16, 17, 18, 19] rfl
    refine lv_goto (tgt := 156) hx hb dX3_moveWord_129 (by decide) ?_
    exact J156 o_16 _ _ _ hrun hP hD hK hS (lv_sub hl [] rfl)
  rcases br9 hrun with ⟨hc17, hrun⟩ | ⟨hc17, hrun⟩
  · refine lv_lookup (off := 101) (tgt := 102) hx hb dX3_moveWord_1 (by decide) (by rw [hc17]; decide) (by decide) ?_
    refine lv_aload_n hx hb dX3_moveWord_102 rfl (lv_at hl 0 rfl) ?_
    refine va_get (D := (dC, dI)) (ci := 10) (v := .ref (p0a 16)) (C := RX3) (T := TX3) (N := 20) hx hb hts i_X3 hown hK hP 0 rfl rfl 15 (by decide) (hts _ qw891) (fun _ h9 => h9) rfl dX3_moveWord_103 ?_
    refine lv_iload_n hx hb dX3_moveWord_106 rfl (lv_at hl 1 rfl) ?_
    refine lv_sipush (v := 320) hx hb dX3_moveWord_107 (by decide) ?_
    refine lv_imul hx hb dX3_moveWord_110 ?_
    refine lv_iload_n hx hb dX3_moveWord_111 rfl (lv_at hl 3 rfl) ?_
    refine lv_iadd hx hb dX3_moveWord_112 ?_
    refine lv_aload_n hx hb dX3_moveWord_113 rfl (lv_at hl 0 rfl) ?_
    refine lv_iload_n hx hb dX3_moveWord_114 rfl (lv_at hl 1 rfl) ?_
    refine lv_iload_n hx hb dX3_moveWord_115 rfl (lv_at hl 3 rfl) ?_
    obtain ⟨o_18, hc_18, hrun⟩ := bnd9 hrun
    have hPc := hP.sub (ws' := (oX3 (p0a 0) p0a p0k p0n p0w)) [0, 1, 2, 3, 4, 5, 6, 7, 8, 9, 10] rfl
    have hDc := hD.sub (ws' := (oX3 (p0a 0) p0a p0k p0n p0w)) [0, 1, 2, 3, 4, 5, 6, 7, 8, 9, 10] (by decide) rfl
    have hKc := hK.sub (tys' := (tX3 p0k)) [0, 1, 2, 3, 4, 5, 6, 7, 8, 9] rfl
    have hFc := va_free (wc := (oX3 (p0a 0) p0a p0k p0n p0w)) hD hS hA [0, 1, 2, 3, 4, 5, 6, 7, 8, 9, 10] rfl
    refine va_calli (va_runV (As := [.int p1, .int p3]) (rest := [.int ((p1 * 320) + p3), .ref (p0a 16)]) ⟨hx, hb, hml, hown, hts⟩ (kX3_argumentOf l dC dI (p0a := (st0 (p0a 0) p0a)) (p0k := p0k) (p0n := p0n) (p0w := p0w) (p1 := p1) (p2 := p3) (sz := _) (o := o_18) (hrun := hc_18)) (cwV 2 hts (gi_V qw955 qw956 qw957 qw888 (gi_z qw954)) rfl rfl rfl (by decide +kernel) ⟨Nat.le_of_ble_eq_true rfl, Nat.le_of_ble_eq_true rfl⟩) ⟨PRE.blind, va_recv hKc hPc (ci := 10) (q0 := 0) rfl rfl, PRE.of hE hS hFc hPc hKc hDc⟩ rfl rfl hl.1 rfl (lv_room (Nat.le_of_ble_eq_true rfl)) dX3_moveWord_116 ⟨(Nat.le_of_ble_eq_true rfl), (Nat.le_of_ble_eq_true rfl)⟩) hS (fun q _ h => hFc q h) hFc (fun r19 u t H locs ht hvm hw hB hz1 hk1 hS => ?_)
    obtain ⟨hP, hD, hK⟩ := JOIN (wr := (oX6 (p0a 5) p0_4a p0_4k p0_4w p0_4l)) hP hD hK [0, 1, 2, 3, 4, 5, 6, 7, 8, 9, 10] [11, 12, 13, 14, 15, 16, 17, 18, 19, 20, 21] [10, 11, 12, 13, 14, 15, 16, 17, 18, 19] rfl rfl (by decide) (by decide) rfl hk1 hFc ht hvm hB
    have hP : va_P (dC, dI) cls ((oX3 (p0a 0) p0a p0k p0n p0w) ++ (oX6 (p0a 5) p0_4a p0_4k p0_4w p0_4l)) H := hP.sub [11, 12, 13, 14, 15, 16, 17, 18, 19, 20, 21, 0, 1, 2, 3, 4, 5, 6, 7, 8, 9, 10] rfl
    have hD : va_D A ((oX3 (p0a 0) p0a p0k p0n p0w) ++ (oX6 (p0a 5) p0_4a p0_4k p0_4w p0_4l)) := hD.sub [11, 12, 13, 14, 15, 16, 17, 18, 19, 20, 21, 0, 1, 2, 3, 4, 5, 6, 7, 8, 9, 10] (by decide) rfl
    have hK : va_K (dC, dI) cls ((tX3 p0k) ++ (tX6 p0_4k)) s := hK.sub [10, 11, 12, 13, 14, 15, 16, 17, 18, 19, 0, 1, 2, 3, 4, 5, 6, 7, 8, 9] rfl
    obtain rfl : o_18 = r19 := hw.symm
    obtain ⟨hq20, hrun⟩ := chk9 hrun
    refine va_iast hx hb hK hP hD hS 8 7 rfl rfl (ixb_in hq20) dX3_moveWord_119 (fun H locs hP hD hS => ?_)
    have hP : va_P (dC, dI) cls ((oX3 (p0a 0) p0a p0k p0n (upw p0w 16 (nn ((p1 * 320) + p3)) o_18)) ++ (oX6 (p0a 5) p0_4a p0_4k p0_4w p0_4l)) H := hP
    have hD : va_D A ((oX3 (p0a 0) p0a p0k p0n (upw p0w 16 (nn ((p1 * 320) + p3)) o_18)) ++ (oX6 (p0a 5) p0_4a p0_4k p0_4w p0_4l)) := hD
    obtain ⟨w21, ew21, hrun⟩ := let9 hrun
    rw [← ew21] at hP hD
    refine lv_goto (tgt := 156) hx hb dX3_moveWord_120 (by decide) ?_
    exact J156 w21 _ _ _ hrun hP hD hK hS (lv_sub hl [] rfl)
  rcases br9 hrun with ⟨hc22, hrun⟩ | ⟨hc22, hrun⟩
  · refine lv_lookup (off := 131) (tgt := 132) hx hb dX3_moveWord_1 (by decide) (by rw [hc22]; decide) (by decide) ?_
    refine lv_aload_n hx hb dX3_moveWord_132 rfl (lv_at hl 0 rfl) ?_
    obtain ⟨o_23, hc_23, hrun⟩ := bnd9 hrun
    have hPc := hP.sub (ws' := (oX3 (p0a 0) p0a p0k p0n p0w)) [0, 1, 2, 3, 4, 5, 6, 7, 8, 9, 10] rfl
    have hDc := hD.sub (ws' := (oX3 (p0a 0) p0a p0k p0n p0w)) [0, 1, 2, 3, 4, 5, 6, 7, 8, 9, 10] (by decide) rfl
    have hKc := hK.sub (tys' := (tX3 p0k)) [0, 1, 2, 3, 4, 5, 6, 7, 8, 9] rfl
    have hFc := va_free (wc := (oX3 (p0a 0) p0a p0k p0n p0w)) hD hS hA [0, 1, 2, 3, 4, 5, 6, 7, 8, 9, 10] rfl
    refine va_calli (va_runV (As := []) (rest := []) ⟨hx, hb, hml, hown, hts⟩ (kX3_pop l dC dI (p0a := (st0 (p0a 0) p0a)) (p0k := p0k) (p0n := p0n) (p0w := p0w) (sz := _) (o := o_23) (hrun := hc_23)) (cwV 0 hts (gi_V qw904 qw905 qw906 qw888 (gi_z qw903)) rfl rfl rfl (by decide +kernel) ⟨Nat.le_of_ble_eq_true rfl, Nat.le_of_ble_eq_true rfl⟩) ⟨PRE.blind, va_recv hKc hPc (ci := 10) (q0 := 0) rfl rfl, PRE.of hE hS hFc hPc hKc hDc⟩ rfl rfl hl.1 rfl (lv_room (Nat.le_of_ble_eq_true rfl)) dX3_moveWord_133 ⟨(Nat.le_of_ble_eq_true rfl), (Nat.le_of_ble_eq_true rfl)⟩) hS (fun q _ h => hFc q h) hFc (fun r24 u t H locs ht hvm hw hB hz1 hk1 hS => ?_)
    obtain ⟨hP, hD, hK⟩ := JOIN (wr := (oX6 (p0a 5) p0_4a p0_4k p0_4w p0_4l)) hP hD hK [0, 1, 2, 3, 4, 5, 6, 7, 8, 9, 10] [11, 12, 13, 14, 15, 16, 17, 18, 19, 20, 21] [10, 11, 12, 13, 14, 15, 16, 17, 18, 19] rfl rfl (by decide) (by decide) rfl hk1 hFc ht hvm hB
    have hP : va_P (dC, dI) cls ((oX3 (p0a 0) p0a p0k p0n (o_23.2)) ++ (oX6 (p0a 5) p0_4a p0_4k p0_4w p0_4l)) H := hP.sub [11, 12, 13, 14, 15, 16, 17, 18, 19, 20, 21, 0, 1, 2, 3, 4, 5, 6, 7, 8, 9, 10] rfl
    have hD : va_D A ((oX3 (p0a 0) p0a p0k p0n (o_23.2)) ++ (oX6 (p0a 5) p0_4a p0_4k p0_4w p0_4l)) := hD.sub [11, 12, 13, 14, 15, 16, 17, 18, 19, 20, 21, 0, 1, 2, 3, 4, 5, 6, 7, 8, 9, 10] (by decide) rfl
    have hK : va_K (dC, dI) cls ((tX3 p0k) ++ (tX6 p0_4k)) s := hK.sub [10, 11, 12, 13, 14, 15, 16, 17, 18, 19, 0, 1, 2, 3, 4, 5, 6, 7, 8, 9] rfl
    obtain rfl : r24 = (o_23.1) := hw
    refine lv_istore (lv' := [(5, .int (o_23.1)), (0, .ref (p0a 0)), (1, .int p1), (2, .int p2), (3, .int p3)]) hx hb dX3_moveWord_136 hl (by decide) rfl (fun ls hl => ?_)
    refine lv_aload_n hx hb dX3_moveWord_138 rfl (lv_at hl 1 rfl) ?_
    refine lv_iload hx hb dX3_moveWord_139 (lv_at hl 0 rfl) ?_
    obtain ⟨o_25, hc_25, hrun⟩ := bnd9 hrun
    have hPc := hP.sub (ws' := (oX3 (p0a 0) p0a p0k p0n (o_23.2))) [0, 1, 2, 3, 4, 5, 6, 7, 8, 9, 10] rfl
    have hDc := hD.sub (ws' := (oX3 (p0a 0) p0a p0k p0n (o_23.2))) [0, 1, 2, 3, 4, 5, 6, 7, 8, 9, 10] (by decide) rfl
    have hKc := hK.sub (tys' := (tX3 p0k)) [0, 1, 2, 3, 4, 5, 6, 7, 8, 9] rfl
    have hFc := va_free (wc := (oX3 (p0a 0) p0a p0k p0n (o_23.2))) hD hS hA [0, 1, 2, 3, 4, 5, 6, 7, 8, 9, 10] rfl
    refine va_calli (va_runV (As := [.int (o_23.1)]) (rest := []) ⟨hx, hb, hml, hown, hts⟩ (kX3_close l dC dI (p0a := (st0 (p0a 0) p0a)) (p0k := p0k) (p0n := p0n) (p0w := (o_23.2)) (p1 := (o_23.1)) (sz := _) (o := o_25) (hrun := hc_25)) (cwV 1 hts (gi_V qw894 qw895 qw896 qw888 (gi_z qw893)) rfl rfl rfl (by decide +kernel) ⟨Nat.le_of_ble_eq_true rfl, Nat.le_of_ble_eq_true rfl⟩) ⟨PRE.blind, va_recv hKc hPc (ci := 10) (q0 := 0) rfl rfl, PRE.of hE hS hFc hPc hKc hDc⟩ rfl rfl hl.1 rfl (lv_room (Nat.le_of_ble_eq_true rfl)) dX3_moveWord_141 ⟨(Nat.le_of_ble_eq_true rfl), (Nat.le_of_ble_eq_true rfl)⟩) hS (fun q _ h => hFc q h) hFc (fun r26 u t H locs ht hvm hw hB hz1 hk1 hS => ?_)
    obtain ⟨hP, hD, hK⟩ := JOIN (wr := (oX6 (p0a 5) p0_4a p0_4k p0_4w p0_4l)) hP hD hK [0, 1, 2, 3, 4, 5, 6, 7, 8, 9, 10] [11, 12, 13, 14, 15, 16, 17, 18, 19, 20, 21] [10, 11, 12, 13, 14, 15, 16, 17, 18, 19] rfl rfl (by decide) (by decide) rfl hk1 hFc ht hvm hB
    have hP : va_P (dC, dI) cls ((oX3 (p0a 0) p0a p0k p0n (o_25.2)) ++ (oX6 (p0a 5) p0_4a p0_4k p0_4w p0_4l)) H := hP.sub [11, 12, 13, 14, 15, 16, 17, 18, 19, 20, 21, 0, 1, 2, 3, 4, 5, 6, 7, 8, 9, 10] rfl
    have hD : va_D A ((oX3 (p0a 0) p0a p0k p0n (o_25.2)) ++ (oX6 (p0a 5) p0_4a p0_4k p0_4w p0_4l)) := hD.sub [11, 12, 13, 14, 15, 16, 17, 18, 19, 20, 21, 0, 1, 2, 3, 4, 5, 6, 7, 8, 9, 10] (by decide) rfl
    have hK : va_K (dC, dI) cls ((tX3 p0k) ++ (tX6 p0_4k)) s := hK.sub [10, 11, 12, 13, 14, 15, 16, 17, 18, 19, 0, 1, 2, 3, 4, 5, 6, 7, 8, 9] rfl
    obtain rfl : r26 = (o_25.1) := hw
    rcases br9 hrun with ⟨hc27, hrun⟩ | ⟨hc27, hrun⟩
    · refine lv_if_eq (tgt := 156) hx hb dX3_moveWord_144 (by decide) (fun _ => ?_) (fun c => absurd hc27 c)
      exact J156 (o_25.2) _ _ _ hrun hP hD hK hS (lv_sub hl [] rfl)
    · refine lv_if_eq (tgt := 156) hx hb dX3_moveWord_144 (by decide) (fun c => absurd c hc27) (fun _ => ?_)
      refine lv_aload_n hx hb dX3_moveWord_147 rfl (lv_at hl 1 rfl) ?_
      refine lv_iload hx hb dX3_moveWord_148 (lv_at hl 0 rfl) ?_
      obtain ⟨o_28, hc_28, hrun⟩ := bnd9 hrun
      have hPc := hP.sub (ws' := (oX3 (p0a 0) p0a p0k p0n (o_25.2))) [0, 1, 2, 3, 4, 5, 6, 7, 8, 9, 10] rfl
      have hDc := hD.sub (ws' := (oX3 (p0a 0) p0a p0k p0n (o_25.2))) [0, 1, 2, 3, 4, 5, 6, 7, 8, 9, 10] (by decide) rfl
      have hKc := hK.sub (tys' := (tX3 p0k)) [0, 1, 2, 3, 4, 5, 6, 7, 8, 9] rfl
      have hFc := va_free (wc := (oX3 (p0a 0) p0a p0k p0n (o_25.2))) hD hS hA [0, 1, 2, 3, 4, 5, 6, 7, 8, 9, 10] rfl
      refine va_callv (va_runV (As := [.int (o_23.1)]) (rest := []) ⟨hx, hb, hml, hown, hts⟩ (kX3_push l dC dI (p0a := (st0 (p0a 0) p0a)) (p0k := p0k) (p0n := p0n) (p0w := (o_25.2)) (p1 := (o_23.1)) (sz := _) (o := o_28) (hrun := hc_28)) (cwV 1 hts (gi_V qw935 qw936 qw937 qw888 (gi_z qw934)) rfl rfl rfl (by decide +kernel) ⟨Nat.le_of_ble_eq_true rfl, Nat.le_of_ble_eq_true rfl⟩) ⟨PRE.blind, va_recv hKc hPc (ci := 10) (q0 := 0) rfl rfl, PRE.of hE hS hFc hPc hKc hDc⟩ rfl rfl hl.1 rfl (lv_room (Nat.le_of_ble_eq_true rfl)) dX3_moveWord_150 ⟨(Nat.le_of_ble_eq_true rfl), (Nat.le_of_ble_eq_true rfl)⟩) hS (fun q _ h => hFc q h) hFc (fun u t H locs ht hvm hw hB hz1 hk1 hS => ?_)
      obtain ⟨hP, hD, hK⟩ := JOIN (wr := (oX6 (p0a 5) p0_4a p0_4k p0_4w p0_4l)) hP hD hK [0, 1, 2, 3, 4, 5, 6, 7, 8, 9, 10] [11, 12, 13, 14, 15, 16, 17, 18, 19, 20, 21] [10, 11, 12, 13, 14, 15, 16, 17, 18, 19] rfl rfl (by decide) (by decide) rfl hk1 hFc ht hvm hB
      have hP : va_P (dC, dI) cls ((oX3 (p0a 0) p0a p0k p0n o_28) ++ (oX6 (p0a 5) p0_4a p0_4k p0_4w p0_4l)) H := hP.sub [11, 12, 13, 14, 15, 16, 17, 18, 19, 20, 21, 0, 1, 2, 3, 4, 5, 6, 7, 8, 9, 10] rfl
      have hD : va_D A ((oX3 (p0a 0) p0a p0k p0n o_28) ++ (oX6 (p0a 5) p0_4a p0_4k p0_4w p0_4l)) := hD.sub [11, 12, 13, 14, 15, 16, 17, 18, 19, 20, 21, 0, 1, 2, 3, 4, 5, 6, 7, 8, 9, 10] (by decide) rfl
      have hK : va_K (dC, dI) cls ((tX3 p0k) ++ (tX6 p0_4k)) s := hK.sub [10, 11, 12, 13, 14, 15, 16, 17, 18, 19, 0, 1, 2, 3, 4, 5, 6, 7, 8, 9] rfl
      refine lv_goto (tgt := 156) hx hb dX3_moveWord_153 (by decide) ?_
      exact J156 o_28 _ _ _ hrun hP hD hK hS (lv_sub hl [] rfl)
  refine lv_lookup (off := 155) (tgt := 156) hx hb dX3_moveWord_1 (by decide) (by rw [lv_osw hc1 (by decide), lv_osw hc3 (by decide), lv_osw hc9 (by decide), lv_osw hc15 (by decide), lv_osw hc17 (by decide), lv_osw hc22 (by decide)]; rfl) (by decide) ?_
  exact J156 p0w _ _ _ hrun hP hD hK hS (lv_sub hl [] rfl)
def fX3_operate (p0w : ST) (p1 : Int32) (p2 : Int32) (p3 : Int32) : Option (Int32 × ST) := ((fX11_isFailing p1 p3).bind fun (o_1 : Int32) => (if o_1 = 0 then ((fX11_compute p1 p2 p3).bind fun (o_4 : Int32) => some (o_4, p0w)) else ((fX3_stop p0w 1).bind fun (o_6 : ST) => some (0, o_6))))
set_option maxHeartbeats 16000000 in
set_option maxRecDepth 100000 in
theorem kX3_operate {zs : Nat × Nat} (l : Launch) (dC : Nat → ClassId) (dI : Nat → Nat → Nat) (p0a : Nat → Nat) (p0k : Nat → ClassId) (p0n : Nat → Nat) (p0w : ST) (p1 : Int32) (p2 : Int32) (p3 : Int32) (sz : Nat) (o : Int32 × ST) (hrun : fX3_operate p0w p1 p2 p3 = some o) : Met l yX3_operate (wz yX3_operate cX3_operate 4 (Option.some Jvm.ClassFile.FieldType.int)) ({ frames := 1, cells := 0, slots := 0, locals := 22 } : Room) (va_Pc [.ref (p0a 0), .int p1, .int p2, .int p3] (PRE zs dC dI (oX3 (p0a 0) p0a p0k p0n p0w) (tX3 p0k) sz)) (va_Qi (fun (r : Int32) (_ : Unit) => r = (o.1)) (fun _ t => POST dC dI (oX3 (p0a 0) p0a p0k p0n (o.2)) (tX3 p0k) (va_A (oX3 (p0a 0) p0a p0k p0n p0w) sz) t) (va_A (oX3 (p0a 0) p0a p0k p0n p0w) sz)) 0 0 (va_A (oX3 (p0a 0) p0a p0k p0n p0w) sz) := by
  refine Met.ofW (cc := cX3_operate) (maxL := 4) (ret := (Option.some Jvm.ClassFile.FieldType.int)) (by decide) rfl ?_
  intro p e s m args below meth c s₁ B hml hv
  obtain ⟨rfl, hsz, hP, hK, hD0, hE⟩ := hv
  have hx := B.exec
  have hb := B.bytes
  have hr := B.returns
  have hts0 := atoms_spec (ws := wz yX3_operate cX3_operate 4 (Option.some Jvm.ClassFile.FieldType.int)) B.pre
  have hts : ∀ w ∈ gw, w.before _ s = true := fun w h => hts0 w (List.mem_cons_of_mem _ h)
  have hown : s.vm.findClass RX3 = some m.cls := findClass_of_methodNamed B.named
  have hlocks := B.notSynchronized
  subst hsz
  have hD := hD0.self (sz := s.heap.size)
  refine gQ9 ?_
  intro Q hQ
  generalize hAe : va_A (oX3 (p0a 0) p0a p0k p0n p0w) s.heap.size = A at hD hE hQ
  have hA : ∀ q : Nat, s.heap.size ≤ q → A q := fun q h => by rw [← hAe]; exact Or.inr h
  have hS : va_S A s.heap s.heap [] := va_S.rf
  have hP : va_P (dC, dI) cls (oX3 (p0a 0) p0a p0k p0n p0w) s.heap := hP
  have hl := lv_entry ([.ref (p0a 0), .int p1, .int p2, .int p3]) (n := 4) (Nat.le_of_ble_eq_true rfl)
  rw [lg_entry_eq]
  generalize (lg_sl ([.ref (p0a 0), .int p1, .int p2, .int p3]) ++ List.replicate (4 - (lg_sl ([.ref (p0a 0), .int p1, .int p2, .int p3])).length) Slot.unset).toArray = ls at hl ⊢
  have hl : lv_has ls 4 [(0, .ref (p0a 0)), (1, .int p1), (2, .int p2), (3, .int p3)] := hl
  obtain ⟨H, hHe⟩ : ∃ H, H = s.heap := ⟨_, rfl⟩
  obtain ⟨locs, hle⟩ : ∃ locs : List Loc, locs = [] := ⟨_, rfl⟩
  rw [← hHe] at hP
  have hS : va_S A s.heap H locs := by rw [hHe, hle]; exact hS
  show W p l e ({ frames := 1, cells := 0, slots := 0, locals := 22 } : Room) s m ([.ref (p0a 0), .int p1, .int p2, .int p3] : List Value).toArray below meth c s.heap [] 0 0 Q (F0 m 0 ls [])
  rw [← hle]
  refine wH9 hHe ?_
  unfold fX3_operate at hrun
  refine lv_iload_n hx hb dX3_operate_0 rfl (lv_at hl 1 rfl) ?_
  refine lv_iload_n hx hb dX3_operate_1 rfl (lv_at hl 3 rfl) ?_
  obtain ⟨o_1, hc_1, hrun⟩ := bnd9 hrun
  have hPc := hP.sub (ws' := ([] : va_W)) [] rfl
  have hDc := hD.sub (ws' := ([] : va_W)) [] (by decide) rfl
  have hKc := hK.sub (tys' := ([] : List (ClassId × FieldType))) [] rfl
  have hFc := va_free (wc := ([] : va_W)) hD hS hA [] rfl
  refine va_calli (va_runSN (As := [.int p1, .int p3]) (rest := []) ⟨hx, hb, hml, hown, hts⟩ (kX11_isFailing l dC dI (p0 := p1) (p1 := p3) (sz := _) (o := o_1) (hrun := hc_1)) ⟨(va_cnB 2 hts (gi_z qw517) rfl rfl rfl (hE.nw (List.mem_append_right _ (tbl_9 (i := 211) rfl)) rfl) (hts _ qw129) (by decide +kernel) ⟨Nat.le_of_ble_eq_true rfl, Nat.le_of_ble_eq_true rfl⟩), (hts _ qw518), trivial⟩ ⟨PRE.blind, PRE.of hE hS hFc hPc hKc hDc⟩ rfl rfl hl.1 rfl (lv_room (Nat.le_of_ble_eq_true rfl)) dX3_operate_2 ⟨(Nat.le_of_ble_eq_true rfl), (Nat.le_of_ble_eq_true rfl)⟩) hS (fun q _ h => hFc q h) hFc (fun r2 u t H locs ht hvm hw hB hz1 hk1 hS => ?_)
  obtain ⟨hP, hD, hK⟩ := JOIN (wr := (oX3 (p0a 0) p0a p0k p0n p0w)) hP hD hK [] [0, 1, 2, 3, 4, 5, 6, 7, 8, 9, 10] [0, 1, 2, 3, 4, 5, 6, 7, 8, 9] rfl rfl (by decide) (by decide) rfl hk1 hFc ht hvm hB
  have hP : va_P (dC, dI) cls (oX3 (p0a 0) p0a p0k p0n p0w) H := hP.sub [0, 1, 2, 3, 4, 5, 6, 7, 8, 9, 10] rfl
  have hD : va_D A (oX3 (p0a 0) p0a p0k p0n p0w) := hD.sub [0, 1, 2, 3, 4, 5, 6, 7, 8, 9, 10] (by decide) rfl
  have hK : va_K (dC, dI) cls (tX3 p0k) s := hK.sub [0, 1, 2, 3, 4, 5, 6, 7, 8, 9] rfl
  obtain rfl : o_1 = r2 := hw.symm
  rcases br9 hrun with ⟨hc3, hrun⟩ | ⟨hc3, hrun⟩
  · refine lv_if_eq (tgt := 15) hx hb dX3_operate_5 (by decide) (fun _ => ?_) (fun c => absurd hc3 c)
    refine lv_iload_n hx hb dX3_operate_15 rfl (lv_at hl 1 rfl) ?_
    refine lv_iload_n hx hb dX3_operate_16 rfl (lv_at hl 2 rfl) ?_
    refine lv_iload_n hx hb dX3_operate_17 rfl (lv_at hl 3 rfl) ?_
    obtain ⟨o_4, hc_4, hrun⟩ := bnd9 hrun
    have hPc := hP.sub (ws' := ([] : va_W)) [] rfl
    have hDc := hD.sub (ws' := ([] : va_W)) [] (by decide) rfl
    have hKc := hK.sub (tys' := ([] : List (ClassId × FieldType))) [] rfl
    have hFc := va_free (wc := ([] : va_W)) hD hS hA [] rfl
    refine va_calli (va_runSN (As := [.int p1, .int p2, .int p3]) (rest := []) ⟨hx, hb, hml, hown, hts⟩ (kX11_compute l dC dI (p0 := p1) (p1 := p2) (p2 := p3) (sz := _) (o := o_4) (hrun := hc_4)) ⟨(va_cnB 3 hts (gi_z qw519) rfl rfl rfl (hE.nw (List.mem_append_right _ (tbl_9 (i := 212) rfl)) rfl) (hts _ qw129) (by decide +kernel) ⟨Nat.le_of_ble_eq_true rfl, Nat.le_of_ble_eq_true rfl⟩), (hts _ qw520), trivial⟩ ⟨PRE.blind, PRE.of hE hS hFc hPc hKc hDc⟩ rfl rfl hl.1 rfl (lv_room (Nat.le_of_ble_eq_true rfl)) dX3_operate_18 ⟨(Nat.le_of_ble_eq_true rfl), (Nat.le_of_ble_eq_true rfl)⟩) hS (fun q _ h => hFc q h) hFc (fun r5 u t H locs ht hvm hw hB hz1 hk1 hS => ?_)
    obtain ⟨hP, hD, hK⟩ := JOIN (wr := (oX3 (p0a 0) p0a p0k p0n p0w)) hP hD hK [] [0, 1, 2, 3, 4, 5, 6, 7, 8, 9, 10] [0, 1, 2, 3, 4, 5, 6, 7, 8, 9] rfl rfl (by decide) (by decide) rfl hk1 hFc ht hvm hB
    have hP : va_P (dC, dI) cls (oX3 (p0a 0) p0a p0k p0n p0w) H := hP.sub [0, 1, 2, 3, 4, 5, 6, 7, 8, 9, 10] rfl
    have hD : va_D A (oX3 (p0a 0) p0a p0k p0n p0w) := hD.sub [0, 1, 2, 3, 4, 5, 6, 7, 8, 9, 10] (by decide) rfl
    have hK : va_K (dC, dI) cls (tX3 p0k) s := hK.sub [0, 1, 2, 3, 4, 5, 6, 7, 8, 9] rfl
    obtain rfl : o_4 = r5 := hw.symm
    have ho9 : (o_4, p0w) = o := Option.some.inj hrun
    have hP9 : va_P (dC, dI) cls (oX3 (p0a 0) p0a p0k p0n (o.2)) H := by first | exact hP | (rw [← ho9]; exact hP)
    have hD9 : va_D A (oX3 (p0a 0) p0a p0k p0n (o.2)) := by first | exact hD | (rw [← ho9]; exact hD)
    subst hQ
    exact W.iret (v := o_4) hx hb hr (fun t ht hW => ⟨⟨o_4, (), rfl, (by rw [← ho9]), ⟨by rw [ht]; exact hP9, va_K.moved hW.alike hK, hD9⟩⟩, hS.F ht⟩) hS.2.2 dX3_operate_21
  · refine lv_if_eq (tgt := 15) hx hb dX3_operate_5 (by decide) (fun c => absurd c hc3) (fun _ => ?_)
    refine lv_aload_n hx hb dX3_operate_8 rfl (lv_at hl 0 rfl) ?_
    refine lv_iconst (v := 1) hx hb dX3_operate_9 (by decide) ?_
    obtain ⟨o_6, hc_6, hrun⟩ := bnd9 hrun
    have hPc := hP.sub (ws' := (oX3 (p0a 0) p0a p0k p0n p0w)) [0, 1, 2, 3, 4, 5, 6, 7, 8, 9, 10] rfl
    have hDc := hD.sub (ws' := (oX3 (p0a 0) p0a p0k p0n p0w)) [0, 1, 2, 3, 4, 5, 6, 7, 8, 9, 10] (by decide) rfl
    have hKc := hK.sub (tys' := (tX3 p0k)) [0, 1, 2, 3, 4, 5, 6, 7, 8, 9] rfl
    have hFc := va_free (wc := (oX3 (p0a 0) p0a p0k p0n p0w)) hD hS hA [0, 1, 2, 3, 4, 5, 6, 7, 8, 9, 10] rfl
    refine va_callv (va_runV (As := [.int 1]) (rest := []) ⟨hx, hb, hml, hown, hts⟩ (kX3_stop l dC dI (p0a := (st0 (p0a 0) p0a)) (p0k := p0k) (p0n := p0n) (p0w := p0w) (p1 := 1) (sz := _) (o := o_6) (hrun := hc_6)) (cwV 1 hts (gi_V qw885 qw886 qw887 qw888 (gi_z qw884)) rfl rfl rfl (by decide +kernel) ⟨Nat.le_of_ble_eq_true rfl, Nat.le_of_ble_eq_true rfl⟩) ⟨PRE.blind, va_recv hKc hPc (ci := 10) (q0 := 0) rfl rfl, PRE.of hE hS hFc hPc hKc hDc⟩ rfl rfl hl.1 rfl (lv_room (Nat.le_of_ble_eq_true rfl)) dX3_operate_10 ⟨(Nat.le_of_ble_eq_true rfl), (Nat.le_of_ble_eq_true rfl)⟩) hS (fun q _ h => hFc q h) hFc (fun u t H locs ht hvm hw hB hz1 hk1 hS => ?_)
    obtain ⟨hP, hD, hK⟩ := JOIN (wr := ([] : va_W)) hP hD hK [0, 1, 2, 3, 4, 5, 6, 7, 8, 9, 10] [] [] rfl rfl (by decide) (by decide) rfl hk1 hFc ht hvm hB
    have hP : va_P (dC, dI) cls (oX3 (p0a 0) p0a p0k p0n o_6) H := hP.sub [0, 1, 2, 3, 4, 5, 6, 7, 8, 9, 10] rfl
    have hD : va_D A (oX3 (p0a 0) p0a p0k p0n o_6) := hD.sub [0, 1, 2, 3, 4, 5, 6, 7, 8, 9, 10] (by decide) rfl
    have hK : va_K (dC, dI) cls (tX3 p0k) s := hK.sub [0, 1, 2, 3, 4, 5, 6, 7, 8, 9] rfl
    refine lv_iconst (v := 0) hx hb dX3_operate_13 (by decide) ?_
    have ho9 : (0, o_6) = o := Option.some.inj hrun
    have hP9 : va_P (dC, dI) cls (oX3 (p0a 0) p0a p0k p0n (o.2)) H := by first | exact hP | (rw [← ho9]; exact hP)
    have hD9 : va_D A (oX3 (p0a 0) p0a p0k p0n (o.2)) := by first | exact hD | (rw [← ho9]; exact hD)
    subst hQ
    exact W.iret (v := 0) hx hb hr (fun t ht hW => ⟨⟨0, (), rfl, (by rw [← ho9]), ⟨by rw [ht]; exact hP9, va_K.moved hW.alike hK, hD9⟩⟩, hS.F ht⟩) hS.2.2 dX3_operate_14
def fX3_moveInText_J130 (p0w_130 : ST) : Option ST := some p0w_130
def fX3_moveInText_J97 (p0w : ST) (p0_4w : ST) (o_5 : Int32 × ST) : Option ST := (if ixb (p0w 12 (nn ((p0w 0 9) - 1))) 3200 = true then ((fX3_moveVariable (o_5.2) ((p0w 0 9) - 1) (p0_4w 9 (nn (p0w 12 (nn ((p0w 0 9) - 1))))) (p0_4w 10 (nn (p0w 12 (nn ((p0w 0 9) - 1))))) p0_4w).bind fun (o_13 : ST) => (fX3_moveInText_J130 o_13)) else none)
def fX3_moveInText (p0n : Nat → Nat) (p0w : ST) (p0_4w : ST) : Option ST := (if ixb ((p0w 0 9) - 1) 8 = true then (if ixb ((p0w 0 9) - 1) 8 = true then (lt9 (upw p0w 12 (nn ((p0w 0 9) - 1)) ((p0w 12 (nn ((p0w 0 9) - 1))) + 1)) fun (w3 : ST) => (if ixb (p0w 12 (nn ((p0w 0 9) - 1))) 3200 = true then ((fX3_tick w3 (p0_4w 11 (nn (p0w 12 (nn ((p0w 0 9) - 1)))))).bind fun (o_5 : Int32 × ST) => (if (o_5.1) = 0 then some (o_5.2) else (if ixb (p0w 12 (nn ((p0w 0 9) - 1))) 3200 = true then ((fX11_isOperator (p0_4w 9 (nn (p0w 12 (nn ((p0w 0 9) - 1)))))).bind fun (o_9 : Int32) => (if o_9 = 0 then (if 30 ≤ (p0_4w 9 (nn (p0w 12 (nn ((p0w 0 9) - 1))))) then (fX3_moveInText_J97 p0w p0_4w o_5) else (if (p0_4w 9 (nn (p0w 12 (nn ((p0w 0 9) - 1))))) = 22 then (fX3_moveInText_J97 p0w p0_4w o_5) else (if ixb (p0w 12 (nn ((p0w 0 9) - 1))) 3200 = true then ((fX3_moveWord p0n (o_5.2) ((p0w 0 9) - 1) (p0_4w 9 (nn (p0w 12 (nn ((p0w 0 9) - 1))))) (p0_4w 10 (nn (p0w 12 (nn ((p0w 0 9) - 1))))) p0_4w).bind fun (o_17 : ST) => (fX3_moveInText_J130 o_17)) else none))) else ((fX3_pop (o_5.2)).bind fun (o_18 : Int32 × ST) => ((fX3_pop (o_18.2)).bind fun (o_20 : Int32 × ST) => ((fX3_operate (o_20.2) (p0_4w 9 (nn (p0w 12 (nn ((p0w 0 9) - 1))))) (o_20.1) (o_18.1)).bind fun (o_22 : Int32 × ST) => ((fX3_push (o_22.2) (o_22.1)).bind fun (o_24 : ST) => (fX3_moveInText_J130 o_24))))))) else none))) else none)) else none) else none)
set_option maxHeartbeats 16000000 in
set_option maxRecDepth 100000 in
theorem kX3_moveInText {zs : Nat × Nat} (l : Launch) (dC : Nat → ClassId) (dI : Nat → Nat → Nat) (p0a : Nat → Nat) (p0k : Nat → ClassId) (p0n : Nat → Nat) (p0w : ST) (p0_4a : Nat → Nat) (p0_4k : Nat → ClassId) (p0_4w : ST) (p0_4l : SL) (sz : Nat) (o : ST) (hrun : fX3_moveInText p0n p0w p0_4w = some o) : Met l yX3_moveInText (wz yX3_moveInText cX3_moveInText 6 (Option.none : Option Jvm.ClassFile.FieldType)) ({ frames := 4, cells := 0, slots := 0, locals := 96 } : Room) (va_Pc [.ref (p0a 0)] (PRE zs dC dI ((oX3 (p0a 0) p0a p0k p0n p0w) ++ (oX6 (p0a 5) p0_4a p0_4k p0_4w p0_4l)) ((tX3 p0k) ++ (tX6 p0_4k)) sz)) (va_Qv (fun (_ : Unit) => True) (fun _ t => POST dC dI ((oX3 (p0a 0) p0a p0k p0n o) ++ (oX6 (p0a 5) p0_4a p0_4k p0_4w p0_4l)) ((tX3 p0k) ++ (tX6 p0_4k)) (va_A ((oX3 (p0a 0) p0a p0k p0n p0w) ++ (oX6 (p0a 5) p0_4a p0_4k p0_4w p0_4l)) sz) t) (va_A ((oX3 (p0a 0) p0a p0k p0n p0w) ++ (oX6 (p0a 5) p0_4a p0_4k p0_4w p0_4l)) sz)) 0 0 (va_A ((oX3 (p0a 0) p0a p0k p0n p0w) ++ (oX6 (p0a 5) p0_4a p0_4k p0_4w p0_4l)) sz) := by
  refine Met.ofW (cc := cX3_moveInText) (maxL := 6) (ret := (Option.none : Option Jvm.ClassFile.FieldType)) (by decide) rfl ?_
  intro p e s m args below meth c s₁ B hml hv
  obtain ⟨rfl, hsz, hP, hK, hD0, hE⟩ := hv
  have hx := B.exec
  have hb := B.bytes
  have hr := B.returns
  have hts0 := atoms_spec (ws := wz yX3_moveInText cX3_moveInText 6 (Option.none : Option Jvm.ClassFile.FieldType)) B.pre
  have hts : ∀ w ∈ gw, w.before _ s = true := fun w h => hts0 w (List.mem_cons_of_mem _ h)
  have hown : s.vm.findClass RX3 = some m.cls := findClass_of_methodNamed B.named
  have hlocks := B.notSynchronized
  subst hsz
  have hD := hD0.self (sz := s.heap.size)
  refine gQ9 ?_
  intro Q hQ
  generalize hAe : va_A ((oX3 (p0a 0) p0a p0k p0n p0w) ++ (oX6 (p0a 5) p0_4a p0_4k p0_4w p0_4l)) s.heap.size = A at hD hE hQ
  have hA : ∀ q : Nat, s.heap.size ≤ q → A q := fun q h => by rw [← hAe]; exact Or.inr h
  have hS : va_S A s.heap s.heap [] := va_S.rf
  have hP : va_P (dC, dI) cls ((oX3 (p0a 0) p0a p0k p0n p0w) ++ (oX6 (p0a 5) p0_4a p0_4k p0_4w p0_4l)) s.heap := hP
  have hl := lv_entry ([.ref (p0a 0)]) (n := 6) (Nat.le_of_ble_eq_true rfl)
  rw [lg_entry_eq]
  generalize (lg_sl ([.ref (p0a 0)]) ++ List.replicate (6 - (lg_sl ([.ref (p0a 0)])).length) Slot.unset).toArray = ls at hl ⊢
  have hl : lv_has ls 6 [(0, .ref (p0a 0))] := hl
  obtain ⟨H, hHe⟩ : ∃ H, H = s.heap := ⟨_, rfl⟩
  obtain ⟨locs, hle⟩ : ∃ locs : List Loc, locs = [] := ⟨_, rfl⟩
  rw [← hHe] at hP
  have hS : va_S A s.heap H locs := by rw [hHe, hle]; exact hS
  show W p l e ({ frames := 4, cells := 0, slots := 0, locals := 96 } : Room) s m ([.ref (p0a 0)] : List Value).toArray below meth c s.heap [] 0 0 Q (F0 m 0 ls [])
  rw [← hle]
  refine wH9 hHe ?_
  unfold fX3_moveInText at hrun
  refine lv_aload_n hx hb dX3_moveInText_0 rfl (lv_at hl 0 rfl) ?_
  refine va_get (D := (dC, dI)) (ci := 10) (v := .int (p0w 0 9)) (C := RX3) (T := TX3) (N := 20) hx hb hts i_X3 hown hK hP 0 rfl rfl 9 (by decide) (hts _ qw882) (fun _ h9 => h9) rfl dX3_moveInText_1 ?_
  refine lv_iconst (v := 1) hx hb dX3_moveInText_4 (by decide) ?_
  refine lv_isub hx hb dX3_moveInText_5 ?_
  refine lv_istore_n (lv' := [(1, .int ((p0w 0 9) - 1)), (0, .ref (p0a 0))]) hx hb dX3_moveInText_6 rfl hl (by decide) rfl (fun ls hl => ?_)
  refine lv_aload_n hx hb dX3_moveInText_7 rfl (lv_at hl 1 rfl) ?_
  refine va_get (D := (dC, dI)) (ci := 10) (v := .ref (p0a 12)) (C := RX3) (T := TX3) (N := 20) hx hb hts i_X3 hown hK hP 0 rfl rfl 11 (by decide) (hts _ qw908) (fun _ h9 => h9) rfl dX3_moveInText_8 ?_
  refine lv_iload_n hx hb dX3_moveInText_11 rfl (lv_at hl 0 rfl) ?_
  obtain ⟨hq1, hrun⟩ := chk9 hrun
  refine va_iald hx hb hK hP 4 3 rfl rfl (ixb_in hq1) dX3_moveInText_12 ?_
  refine lv_istore_n (lv' := [(2, .int (p0w 12 (nn ((p0w 0 9) - 1)))), (1, .int ((p0w 0 9) - 1)), (0, .ref (p0a 0))]) hx hb dX3_moveInText_13 rfl hl (by decide) rfl (fun ls hl => ?_)
  refine lv_aload_n hx hb dX3_moveInText_14 rfl (lv_at hl 2 rfl) ?_
  refine va_get (D := (dC, dI)) (ci := 10) (v := .ref (p0a 12)) (C := RX3) (T := TX3) (N := 20) hx hb hts i_X3 hown hK hP 0 rfl rfl 11 (by decide) (hts _ qw908) (fun _ h9 => h9) rfl dX3_moveInText_15 ?_
  refine lv_iload_n hx hb dX3_moveInText_18 rfl (lv_at hl 1 rfl) ?_
  refine lv_iload_n hx hb dX3_moveInText_19 rfl (lv_at hl 0 rfl) ?_
  refine lv_iconst (v := 1) hx hb dX3_moveInText_20 (by decide) ?_
  refine lv_iadd hx hb dX3_moveInText_21 ?_
  obtain ⟨hq2, hrun⟩ := chk9 hrun
  refine va_iast hx hb hK hP hD hS 4 3 rfl rfl (ixb_in hq2) dX3_moveInText_22 (fun H locs hP hD hS => ?_)
  have hP : va_P (dC, dI) cls ((oX3 (p0a 0) p0a p0k p0n (upw p0w 12 (nn ((p0w 0 9) - 1)) ((p0w 12 (nn ((p0w 0 9) - 1))) + 1))) ++ (oX6 (p0a 5) p0_4a p0_4k p0_4w p0_4l)) H := hP
  have hD : va_D A ((oX3 (p0a 0) p0a p0k p0n (upw p0w 12 (nn ((p0w 0 9) - 1)) ((p0w 12 (nn ((p0w 0 9) - 1))) + 1))) ++ (oX6 (p0a 5) p0_4a p0_4k p0_4w p0_4l)) := hD
  obtain ⟨w3, ew3, hrun⟩ := let9 hrun
  rw [← ew3] at hP hD
  refine lv_aload_n hx hb dX3_moveInText_23 rfl (lv_at hl 2 rfl) ?_
  refine lv_aload_n hx hb dX3_moveInText_24 rfl (lv_at hl 2 rfl) ?_
  refine va_get (D := (dC, dI)) (ci := 10) (v := .ref (p0a 5)) (C := RX3) (T := TX3) (N := 20) hx hb hts i_X3 hown hK hP 0 rfl rfl 4 (by decide) (hts _ qw899) (fun _ h9 => h9) rfl dX3_moveInText_25 ?_
  refine va_get (D := (dC, dI)) (ci := 2) (v := .ref (p0_4a 11)) (C := RX6) (T := TX6) (N := 13) hx hb hts i_X6 hown hK hP 11 rfl rfl 10 (by decide) (hts _ qw930) (fun _ h9 => h9) rfl dX3_moveInText_28 ?_
  refine lv_iload_n hx hb dX3_moveInText_31 rfl (lv_at hl 0 rfl) ?_
  obtain ⟨hq4, hrun⟩ := chk9 hrun
  refine va_iald hx hb hK hP 20 18 rfl rfl (ixb_in hq4) dX3_moveInText_32 ?_
  obtain ⟨o_5, hc_5, hrun⟩ := bnd9 hrun
  have hPc := hP.sub (ws' := (oX3 (p0a 0) p0a p0k p0n w3)) [0, 1, 2, 3, 4, 5, 6, 7, 8, 9, 10] rfl
  have hDc := hD.sub (ws' := (oX3 (p0a 0) p0a p0k p0n w3)) [0, 1, 2, 3, 4, 5, 6, 7, 8, 9, 10] (by decide) rfl
  have hKc := hK.sub (tys' := (tX3 p0k)) [0, 1, 2, 3, 4, 5, 6, 7, 8, 9] rfl
  have hFc := va_free (wc := (oX3 (p0a 0) p0a p0k p0n w3)) hD hS hA [0, 1, 2, 3, 4, 5, 6, 7, 8, 9, 10] rfl
  refine va_calli (va_runV (As := [.int (p0_4w 11 (nn (p0w 12 (nn ((p0w 0 9) - 1)))))]) (rest := []) ⟨hx, hb, hml, hown, hts⟩ (kX3_tick l dC dI (p0a := (st0 (p0a 0) p0a)) (p0k := p0k) (p0n := p0n) (p0w := w3) (p1 := (p0_4w 11 (nn (p0w 12 (nn ((p0w 0 9) - 1)))))) (sz := _) (o := o_5) (hrun := hc_5)) (cwV 1 hts (gi_V qw915 qw916 qw917 qw888 (gi_z qw914)) rfl rfl rfl (by decide +kernel) ⟨Nat.le_of_ble_eq_true rfl, Nat.le_of_ble_eq_true rfl⟩) ⟨PRE.blind, va_recv hKc hPc (ci := 10) (q0 := 0) rfl rfl, PRE.of hE hS hFc hPc hKc hDc⟩ rfl rfl hl.1 rfl (lv_room (Nat.le_of_ble_eq_true rfl)) dX3_moveInText_33 ⟨(Nat.le_of_ble_eq_true rfl), (Nat.le_of_ble_eq_true rfl)⟩) hS (fun q _ h => hFc q h) hFc (fun r6 u t H locs ht hvm hw hB hz1 hk1 hS => ?_)
  obtain ⟨hP, hD, hK⟩ := JOIN (wr := (oX6 (p0a 5) p0_4a p0_4k p0_4w p0_4l)) hP hD hK [0, 1, 2, 3, 4, 5, 6, 7, 8, 9, 10] [11, 12, 13, 14, 15, 16, 17, 18, 19, 20, 21] [10, 11, 12, 13, 14, 15, 16, 17, 18, 19] rfl rfl (by decide) (by decide) rfl hk1 hFc ht hvm hB
  have hP : va_P (dC, dI) cls ((oX3 (p0a 0) p0a p0k p0n (o_5.2)) ++ (oX6 (p0a 5) p0_4a p0_4k p0_4w p0_4l)) H := hP.sub [11, 12, 13, 14, 15, 16, 17, 18, 19, 20, 21, 0, 1, 2, 3, 4, 5, 6, 7, 8, 9, 10] rfl
  have hD : va_D A ((oX3 (p0a 0) p0a p0k p0n (o_5.2)) ++ (oX6 (p0a 5) p0_4a p0_4k p0_4w p0_4l)) := hD.sub [11, 12, 13, 14, 15, 16, 17, 18, 19, 20, 21, 0, 1, 2, 3, 4, 5, 6, 7, 8, 9, 10] (by decide) rfl
  have hK : va_K (dC, dI) cls ((tX3 p0k) ++ (tX6 p0_4k)) s := hK.sub [10, 11, 12, 13, 14, 15, 16, 17, 18, 19, 0, 1, 2, 3, 4, 5, 6, 7, 8, 9] rfl
  obtain rfl : r6 = (o_5.1) := hw
  rcases br9 hrun with ⟨hc7, hrun⟩ | ⟨hc7, hrun⟩
  · refine lv_if_ne (tgt := 40) hx hb dX3_moveInText_36 (by decide) (fun c => absurd hc7 c) (fun _ => ?_)
    have ho9 : (o_5.2) = o := Option.some.inj hrun
    have hP9 : va_P (dC, dI) cls ((oX3 (p0a 0) p0a p0k p0n o) ++ (oX6 (p0a 5) p0_4a p0_4k p0_4w p0_4l)) H := by first | exact hP | (rw [← ho9]; exact hP)
    have hD9 : va_D A ((oX3 (p0a 0) p0a p0k p0n o) ++ (oX6 (p0a 5) p0_4a p0_4k p0_4w p0_4l)) := by first | exact hD | (rw [← ho9]; exact hD)
    subst hQ
    exact W.vret hx hb hr (fun t ht hW => ⟨⟨(), rfl, trivial, ⟨by rw [ht]; exact hP9, va_K.moved hW.alike hK, hD9⟩⟩, hS.F ht⟩) hS.2.2 dX3_moveInText_39
  · refine lv_if_ne (tgt := 40) hx hb dX3_moveInText_36 (by decide) (fun _ => ?_) (fun c => absurd c hc7)
    refine lv_aload_n hx hb dX3_moveInText_40 rfl (lv_at hl 2 rfl) ?_
    refine va_get (D := (dC, dI)) (ci := 10) (v := .ref (p0a 5)) (C := RX3) (T := TX3) (N := 20) hx hb hts i_X3 hown hK hP 0 rfl rfl 4 (by decide) (hts _ qw899) (fun _ h9 => h9) rfl dX3_moveInText_41 ?_
    refine va_get (D := (dC, dI)) (ci := 2) (v := .ref (p0_4a 9)) (C := RX6) (T := TX6) (N := 13) hx hb hts i_X6 hown hK hP 11 rfl rfl 8 (by decide) (hts _ qw931) (fun _ h9 => h9) rfl dX3_moveInText_44 ?_
    refine lv_iload_n hx hb dX3_moveInText_47 rfl (lv_at hl 0 rfl) ?_
    obtain ⟨hq8, hrun⟩ := chk9 hrun
    refine va_iald hx hb hK hP 18 16 rfl rfl (ixb_in hq8) dX3_moveInText_48 ?_
    refine lv_istore_n (lv' := [(3, .int (p0_4w 9 (nn (p0w 12 (nn ((p0w 0 9) - 1)))))), (2, .int (p0w 12 (nn ((p0w 0 9) - 1)))), (1, .int ((p0w 0 9) - 1)), (0, .ref (p0a 0))]) hx hb dX3_moveInText_49 rfl hl (by decide) rfl (fun ls hl => ?_)
    refine lv_iload_n hx hb dX3_moveInText_50 rfl (lv_at hl 0 rfl) ?_
    obtain ⟨o_9, hc_9, hrun⟩ := bnd9 hrun
    have hPc := hP.sub (ws' := ([] : va_W)) [] rfl
    have hDc := hD.sub (ws' := ([] : va_W)) [] (by decide) rfl
    have hKc := hK.sub (tys' := ([] : List (ClassId × FieldType))) [] rfl
    have hFc := va_free (wc := ([] : va_W)) hD hS hA [] rfl
    refine va_calli (va_runSN (As := [.int (p0_4w 9 (nn (p0w 12 (nn ((p0w 0 9) - 1)))))]) (rest := []) ⟨hx, hb, hml, hown, hts⟩ (kX11_isOperator l dC dI (p0 := (p0_4w 9 (nn (p0w 12 (nn ((p0w 0 9) - 1)))))) (sz := _) (o := o_9) (hrun := hc_9)) ⟨(va_cnB 1 hts (gi_z qw348) rfl rfl rfl (hE.nw (List.mem_append_right _ (tbl_9 (i := 206) rfl)) rfl) (hts _ qw129) (by decide +kernel) ⟨Nat.le_of_ble_eq_true rfl, Nat.le_of_ble_eq_true rfl⟩), (hts _ qw350), trivial⟩ ⟨PRE.blind, PRE.of hE hS hFc hPc hKc hDc⟩ rfl rfl hl.1 rfl (lv_room (Nat.le_of_ble_eq_true rfl)) dX3_moveInText_51 ⟨(Nat.le_of_ble_eq_true rfl), (Nat.le_of_ble_eq_true rfl)⟩) hS (fun q _ h => hFc q h) hFc (fun r10 u t H locs ht hvm hw hB hz1 hk1 hS => ?_)
    obtain ⟨hP, hD, hK⟩ := JOIN (wr := ((oX3 (p0a 0) p0a p0k p0n (o_5.2)) ++ (oX6 (p0a 5) p0_4a p0_4k p0_4w p0_4l))) hP hD hK [] [0, 1, 2, 3, 4, 5, 6, 7, 8, 9, 10, 11, 12, 13, 14, 15, 16, 17, 18, 19, 20, 21] [0, 1, 2, 3, 4, 5, 6, 7, 8, 9, 10, 11, 12, 13, 14, 15, 16, 17, 18, 19] rfl rfl (by decide) (by decide) rfl hk1 hFc ht hvm hB
    have hP : va_P (dC, dI) cls ((oX3 (p0a 0) p0a p0k p0n (o_5.2)) ++ (oX6 (p0a 5) p0_4a p0_4k p0_4w p0_4l)) H := hP.sub [0, 1, 2, 3, 4, 5, 6, 7, 8, 9, 10, 11, 12, 13, 14, 15, 16, 17, 18, 19, 20, 21] rfl
    have hD : va_D A ((oX3 (p0a 0) p0a p0k p0n (o_5.2)) ++ (oX6 (p0a 5) p0_4a p0_4k p0_4w p0_4l)) := hD.sub [0, 1, 2, 3, 4, 5, 6, 7, 8, 9, 10, 11, 12, 13, 14, 15, 16, 17, 18, 19, 20, 21] (by decide) rfl
    have hK : va_K (dC, dI) cls ((tX3 p0k) ++ (tX6 p0_4k)) s := hK.sub [0, 1, 2, 3, 4, 5, 6, 7, 8, 9, 10, 11, 12, 13, 14, 15, 16, 17, 18, 19] rfl
    obtain rfl : o_9 = r10 := hw.symm
    have J130 : ∀ (p0w_130 : ST) (H : Heap) (locs : List Loc) (ls : Array Slot), (fX3_moveInText_J130 p0w_130) = some o → va_P (dC, dI) cls ((oX3 (p0a 0) p0a p0k p0n p0w_130) ++ (oX6 (p0a 5) p0_4a p0_4k p0_4w p0_4l)) H → va_D A ((oX3 (p0a 0) p0a p0k p0n p0w_130) ++ (oX6 (p0a 5) p0_4a p0_4k p0_4w p0_4l)) → va_K (dC, dI) cls ((tX3 p0k) ++ (tX6 p0_4k)) s → va_S A s.heap H locs → lv_has ls 6 [] → W p l e ({ frames := 4, cells := 0, slots := 0, locals := 96 } : Room) s m ([.ref (p0a 0)] : List Value).toArray below meth c H locs 0 0 Q (F0 m 130 ls []) := by
      intro p0w_130 H locs ls hrun hP hD hK hS hl 
      unfold fX3_moveInText_J130 at hrun
      have ho9 : p0w_130 = o := Option.some.inj hrun
      have hP9 : va_P (dC, dI) cls ((oX3 (p0a 0) p0a p0k p0n o) ++ (oX6 (p0a 5) p0_4a p0_4k p0_4w p0_4l)) H := by first | exact hP | (rw [← ho9]; exact hP)
      have hD9 : va_D A ((oX3 (p0a 0) p0a p0k p0n o) ++ (oX6 (p0a 5) p0_4a p0_4k p0_4w p0_4l)) := by first | exact hD | (rw [← ho9]; exact hD)
      subst hQ
      exact W.vret hx hb hr (fun t ht hW => ⟨⟨(), rfl, trivial, ⟨by rw [ht]; exact hP9, va_K.moved hW.alike hK, hD9⟩⟩, hS.F ht⟩) hS.2.2 dX3_moveInText_130
    rcases br9 hrun with ⟨hc11, hrun⟩ | ⟨hc11, hrun⟩
    · refine lv_if_eq (tgt := 85) hx hb dX3_moveInText_54 (by decide) (fun _ => ?_) (fun c => absurd hc11 c)
      refine lv_iload_n hx hb dX3_moveInText_85 rfl (lv_at hl 0 rfl) ?_
      refine lv_bipush (v := 30) hx hb dX3_moveInText_86 (by decide) ?_
      have J97 : ∀ (H : Heap) (locs : List Loc) (ls : Array Slot), (fX3_moveInText_J97 p0w p0_4w o_5) = some o → va_P (dC, dI) cls ((oX3 (p0a 0) p0a p0k p0n (o_5.2)) ++ (oX6 (p0a 5) p0_4a p0_4k p0_4w p0_4l)) H → va_D A ((oX3 (p0a 0) p0a p0k p0n (o_5.2)) ++ (oX6 (p0a 5) p0_4a p0_4k p0_4w p0_4l)) → va_K (dC, dI) cls ((tX3 p0k) ++ (tX6 p0_4k)) s → va_S A s.heap H locs → lv_has ls 6 [(0, .ref (p0a 0)), (1, .int ((p0w 0 9) - 1)), (2, .int (p0w 12 (nn ((p0w 0 9) - 1)))), (3, .int (p0_4w 9 (nn (p0w 12 (nn ((p0w 0 9) - 1))))))] → W p l e ({ frames := 4, cells := 0, slots := 0, locals := 96 } : Room) s m ([.ref (p0a 0)] : List Value).toArray below meth c H locs 0 0 Q (F0 m 97 ls []) := by
        intro  H locs ls hrun hP hD hK hS hl 
        unfold fX3_moveInText_J97 at hrun
        refine lv_aload_n hx hb dX3_moveInText_97 rfl (lv_at hl 0 rfl) ?_
        refine lv_iload_n hx hb dX3_moveInText_98 rfl (lv_at hl 1 rfl) ?_
        refine lv_iload_n hx hb dX3_moveInText_99 rfl (lv_at hl 3 rfl) ?_
        refine lv_aload_n hx hb dX3_moveInText_100 rfl (lv_at hl 0 rfl) ?_
        refine va_get (D := (dC, dI)) (ci := 10) (v := .ref (p0a 5)) (C := RX3) (T := TX3) (N := 20) hx hb hts i_X3 hown hK hP 0 rfl rfl 4 (by decide) (hts _ qw899) (fun _ h9 => h9) rfl dX3_moveInText_101 ?_
        refine va_get (D := (dC, dI)) (ci := 2) (v := .ref (p0_4a 10)) (C := RX6) (T := TX6) (N := 13) hx hb hts i_X6 hown hK hP 11 rfl rfl 9 (by decide) (hts _ qw932) (fun _ h9 => h9) rfl dX3_moveInText_104 ?_
        refine lv_iload_n hx hb dX3_moveInText_107 rfl (lv_at hl 2 rfl) ?_
        obtain ⟨hq12, hrun⟩ := chk9 hrun
        refine va_iald hx hb hK hP 19 17 rfl rfl (ixb_in hq12) dX3_moveInText_108 ?_
        obtain ⟨o_13, hc_13, hrun⟩ := bnd9 hrun
        have hPc := hP.sub (ws' := ((oX3 (p0a 0) p0a p0k p0n (o_5.2)) ++ (oX6 (p0a 5) p0_4a p0_4k p0_4w p0_4l))) [0, 1, 2, 3, 4, 5, 6, 7, 8, 9, 10, 11, 12, 13, 14, 15, 16, 17, 18, 19, 20, 21] rfl
        have hDc := hD.sub (ws' := ((oX3 (p0a 0) p0a p0k p0n (o_5.2)) ++ (oX6 (p0a 5) p0_4a p0_4k p0_4w p0_4l))) [0, 1, 2, 3, 4, 5, 6, 7, 8, 9, 10, 11, 12, 13, 14, 15, 16, 17, 18, 19, 20, 21] (by decide) rfl
        have hKc := hK.sub (tys' := ((tX3 p0k) ++ (tX6 p0_4k))) [0, 1, 2, 3, 4, 5, 6, 7, 8, 9, 10, 11, 12, 13, 14, 15, 16, 17, 18, 19] rfl
        have hFc := va_free (wc := ((oX3 (p0a 0) p0a p0k p0n (o_5.2)) ++ (oX6 (p0a 5) p0_4a p0_4k p0_4w p0_4l))) hD hS hA [0, 1, 2, 3, 4, 5, 6, 7, 8, 9, 10, 11, 12, 13, 14, 15, 16, 17, 18, 19, 20, 21] rfl
        refine va_callv (va_runV (As := [.int ((p0w 0 9) - 1), .int (p0_4w 9 (nn (p0w 12 (nn ((p0w 0 9) - 1))))), .int (p0_4w 10 (nn (p0w 12 (nn ((p0w 0 9) - 1)))))]) (rest := []) ⟨hx, hb, hml, hown, hts⟩ (kX3_moveVariable l dC dI (p0a := (st0 (p0a 0) p0a)) (p0k := p0k) (p0n := p0n) (p0w := (o_5.2)) (p1 := ((p0w 0 9) - 1)) (p2 := (p0_4w 9 (nn (p0w 12 (nn ((p0w 0 9) - 1)))))) (p3 := (p0_4w 10 (nn (p0w 12 (nn ((p0w 0 9) - 1)))))) (p0_4a := p0_4a) (p0_4k := p0_4k) (p0_4w := p0_4w) (p0_4l := p0_4l) (sz := _) (o := o_13) (hrun := hc_13)) (cwV 3 hts (gi_V qw939 qw940 qw941 qw888 (gi_z qw938)) rfl rfl rfl (by decide +kernel) ⟨Nat.le_of_ble_eq_true rfl, Nat.le_of_ble_eq_true rfl⟩) ⟨PRE.blind, va_recv hKc hPc (ci := 10) (q0 := 0) rfl rfl, PRE.of hE hS hFc hPc hKc hDc⟩ rfl rfl hl.1 rfl (lv_room (Nat.le_of_ble_eq_true rfl)) dX3_moveInText_109 ⟨(Nat.le_of_ble_eq_true rfl), (Nat.le_of_ble_eq_true rfl)⟩) hS (fun q _ h => hFc q h) hFc (fun u t H locs ht hvm hw hB hz1 hk1 hS => ?_)
        obtain ⟨hP, hD, hK⟩ := JOIN (wr := ([] : va_W)) hP hD hK [0, 1, 2, 3, 4, 5, 6, 7, 8, 9, 10, 11, 12, 13, 14, 15, 16, 17, 18, 19, 20, 21] [] [] rfl rfl (by decide) (by decide) rfl hk1 hFc ht hvm hB
        have hP : va_P (dC, dI) cls ((oX3 (p0a 0) p0a p0k p0n o_13) ++ (oX6 (p0a 5) p0_4a p0_4k p0_4w p0_4l)) H := hP.sub [0, 1, 2, 3, 4, 5, 6, 7, 8, 9, 10, 11, 12, 13, 14, 15, 16, 17, 18, 19, 20, 21] rfl
        have hD : va_D A ((oX3 (p0a 0) p0a p0k p0n o_13) ++ (oX6 (p0a 5) p0_4a p0_4k p0_4w p0_4l)) := hD.sub [0, 1, 2, 3, 4, 5, 6, 7, 8, 9, 10, 11, 12, 13, 14, 15, 16, 17, 18, 19, 20, 21] (by decide) rfl
        have hK : va_K (dC, dI) cls ((tX3 p0k) ++ (tX6 p0_4k)) s := hK.sub [0, 1, 2, 3, 4, 5, 6, 7, 8, 9, 10, 11, 12, 13, 14, 15, 16, 17, 18, 19] rfl
        refine lv_goto (tgt := 130) hx hb dX3_moveInText_112 (by decide) ?_
        exact J130 o_13 _ _ _ hrun hP hD hK hS (lv_sub hl [] rfl)
      rcases br9 hrun with ⟨hc14, hrun⟩ | ⟨hc14, hrun⟩
      · refine lv_icmp_ge (tgt := 97) hx hb dX3_moveInText_88 (by decide) (fun _ => ?_) (fun c => absurd hc14 c)
        exact J97 _ _ _ hrun hP hD hK hS (lv_sub hl [3, 2, 1, 0] rfl)
      · refine lv_icmp_ge (tgt := 97) hx hb dX3_moveInText_88 (by decide) (fun c => absurd c hc14) (fun _ => ?_)
        refine lv_iload_n hx hb dX3_moveInText_91 rfl (lv_at hl 0 rfl) ?_
        refine lv_bipush (v := 22) hx hb dX3_moveInText_92 (by decide) ?_
        rcases br9 hrun with ⟨hc15, hrun⟩ | ⟨hc15, hrun⟩
        · refine lv_icmp_ne (tgt := 115) hx hb dX3_moveInText_94 (by decide) (fun c => absurd hc15 c) (fun _ => ?_)
          exact J97 _ _ _ hrun hP hD hK hS (lv_sub hl [3, 2, 1, 0] rfl)
        · refine lv_icmp_ne (tgt := 115) hx hb dX3_moveInText_94 (by decide) (fun _ => ?_) (fun c => absurd c hc15)
          refine lv_aload_n hx hb dX3_moveInText_115 rfl (lv_at hl 3 rfl) ?_
          refine lv_iload_n hx hb dX3_moveInText_116 rfl (lv_at hl 2 rfl) ?_
          refine lv_iload_n hx hb dX3_moveInText_117 rfl (lv_at hl 0 rfl) ?_
          refine lv_aload_n hx hb dX3_moveInText_118 rfl (lv_at hl 3 rfl) ?_
          refine va_get (D := (dC, dI)) (ci := 10) (v := .ref (p0a 5)) (C := RX3) (T := TX3) (N := 20) hx hb hts i_X3 hown hK hP 0 rfl rfl 4 (by decide) (hts _ qw899) (fun _ h9 => h9) rfl dX3_moveInText_119 ?_
          refine va_get (D := (dC, dI)) (ci := 2) (v := .ref (p0_4a 10)) (C := RX6) (T := TX6) (N := 13) hx hb hts i_X6 hown hK hP 11 rfl rfl 9 (by decide) (hts _ qw932) (fun _ h9 => h9) rfl dX3_moveInText_122 ?_
          refine lv_iload_n hx hb dX3_moveInText_125 rfl (lv_at hl 1 rfl) ?_
          obtain ⟨hq16, hrun⟩ := chk9 hrun
          refine va_iald hx hb hK hP 19 17 rfl rfl (ixb_in hq16) dX3_moveInText_126 ?_
          obtain ⟨o_17, hc_17, hrun⟩ := bnd9 hrun
          have hPc := hP.sub (ws' := ((oX3 (p0a 0) p0a p0k p0n (o_5.2)) ++ (oX6 (p0a 5) p0_4a p0_4k p0_4w p0_4l))) [0, 1, 2, 3, 4, 5, 6, 7, 8, 9, 10, 11, 12, 13, 14, 15, 16, 17, 18, 19, 20, 21] rfl
          have hDc := hD.sub (ws' := ((oX3 (p0a 0) p0a p0k p0n (o_5.2)) ++ (oX6 (p0a 5) p0_4a p0_4k p0_4w p0_4l))) [0, 1, 2, 3, 4, 5, 6, 7, 8, 9, 10, 11, 12, 13, 14, 15, 16, 17, 18, 19, 20, 21] (by decide) rfl
          have hKc := hK.sub (tys' := ((tX3 p0k) ++ (tX6 p0_4k))) [0, 1, 2, 3, 4, 5, 6, 7, 8, 9, 10, 11, 12, 13, 14, 15, 16, 17, 18, 19] rfl
          have hFc := va_free (wc := ((oX3 (p0a 0) p0a p0k p0n (o_5.2)) ++ (oX6 (p0a 5) p0_4a p0_4k p0_4w p0_4l))) hD hS hA [0, 1, 2, 3, 4, 5, 6, 7, 8, 9, 10, 11, 12, 13, 14, 15, 16, 17, 18, 19, 20, 21] rfl
          refine va_callv (va_runV (As := [.int ((p0w 0 9) - 1), .int (p0_4w 9 (nn (p0w 12 (nn ((p0w 0 9) - 1))))), .int (p0_4w 10 (nn (p0w 12 (nn ((p0w 0 9) - 1)))))]) (rest := []) ⟨hx, hb, hml, hown, hts⟩ (kX3_moveWord l dC dI (p0a := (st0 (p0a 0) p0a)) (p0k := p0k) (p0n := p0n) (p0w := (o_5.2)) (p1 := ((p0w 0 9) - 1)) (p2 := (p0_4w 9 (nn (p0w 12 (nn ((p0w 0 9) - 1)))))) (p3 := (p0_4w 10 (nn (p0w 12 (nn ((p0w 0 9) - 1)))))) (p0_4a := p0_4a) (p0_4k := p0_4k) (p0_4w := p0_4w) (p0_4l := p0_4l) (sz := _) (o := o_17) (hrun := hc_17)) (cwV 3 hts (gi_V qw959 qw960 qw961 qw888 (gi_z qw958)) rfl rfl rfl (by decide +kernel) ⟨Nat.le_of_ble_eq_true rfl, Nat.le_of_ble_eq_true rfl⟩) ⟨PRE.blind, va_recv hKc hPc (ci := 10) (q0 := 0) rfl rfl, PRE.of hE hS hFc hPc hKc hDc⟩ rfl rfl hl.1 rfl (lv_room (Nat.le_of_ble_eq_true rfl)) dX3_moveInText_127 ⟨(Nat.le_of_ble_eq_true rfl), (Nat.le_of_ble_eq_true rfl)⟩) hS (fun q _ h => hFc q h) hFc (fun u t H locs ht hvm hw hB hz1 hk1 hS => ?_)
          obtain ⟨hP, hD, hK⟩ := JOIN (wr := ([] : va_W)) hP hD hK [0, 1, 2, 3, 4, 5, 6, 7, 8, 9, 10, 11, 12, 13, 14, 15, 16, 17, 18, 19, 20, 21] [] [] rfl rfl (by decide) (by decide) rfl hk1 hFc ht hvm hB
          have hP : va_P (dC, dI) cls ((oX3 (p0a 0) p0a p0k p0n o_17) ++ (oX6 (p0a 5) p0_4a p0_4k p0_4w p0_4l)) H := hP.sub [0, 1, 2, 3, 4, 5, 6, 7, 8, 9, 10, 11, 12, 13, 14, 15, 16, 17, 18, 19, 20, 21] rfl
          have hD : va_D A ((oX3 (p0a 0) p0a p0k p0n o_17) ++ (oX6 (p0a 5) p0_4a p0_4k p0_4w p0_4l)) := hD.sub [0, 1, 2, 3, 4, 5, 6, 7, 8, 9, 10, 11, 12, 13, 14, 15, 16, 17, 18, 19, 20, 21] (by decide) rfl
          have hK : va_K (dC, dI) cls ((tX3 p0k) ++ (tX6 p0_4k)) s := hK.sub [0, 1, 2, 3, 4, 5, 6, 7, 8, 9, 10, 11, 12, 13, 14, 15, 16, 17, 18, 19] rfl
          exact J130 o_17 _ _ _ hrun hP hD hK hS (lv_sub hl [] rfl)
    · refine lv_if_eq (tgt := 85) hx hb dX3_moveInText_54 (by decide) (fun c => absurd c hc11) (fun _ => ?_)
      refine lv_aload_n hx hb dX3_moveInText_57 rfl (lv_at hl 3 rfl) ?_
      obtain ⟨o_18, hc_18, hrun⟩ := bnd9 hrun
      have hPc := hP.sub (ws' := (oX3 (p0a 0) p0a p0k p0n (o_5.2))) [0, 1, 2, 3, 4, 5, 6, 7, 8, 9, 10] rfl
      have hDc := hD.sub (ws' := (oX3 (p0a 0) p0a p0k p0n (o_5.2))) [0, 1, 2, 3, 4, 5, 6, 7, 8, 9, 10] (by decide) rfl
      have hKc := hK.sub (tys' := (tX3 p0k)) [0, 1, 2, 3, 4, 5, 6, 7, 8, 9] rfl
      have hFc := va_free (wc := (oX3 (p0a 0) p0a p0k p0n (o_5.2))) hD hS hA [0, 1, 2, 3, 4, 5, 6, 7, 8, 9, 10] rfl
      refine va_calli (va_runV (As := []) (rest := []) ⟨hx, hb, hml, hown, hts⟩ (kX3_pop l dC dI (p0a := (st0 (p0a 0) p0a)) (p0k := p0k) (p0n := p0n) (p0w := (o_5.2)) (sz := _) (o := o_18) (hrun := hc_18)) (cwV 0 hts (gi_V qw904 qw905 qw906 qw888 (gi_z qw903)) rfl rfl rfl (by decide +kernel) ⟨Nat.le_of_ble_eq_true rfl, Nat.le_of_ble_eq_true rfl⟩) ⟨PRE.blind, va_recv hKc hPc (ci := 10) (q0 := 0) rfl rfl, PRE.of hE hS hFc hPc hKc hDc⟩ rfl rfl hl.1 rfl (lv_room (Nat.le_of_ble_eq_true rfl)) dX3_moveInText_58 ⟨(Nat.le_of_ble_eq_true rfl), (Nat.le_of_ble_eq_true rfl)⟩) hS (fun q _ h => hFc q h) hFc (fun r19 u t H locs ht hvm hw hB hz1 hk1 hS => ?_)
      obtain ⟨hP, hD, hK⟩ := JOIN (wr := (oX6 (p0a 5) p0_4a p0_4k p0_4w p0_4l)) hP hD hK [0, 1, 2, 3, 4, 5, 6, 7, 8, 9, 10] [11, 12, 13, 14, 15, 16, 17, 18, 19, 20, 21] [10, 11, 12, 13, 14, 15, 16, 17, 18, 19] rfl rfl (by decide) (by decide) rfl hk1 hFc ht hvm hB
      have hP : va_P (dC, dI) cls ((oX3 (p0a 0) p0a p0k p0n (o_18.2)) ++ (oX6 (p0a 5) p0_4a p0_4k p0_4w p0_4l)) H := hP.sub [11, 12, 13, 14, 15, 16, 17, 18, 19, 20, 21, 0, 1, 2, 3, 4, 5, 6, 7, 8, 9, 10] rfl
      have hD : va_D A ((oX3 (p0a 0) p0a p0k p0n (o_18.2)) ++ (oX6 (p0a 5) p0_4a p0_4k p0_4w p0_4l)) := hD.sub [11, 12, 13, 14, 15, 16, 17, 18, 19, 20, 21, 0, 1, 2, 3, 4, 5, 6, 7, 8, 9, 10] (by decide) rfl
      have hK : va_K (dC, dI) cls ((tX3 p0k) ++ (tX6 p0_4k)) s := hK.sub [10, 11, 12, 13, 14, 15, 16, 17, 18, 19, 0, 1, 2, 3, 4, 5, 6, 7, 8, 9] rfl
      obtain rfl : r19 = (o_18.1) := hw
      refine lv_istore (lv' := [(4, .int (o_18.1)), (3, .int (p0_4w 9 (nn (p0w 12 (nn ((p0w 0 9) - 1)))))), (2, .int (p0w 12 (nn ((p0w 0 9) - 1)))), (1, .int ((p0w 0 9) - 1)), (0, .ref (p0a 0))]) hx hb dX3_moveInText_61 hl (by decide) rfl (fun ls hl => ?_)
      refine lv_aload_n hx hb dX3_moveInText_63 rfl (lv_at hl 4 rfl) ?_
      obtain ⟨o_20, hc_20, hrun⟩ := bnd9 hrun
      have hPc := hP.sub (ws' := (oX3 (p0a 0) p0a p0k p0n (o_18.2))) [0, 1, 2, 3, 4, 5, 6, 7, 8, 9, 10] rfl
      have hDc := hD.sub (ws' := (oX3 (p0a 0) p0a p0k p0n (o_18.2))) [0, 1, 2, 3, 4, 5, 6, 7, 8, 9, 10] (by decide) rfl
      have hKc := hK.sub (tys' := (tX3 p0k)) [0, 1, 2, 3, 4, 5, 6, 7, 8, 9] rfl
      have hFc := va_free (wc := (oX3 (p0a 0) p0a p0k p0n (o_18.2))) hD hS hA [0, 1, 2, 3, 4, 5, 6, 7, 8, 9, 10] rfl
      refine va_calli (va_runV (As := []) (rest := []) ⟨hx, hb, hml, hown, hts⟩ (kX3_pop l dC dI (p0a := (st0 (p0a 0) p0a)) (p0k := p0k) (p0n := p0n) (p0w := (o_18.2)) (sz := _) (o := o_20) (hrun := hc_20)) (cwV 0 hts (gi_V qw904 qw905 qw906 qw888 (gi_z qw903)) rfl rfl rfl (by decide +kernel) ⟨Nat.le_of_ble_eq_true rfl, Nat.le_of_ble_eq_true rfl⟩) ⟨PRE.blind, va_recv hKc hPc (ci := 10) (q0 := 0) rfl rfl, PRE.of hE hS hFc hPc hKc hDc⟩ rfl rfl hl.1 rfl (lv_room (Nat.le_of_ble_eq_true rfl)) dX3_moveInText_64 ⟨(Nat.le_of_ble_eq_true rfl), (Nat.le_of_ble_eq_true rfl)⟩) hS (fun q _ h => hFc q h) hFc (fun r21 u t H locs ht hvm hw hB hz1 hk1 hS => ?_)
      obtain ⟨hP, hD, hK⟩ := JOIN (wr := (oX6 (p0a 5) p0_4a p0_4k p0_4w p0_4l)) hP hD hK [0, 1, 2, 3, 4, 5, 6, 7, 8, 9, 10] [11, 12, 13, 14, 15, 16, 17, 18, 19, 20, 21] [10, 11, 12, 13, 14, 15, 16, 17, 18, 19] rfl rfl (by decide) (by decide) rfl hk1 hFc ht hvm hB
      have hP : va_P (dC, dI) cls ((oX3 (p0a 0) p0a p0k p0n (o_20.2)) ++ (oX6 (p0a 5) p0_4a p0_4k p0_4w p0_4l)) H := hP.sub [11, 12, 13, 14, 15, 16, 17, 18, 19, 20, 21, 0, 1, 2, 3, 4, 5, 6, 7, 8, 9, 10] rfl
      have hD : va_D A ((oX3 (p0a 0) p0a p0k p0n (o_20.2)) ++ (oX6 (p0a 5) p0_4a p0_4k p0_4w p0_4l)) := hD.sub [11, 12, 13, 14, 15, 16, 17, 18, 19, 20, 21, 0, 1, 2, 3, 4, 5, 6, 7, 8, 9, 10] (by decide) rfl
      have hK : va_K (dC, dI) cls ((tX3 p0k) ++ (tX6 p0_4k)) s := hK.sub [10, 11, 12, 13, 14, 15, 16, 17, 18, 19, 0, 1, 2, 3, 4, 5, 6, 7, 8, 9] rfl
      obtain rfl : r21 = (o_20.1) := hw
      refine lv_istore (lv' := [(5, .int (o_20.1)), (4, .int (o_18.1)), (3, .int (p0_4w 9 (nn (p0w 12 (nn ((p0w 0 9) - 1)))))), (2, .int (p0w 12 (nn ((p0w 0 9) - 1)))), (1, .int ((p0w 0 9) - 1)), (0, .ref (p0a 0))]) hx hb dX3_moveInText_67 hl (by decide) rfl (fun ls hl => ?_)
      refine lv_aload_n hx hb dX3_moveInText_69 rfl (lv_at hl 5 rfl) ?_
      refine lv_aload_n hx hb dX3_moveInText_70 rfl (lv_at hl 5 rfl) ?_
      refine lv_iload_n hx hb dX3_moveInText_71 rfl (lv_at hl 2 rfl) ?_
      refine lv_iload hx hb dX3_moveInText_72 (lv_at hl 0 rfl) ?_
      refine lv_iload hx hb dX3_moveInText_74 (lv_at hl 1 rfl) ?_
      obtain ⟨o_22, hc_22, hrun⟩ := bnd9 hrun
      have hPc := hP.sub (ws' := (oX3 (p0a 0) p0a p0k p0n (o_20.2))) [0, 1, 2, 3, 4, 5, 6, 7, 8, 9, 10] rfl
      have hDc := hD.sub (ws' := (oX3 (p0a 0) p0a p0k p0n (o_20.2))) [0, 1, 2, 3, 4, 5, 6, 7, 8, 9, 10] (by decide) rfl
      have hKc := hK.sub (tys' := (tX3 p0k)) [0, 1, 2, 3, 4, 5, 6, 7, 8, 9] rfl
      have hFc := va_free (wc := (oX3 (p0a 0) p0a p0k p0n (o_20.2))) hD hS hA [0, 1, 2, 3, 4, 5, 6, 7, 8, 9, 10] rfl
      refine va_calli (va_runV (As := [.int (p0_4w 9 (nn (p0w 12 (nn ((p0w 0 9) - 1))))), .int (o_20.1), .int (o_18.1)]) (rest := [.ref (p0a 0)]) ⟨hx, hb, hml, hown, hts⟩ (kX3_operate l dC dI (p0a := (st0 (p0a 0) p0a)) (p0k := p0k) (p0n := p0n) (p0w := (o_20.2)) (p1 := (p0_4w 9 (nn (p0w 12 (nn ((p0w 0 9) - 1)))))) (p2 := (o_20.1)) (p3 := (o_18.1)) (sz := _) (o := o_22) (hrun := hc_22)) (cwV 3 hts (gi_V qw963 qw964 qw965 qw888 (gi_z qw962)) rfl rfl rfl (by decide +kernel) ⟨Nat.le_of_ble_eq_true rfl, Nat.le_of_ble_eq_true rfl⟩) ⟨PRE.blind, va_recv hKc hPc (ci := 10) (q0 := 0) rfl rfl, PRE.of hE hS hFc hPc hKc hDc⟩ rfl rfl hl.1 rfl (lv_room (Nat.le_of_ble_eq_true rfl)) dX3_moveInText_76 ⟨(Nat.le_of_ble_eq_true rfl), (Nat.le_of_ble_eq_true rfl)⟩) hS (fun q _ h => hFc q h) hFc (fun r23 u t H locs ht hvm hw hB hz1 hk1 hS => ?_)
      obtain ⟨hP, hD, hK⟩ := JOIN (wr := (oX6 (p0a 5) p0_4a p0_4k p0_4w p0_4l)) hP hD hK [0, 1, 2, 3, 4, 5, 6, 7, 8, 9, 10] [11, 12, 13, 14, 15, 16, 17, 18, 19, 20, 21] [10, 11, 12, 13, 14, 15, 16, 17, 18, 19] rfl rfl (by decide) (by decide) rfl hk1 hFc ht hvm hB
      have hP : va_P (dC, dI) cls ((oX3 (p0a 0) p0a p0k p0n (o_22.2)) ++ (oX6 (p0a 5) p0_4a p0_4k p0_4w p0_4l)) H := hP.sub [11, 12, 13, 14, 15, 16, 17, 18, 19, 20, 21, 0, 1, 2, 3, 4, 5, 6, 7, 8, 9, 10] rfl
      have hD : va_D A ((oX3 (p0a 0) p0a p0k p0n (o_22.2)) ++ (oX6 (p0a 5) p0_4a p0_4k p0_4w p0_4l)) := hD.sub [11, 12, 13, 14, 15, 16, 17, 18, 19, 20, 21, 0, 1, 2, 3, 4, 5, 6, 7, 8, 9, 10] (by decide) rfl
      have hK : va_K (dC, dI) cls ((tX3 p0k) ++ (tX6 p0_4k)) s := hK.sub [10, 11, 12, 13, 14, 15, 16, 17, 18, 19, 0, 1, 2, 3, 4, 5, 6, 7, 8, 9] rfl
      obtain rfl : r23 = (o_22.1) := hw
      obtain ⟨o_24, hc_24, hrun⟩ := bnd9 hrun
      have hPc := hP.sub (ws' := (oX3 (p0a 0) p0a p0k p0n (o_22.2))) [0, 1, 2, 3, 4, 5, 6, 7, 8, 9, 10] rfl
      have hDc := hD.sub (ws' := (oX3 (p0a 0) p0a p0k p0n (o_22.2))) [0, 1, 2, 3, 4, 5, 6, 7, 8, 9, 10] (by decide) rfl
      have hKc := hK.sub (tys' := (tX3 p0k)) [0, 1, 2, 3, 4, 5, 6, 7, 8, 9] rfl
      have hFc := va_free (wc := (oX3 (p0a 0) p0a p0k p0n (o_22.2))) hD hS hA [0, 1, 2, 3, 4, 5, 6, 7, 8, 9, 10] rfl
      refine va_callv (va_runV (As := [.int (o_22.1)]) (rest := []) ⟨hx, hb, hml, hown, hts⟩ (kX3_push l dC dI (p0a := (st0 (p0a 0) p0a)) (p0k := p0k) (p0n := p0n) (p0w := (o_22.2)) (p1 := (o_22.1)) (sz := _) (o := o_24) (hrun := hc_24)) (cwV 1 hts (gi_V qw935 qw936 qw937 qw888 (gi_z qw934)) rfl rfl rfl (by decide +kernel) ⟨Nat.le_of_ble_eq_true rfl, Nat.le_of_ble_eq_true rfl⟩) ⟨PRE.blind, va_recv hKc hPc (ci := 10) (q0 := 0) rfl rfl, PRE.of hE hS hFc hPc hKc hDc⟩ rfl rfl hl.1 rfl (lv_room (Nat.le_of_ble_eq_true rfl)) dX3_moveInText_79 ⟨(Nat.le_of_ble_eq_true rfl), (Nat.le_of_ble_eq_true rfl)⟩) hS (fun q _ h => hFc q h) hFc (fun u t H locs ht hvm hw hB hz1 hk1 hS => ?_)
      obtain ⟨hP, hD, hK⟩ := JOIN (wr := (oX6 (p0a 5) p0_4a p0_4k p0_4w p0_4l)) hP hD hK [0, 1, 2, 3, 4, 5, 6, 7, 8, 9, 10] [11, 12, 13, 14, 15, 16, 17, 18, 19, 20, 21] [10, 11, 12, 13, 14, 15, 16, 17, 18, 19] rfl rfl (by decide) (by decide) rfl hk1 hFc ht hvm hB
      have hP : va_P (dC, dI) cls ((oX3 (p0a 0) p0a p0k p0n o_24) ++ (oX6 (p0a 5) p0_4a p0_4k p0_4w p0_4l)) H := hP.sub [11, 12, 13, 14, 15, 16, 17, 18, 19, 20, 21, 0, 1, 2, 3, 4, 5, 6, 7, 8, 9, 10] rfl
      have hD : va_D A ((oX3 (p0a 0) p0a p0k p0n o_24) ++ (oX6 (p0a 5) p0_4a p0_4k p0_4w p0_4l)) := hD.sub [11, 12, 13, 14, 15, 16, 17, 18, 19, 20, 21, 0, 1, 2, 3, 4, 5, 6, 7, 8, 9, 10] (by decide) rfl
      have hK : va_K (dC, dI) cls ((tX3 p0k) ++ (tX6 p0_4k)) s := hK.sub [10, 11, 12, 13, 14, 15, 16, 17, 18, 19, 0, 1, 2, 3, 4, 5, 6, 7, 8, 9] rfl
      refine lv_goto (tgt := 130) hx hb dX3_moveInText_82 (by decide) ?_
      exact J130 o_24 _ _ _ hrun hP hD hK hS (lv_sub hl [] rfl)
def fX3_moveStep_J239 (p0w_239 : ST) : Option ST := some p0w_239
def fX3_moveStep (p0n : Nat → Nat) (p0w : ST) (p1n : Nat → Nat) (p1w : ST) (p2 : Int32) (p3 : Int32) (p0_4w : ST) : Option ST := (if ixb p3 (p1n 2) = true then (if ixb p3 (p1n 4) = true then (if (p1w 2 (nn p3)) = 0 then (if ixb p3 (p1n 3) = true then (if ixb ((p2 * 320) + (p1w 3 (nn p3))) 2560 = true then (lt9 (upw p0w 16 (nn ((p2 * 320) + (p1w 3 (nn p3)))) (p1w 4 (nn p3))) fun (w6 : ST) => (fX3_moveStep_J239 w6)) else none) else none) else (if (p1w 2 (nn p3)) = 21 then (if ixb p3 (p1n 3) = true then ((fX3_argumentOf p0w p2 (p1w 4 (nn p3))).bind fun (o_9 : Int32) => (if ixb ((p2 * 320) + (p1w 3 (nn p3))) 2560 = true then (lt9 (upw p0w 16 (nn ((p2 * 320) + (p1w 3 (nn p3)))) o_9) fun (w12 : ST) => (fX3_moveStep_J239 w12)) else none)) else none) else (if (p1w 2 (nn p3)) = 20 then ((fX3_enter p0n p0w 1 (p1w 4 (nn p3)) p0_4w).bind fun (o_14 : ST) => (fX3_moveStep_J239 o_14)) else (if (p1w 2 (nn p3)) = 17 then (if ixb p3 (p1n 3) = true then (if ixb ((p2 * 320) + (p1w 4 (nn p3))) 2560 = true then ((fX3_readWord p0w (p0w 16 (nn ((p2 * 320) + (p1w 4 (nn p3)))))).bind fun (o_18 : Int32) => (if ixb ((p2 * 320) + (p1w 3 (nn p3))) 2560 = true then (lt9 (upw p0w 16 (nn ((p2 * 320) + (p1w 3 (nn p3)))) o_18) fun (w21 : ST) => (fX3_moveStep_J239 w21)) else none)) else none) else none) else (if (p1w 2 (nn p3)) = 18 then (if ixb ((p2 * 320) + (p1w 4 (nn p3))) 2560 = true then (if ixb p3 (p1n 5) = true then (if ixb ((p2 * 320) + (p1w 5 (nn p3))) 2560 = true then ((fX3_writeWord p0w (p0w 16 (nn ((p2 * 320) + (p1w 4 (nn p3))))) (p0w 16 (nn ((p2 * 320) + (p1w 5 (nn p3)))))).bind fun (o_26 : ST) => (fX3_moveStep_J239 o_26)) else none) else none) else none) else (if (p1w 2 (nn p3)) = 19 then (if ixb ((p2 * 320) + (p1w 4 (nn p3))) 2560 = true then ((fX3_push p0w (p0w 16 (nn ((p2 * 320) + (p1w 4 (nn p3)))))).bind fun (o_29 : ST) => (fX3_moveStep_J239 o_29)) else none) else (if ixb p3 (p1n 3) = true then (if ixb ((p2 * 320) + (p1w 4 (nn p3))) 2560 = true then (if ixb p3 (p1n 5) = true then (if ixb ((p2 * 320) + (p1w 5 (nn p3))) 2560 = true then ((fX3_operate p0w (p1w 2 (nn p3)) (p0w 16 (nn ((p2 * 320) + (p1w 4 (nn p3))))) (p0w 16 (nn ((p2 * 320) + (p1w 5 (nn p3)))))).bind fun (o_34 : Int32 × ST) => (if ixb ((p2 * 320) + (p1w 3 (nn p3))) 2560 = true then (lt9 (upw (o_34.2) 16 (nn ((p2 * 320) + (p1w 3 (nn p3)))) (o_34.1)) fun (w37 : ST) => (fX3_moveStep_J239 w37)) else none)) else none) else none) else none) else none))))))) else none) else none)
set_option maxHeartbeats 16000000 in
set_option maxRecDepth 100000 in
theorem kX3_moveStep {zs : Nat × Nat} (l : Launch) (dC : Nat → ClassId) (dI : Nat → Nat → Nat) (p0a : Nat → Nat) (p0k : Nat → ClassId) (p0n : Nat → Nat) (p0w : ST) (p1a : Nat → Nat) (p1k : Nat → ClassId) (p1n : Nat → Nat) (p1w : ST) (p2 : Int32) (p3 : Int32) (p0_4a : Nat → Nat) (p0_4k : Nat → ClassId) (p0_4w : ST) (p0_4l : SL) (sz : Nat) (o : ST) (hrun : fX3_moveStep p0n p0w p1n p1w p2 p3 p0_4w = some o) : Met l yX3_moveStep (wz yX3_moveStep cX3_moveStep 7 (Option.none : Option Jvm.ClassFile.FieldType)) ({ frames := 3, cells := 0, slots := 0, locals := 71 } : Room) (va_Pc [.ref (p0a 0), .ref (p1a 0), .int p2, .int p3] (PRE zs dC dI ((oX3 (p0a 0) p0a p0k p0n p0w) ++ (oX9 (p1a 0) p1a p1k p1n p1w) ++ (oX6 (p0a 5) p0_4a p0_4k p0_4w p0_4l)) ((tX3 p0k) ++ (tX9 p1k) ++ (tX6 p0_4k)) sz)) (va_Qv (fun (_ : Unit) => True) (fun _ t => POST dC dI ((oX3 (p0a 0) p0a p0k p0n o) ++ (oX9 (p1a 0) p1a p1k p1n p1w) ++ (oX6 (p0a 5) p0_4a p0_4k p0_4w p0_4l)) ((tX3 p0k) ++ (tX9 p1k) ++ (tX6 p0_4k)) (va_A ((oX3 (p0a 0) p0a p0k p0n p0w) ++ (oX9 (p1a 0) p1a p1k p1n p1w) ++ (oX6 (p0a 5) p0_4a p0_4k p0_4w p0_4l)) sz) t) (va_A ((oX3 (p0a 0) p0a p0k p0n p0w) ++ (oX9 (p1a 0) p1a p1k p1n p1w) ++ (oX6 (p0a 5) p0_4a p0_4k p0_4w p0_4l)) sz)) 0 0 (va_A ((oX3 (p0a 0) p0a p0k p0n p0w) ++ (oX9 (p1a 0) p1a p1k p1n p1w) ++ (oX6 (p0a 5) p0_4a p0_4k p0_4w p0_4l)) sz) := by
  refine Met.ofW (cc := cX3_moveStep) (maxL := 7) (ret := (Option.none : Option Jvm.ClassFile.FieldType)) (by decide) rfl ?_
  intro p e s m args below meth c s₁ B hml hv
  obtain ⟨rfl, hsz, hP, hK, hD0, hE⟩ := hv
  have hx := B.exec
  have hb := B.bytes
  have hr := B.returns
  have hts0 := atoms_spec (ws := wz yX3_moveStep cX3_moveStep 7 (Option.none : Option Jvm.ClassFile.FieldType)) B.pre
  have hts : ∀ w ∈ gw, w.before _ s = true := fun w h => hts0 w (List.mem_cons_of_mem _ h)
  have hown : s.vm.findClass RX3 = some m.cls := findClass_of_methodNamed B.named
  have hlocks := B.notSynchronized
  subst hsz
  have hD := hD0.self (sz := s.heap.size)
  refine gQ9 ?_
  intro Q hQ
  generalize hAe : va_A ((oX3 (p0a 0) p0a p0k p0n p0w) ++ (oX9 (p1a 0) p1a p1k p1n p1w) ++ (oX6 (p0a 5) p0_4a p0_4k p0_4w p0_4l)) s.heap.size = A at hD hE hQ
  have hA : ∀ q : Nat, s.heap.size ≤ q → A q := fun q h => by rw [← hAe]; exact Or.inr h
  have hS : va_S A s.heap s.heap [] := va_S.rf
  have hP : va_P (dC, dI) cls ((oX3 (p0a 0) p0a p0k p0n p0w) ++ (oX9 (p1a 0) p1a p1k p1n p1w) ++ (oX6 (p0a 5) p0_4a p0_4k p0_4w p0_4l)) s.heap := hP
  have hl := lv_entry ([.ref (p0a 0), .ref (p1a 0), .int p2, .int p3]) (n := 7) (Nat.le_of_ble_eq_true rfl)
  rw [lg_entry_eq]
  generalize (lg_sl ([.ref (p0a 0), .ref (p1a 0), .int p2, .int p3]) ++ List.replicate (7 - (lg_sl ([.ref (p0a 0), .ref (p1a 0), .int p2, .int p3])).length) Slot.unset).toArray = ls at hl ⊢
  have hl : lv_has ls 7 [(0, .ref (p0a 0)), (1, .ref (p1a 0)), (2, .int p2), (3, .int p3)] := hl
  obtain ⟨H, hHe⟩ : ∃ H, H = s.heap := ⟨_, rfl⟩
  obtain ⟨locs, hle⟩ : ∃ locs : List Loc, locs = [] := ⟨_, rfl⟩
  rw [← hHe] at hP
  have hS : va_S A s.heap H locs := by rw [hHe, hle]; exact hS
  show W p l e ({ frames := 3, cells := 0, slots := 0, locals := 71 } : Room) s m ([.ref (p0a 0), .ref (p1a 0), .int p2, .int p3] : List Value).toArray below meth c s.heap [] 0 0 Q (F0 m 0 ls [])
  rw [← hle]
  refine wH9 hHe ?_
  unfold fX3_moveStep at hrun
  refine lv_iload_n hx hb dX3_moveStep_0 rfl (lv_at hl 2 rfl) ?_
  refine lv_sipush (v := 320) hx hb dX3_moveStep_1 (by decide) ?_
  refine lv_imul hx hb dX3_moveStep_4 ?_
  refine lv_istore (lv' := [(4, .int (p2 * 320)), (0, .ref (p0a 0)), (1, .ref (p1a 0)), (2, .int p2), (3, .int p3)]) hx hb dX3_moveStep_5 hl (by decide) rfl (fun ls hl => ?_)
  refine lv_aload_n hx hb dX3_moveStep_7 rfl (lv_at hl 2 rfl) ?_
  refine va_get (D := (dC, dI)) (ci := 3) (v := .ref (p1a 2)) (C := RX9) (T := TX9) (N := 6) hx hb hts i_X9 hown hK hP 11 rfl rfl 1 (by decide) (hts _ qw966) (fun _ h9 => h9) rfl dX3_moveStep_8 ?_
  refine lv_iload_n hx hb dX3_moveStep_11 rfl (lv_at hl 4 rfl) ?_
  obtain ⟨hq1, hrun⟩ := chk9 hrun
  refine va_iald hx hb hK hP 12 10 rfl rfl (ixb_in hq1) dX3_moveStep_12 ?_
  refine lv_istore (lv' := [(5, .int (p1w 2 (nn p3))), (4, .int (p2 * 320)), (0, .ref (p0a 0)), (1, .ref (p1a 0)), (2, .int p2), (3, .int p3)]) hx hb dX3_moveStep_13 hl (by decide) rfl (fun ls hl => ?_)
  refine lv_aload_n hx hb dX3_moveStep_15 rfl (lv_at hl 3 rfl) ?_
  refine va_get (D := (dC, dI)) (ci := 3) (v := .ref (p1a 4)) (C := RX9) (T := TX9) (N := 6) hx hb hts i_X9 hown hK hP 11 rfl rfl 3 (by decide) (hts _ qw967) (fun _ h9 => h9) rfl dX3_moveStep_16 ?_
  refine lv_iload_n hx hb dX3_moveStep_19 rfl (lv_at hl 5 rfl) ?_
  obtain ⟨hq2, hrun⟩ := chk9 hrun
  refine va_iald hx hb hK hP 14 12 rfl rfl (ixb_in hq2) dX3_moveStep_20 ?_
  refine lv_istore (lv' := [(6, .int (p1w 4 (nn p3))), (5, .int (p1w 2 (nn p3))), (4, .int (p2 * 320)), (0, .ref (p0a 0)), (1, .ref (p1a 0)), (2, .int p2), (3, .int p3)]) hx hb dX3_moveStep_21 hl (by decide) rfl (fun ls hl => ?_)
  refine lv_iload hx hb dX3_moveStep_23 (lv_at hl 1 rfl) ?_
  have J239 : ∀ (p0w_239 : ST) (H : Heap) (locs : List Loc) (ls : Array Slot), (fX3_moveStep_J239 p0w_239) = some o → va_P (dC, dI) cls ((oX3 (p0a 0) p0a p0k p0n p0w_239) ++ (oX9 (p1a 0) p1a p1k p1n p1w) ++ (oX6 (p0a 5) p0_4a p0_4k p0_4w p0_4l)) H → va_D A ((oX3 (p0a 0) p0a p0k p0n p0w_239) ++ (oX9 (p1a 0) p1a p1k p1n p1w) ++ (oX6 (p0a 5) p0_4a p0_4k p0_4w p0_4l)) → va_K (dC, dI) cls ((tX3 p0k) ++ (tX9 p1k) ++ (tX6 p0_4k)) s → va_S A s.heap H locs → lv_has ls 7 [] → W p l e ({ frames := 3, cells := 0, slots := 0, locals := 71 } : Room) s m ([.ref (p0a 0), .ref (p1a 0), .int p2, .int p3] : List Value).toArray below meth c H locs 0 0 Q (F0 m 239 ls []) := by
    intro p0w_239 H locs ls hrun hP hD hK hS hl 
    unfold fX3_moveStep_J239 at hrun
    have ho9 : p0w_239 = o := Option.some.inj hrun
    have hP9 : va_P (dC, dI) cls ((oX3 (p0a 0) p0a p0k p0n o) ++ (oX9 (p1a 0) p1a p1k p1n p1w) ++ (oX6 (p0a 5) p0_4a p0_4k p0_4w p0_4l)) H := by first | exact hP | (rw [← ho9]; exact hP)
    have hD9 : va_D A ((oX3 (p0a 0) p0a p0k p0n o) ++ (oX9 (p1a 0) p1a p1k p1n p1w) ++ (oX6 (p0a 5) p0_4a p0_4k p0_4w p0_4l)) := by first | exact hD | (rw [← ho9]; exact hD)
    subst hQ
    exact W.vret hx hb hr (fun t ht hW => ⟨⟨(), rfl, trivial, ⟨by rw [ht]; exact hP9, va_K.moved hW.alike hK, hD9⟩⟩, hS.F ht⟩) hS.2.2 dX3_moveStep_239
  rcases br9 hrun with ⟨hc3, hrun⟩ | ⟨hc3, hrun⟩
  · refine lv_if_ne (tgt := 47) hx hb dX3_moveStep_25 (by decide) (fun c => absurd hc3 c) (fun _ => ?_)
    refine lv_aload_n hx hb dX3_moveStep_28 rfl (lv_at hl 3 rfl) ?_
    refine va_get (D := (dC, dI)) (ci := 10) (v := .ref (p0a 16)) (C := RX3) (T := TX3) (N := 20) hx hb hts i_X3 hown hK hP 0 rfl rfl 15 (by decide) (hts _ qw891) (fun _ h9 => h9) rfl dX3_moveStep_29 ?_
    refine lv_iload hx hb dX3_moveStep_32 (lv_at hl 2 rfl) ?_
    refine lv_aload_n hx hb dX3_moveStep_34 rfl (lv_at hl 4 rfl) ?_
    refine va_get (D := (dC, dI)) (ci := 3) (v := .ref (p1a 3)) (C := RX9) (T := TX9) (N := 6) hx hb hts i_X9 hown hK hP 11 rfl rfl 2 (by decide) (hts _ qw924) (fun _ h9 => h9) rfl dX3_moveStep_35 ?_
    refine lv_iload_n hx hb dX3_moveStep_38 rfl (lv_at hl 6 rfl) ?_
    obtain ⟨hq4, hrun⟩ := chk9 hrun
    refine va_iald hx hb hK hP 13 11 rfl rfl (ixb_in hq4) dX3_moveStep_39 ?_
    refine lv_iadd hx hb dX3_moveStep_40 ?_
    refine lv_iload hx hb dX3_moveStep_41 (lv_at hl 0 rfl) ?_
    obtain ⟨hq5, hrun⟩ := chk9 hrun
    refine va_iast hx hb hK hP hD hS 8 7 rfl rfl (ixb_in hq5) dX3_moveStep_43 (fun H locs hP hD hS => ?_)
    have hP : va_P (dC, dI) cls ((oX3 (p0a 0) p0a p0k p0n (upw p0w 16 (nn ((p2 * 320) + (p1w 3 (nn p3)))) (p1w 4 (nn p3)))) ++ (oX9 (p1a 0) p1a p1k p1n p1w) ++ (oX6 (p0a 5) p0_4a p0_4k p0_4w p0_4l)) H := hP
    have hD : va_D A ((oX3 (p0a 0) p0a p0k p0n (upw p0w 16 (nn ((p2 * 320) + (p1w 3 (nn p3)))) (p1w 4 (nn p3)))) ++ (oX9 (p1a 0) p1a p1k p1n p1w) ++ (oX6 (p0a 5) p0_4a p0_4k p0_4w p0_4l)) := hD
    obtain ⟨w6, ew6, hrun⟩ := let9 hrun
    rw [← ew6] at hP hD
    refine lv_goto (tgt := 239) hx hb dX3_moveStep_44 (by decide) ?_
    exact J239 w6 _ _ _ hrun hP hD hK hS (lv_sub hl [] rfl)
  · refine lv_if_ne (tgt := 47) hx hb dX3_moveStep_25 (by decide) (fun _ => ?_) (fun c => absurd c hc3)
    refine lv_iload hx hb dX3_moveStep_47 (lv_at hl 1 rfl) ?_
    refine lv_bipush (v := 21) hx hb dX3_moveStep_49 (by decide) ?_
    rcases br9 hrun with ⟨hc7, hrun⟩ | ⟨hc7, hrun⟩
    · refine lv_icmp_ne (tgt := 78) hx hb dX3_moveStep_51 (by decide) (fun c => absurd hc7 c) (fun _ => ?_)
      refine lv_aload_n hx hb dX3_moveStep_54 rfl (lv_at hl 3 rfl) ?_
      refine va_get (D := (dC, dI)) (ci := 10) (v := .ref (p0a 16)) (C := RX3) (T := TX3) (N := 20) hx hb hts i_X3 hown hK hP 0 rfl rfl 15 (by decide) (hts _ qw891) (fun _ h9 => h9) rfl dX3_moveStep_55 ?_
      refine lv_iload hx hb dX3_moveStep_58 (lv_at hl 2 rfl) ?_
      refine lv_aload_n hx hb dX3_moveStep_60 rfl (lv_at hl 4 rfl) ?_
      refine va_get (D := (dC, dI)) (ci := 3) (v := .ref (p1a 3)) (C := RX9) (T := TX9) (N := 6) hx hb hts i_X9 hown hK hP 11 rfl rfl 2 (by decide) (hts _ qw924) (fun _ h9 => h9) rfl dX3_moveStep_61 ?_
      refine lv_iload_n hx hb dX3_moveStep_64 rfl (lv_at hl 6 rfl) ?_
      obtain ⟨hq8, hrun⟩ := chk9 hrun
      refine va_iald hx hb hK hP 13 11 rfl rfl (ixb_in hq8) dX3_moveStep_65 ?_
      refine lv_iadd hx hb dX3_moveStep_66 ?_
      refine lv_aload_n hx hb dX3_moveStep_67 rfl (lv_at hl 3 rfl) ?_
      refine lv_iload_n hx hb dX3_moveStep_68 rfl (lv_at hl 5 rfl) ?_
      refine lv_iload hx hb dX3_moveStep_69 (lv_at hl 0 rfl) ?_
      obtain ⟨o_9, hc_9, hrun⟩ := bnd9 hrun
      have hPc := hP.sub (ws' := (oX3 (p0a 0) p0a p0k p0n p0w)) [0, 1, 2, 3, 4, 5, 6, 7, 8, 9, 10] rfl
      have hDc := hD.sub (ws' := (oX3 (p0a 0) p0a p0k p0n p0w)) [0, 1, 2, 3, 4, 5, 6, 7, 8, 9, 10] (by decide) rfl
      have hKc := hK.sub (tys' := (tX3 p0k)) [0, 1, 2, 3, 4, 5, 6, 7, 8, 9] rfl
      have hFc := va_free (wc := (oX3 (p0a 0) p0a p0k p0n p0w)) hD hS hA [0, 1, 2, 3, 4, 5, 6, 7, 8, 9, 10] rfl
      refine va_calli (va_runV (As := [.int p2, .int (p1w 4 (nn p3))]) (rest := [.int ((p2 * 320) + (p1w 3 (nn p3))), .ref (p0a 16)]) ⟨hx, hb, hml, hown, hts⟩ (kX3_argumentOf l dC dI (p0a := (st0 (p0a 0) p0a)) (p0k := p0k) (p0n := p0n) (p0w := p0w) (p1 := p2) (p2 := (p1w 4 (nn p3))) (sz := _) (o := o_9) (hrun := hc_9)) (cwV 2 hts (gi_V qw955 qw956 qw957 qw888 (gi_z qw954)) rfl rfl rfl (by decide +kernel) ⟨Nat.le_of_ble_eq_true rfl, Nat.le_of_ble_eq_true rfl⟩) ⟨PRE.blind, va_recv hKc hPc (ci := 10) (q0 := 0) rfl rfl, PRE.of hE hS hFc hPc hKc hDc⟩ rfl rfl hl.1 rfl (lv_room (Nat.le_of_ble_eq_true rfl)) dX3_moveStep_71 ⟨(Nat.le_of_ble_eq_true rfl), (Nat.le_of_ble_eq_true rfl)⟩) hS (fun q _ h => hFc q h) hFc (fun r10 u t H locs ht hvm hw hB hz1 hk1 hS => ?_)
      obtain ⟨hP, hD, hK⟩ := JOIN (wr := ((oX9 (p1a 0) p1a p1k p1n p1w) ++ (oX6 (p0a 5) p0_4a p0_4k p0_4w p0_4l))) hP hD hK [0, 1, 2, 3, 4, 5, 6, 7, 8, 9, 10] [11, 12, 13, 14, 15, 16, 17, 18, 19, 20, 21, 22, 23, 24, 25, 26, 27] [10, 11, 12, 13, 14, 15, 16, 17, 18, 19, 20, 21, 22, 23, 24] rfl rfl (by decide) (by decide) rfl hk1 hFc ht hvm hB
      have hP : va_P (dC, dI) cls ((oX3 (p0a 0) p0a p0k p0n p0w) ++ (oX9 (p1a 0) p1a p1k p1n p1w) ++ (oX6 (p0a 5) p0_4a p0_4k p0_4w p0_4l)) H := hP.sub [17, 18, 19, 20, 21, 22, 23, 24, 25, 26, 27, 0, 1, 2, 3, 4, 5, 6, 7, 8, 9, 10, 11, 12, 13, 14, 15, 16] rfl
      have hD : va_D A ((oX3 (p0a 0) p0a p0k p0n p0w) ++ (oX9 (p1a 0) p1a p1k p1n p1w) ++ (oX6 (p0a 5) p0_4a p0_4k p0_4w p0_4l)) := hD.sub [17, 18, 19, 20, 21, 22, 23, 24, 25, 26, 27, 0, 1, 2, 3, 4, 5, 6, 7, 8, 9, 10, 11, 12, 13, 14, 15, 16] (by decide) rfl
      have hK : va_K (dC, dI) cls ((tX3 p0k) ++ (tX9 p1k) ++ (tX6 p0_4k)) s := hK.sub [15, 16, 17, 18, 19, 20, 21, 22, 23, 24, 0, 1, 2, 3, 4, 5, 6, 7, 8, 9, 10, 11, 12, 13, 14] rfl
      obtain rfl : o_9 = r10 := hw.symm
      obtain ⟨hq11, hrun⟩ := chk9 hrun
      refine va_iast hx hb hK hP hD hS 8 7 rfl rfl (ixb_in hq11) dX3_moveStep_74 (fun H locs hP hD hS => ?_)
      have hP : va_P (dC, dI) cls ((oX3 (p0a 0) p0a p0k p0n (upw p0w 16 (nn ((p2 * 320) + (p1w 3 (nn p3)))) o_9)) ++ (oX9 (p1a 0) p1a p1k p1n p1w) ++ (oX6 (p0a 5) p0_4a p0_4k p0_4w p0_4l)) H := hP
      have hD : va_D A ((oX3 (p0a 0) p0a p0k p0n (upw p0w 16 (nn ((p2 * 320) + (p1w 3 (nn p3)))) o_9)) ++ (oX9 (p1a 0) p1a p1k p1n p1w) ++ (oX6 (p0a 5) p0_4a p0_4k p0_4w p0_4l)) := hD
      obtain ⟨w12, ew12, hrun⟩ := let9 hrun
      rw [← ew12] at hP hD
      refine lv_goto (tgt := 239) hx hb dX3_moveStep_75 (by decide) ?_
      exact J239 w12 _ _ _ hrun hP hD hK hS (lv_sub hl [] rfl)
    · refine lv_icmp_ne (tgt := 78) hx hb dX3_moveStep_51 (by decide) (fun _ => ?_) (fun c => absurd c hc7)
      refine lv_iload hx hb dX3_moveStep_78 (lv_at hl 1 rfl) ?_
      refine lv_bipush (v := 20) hx hb dX3_moveStep_80 (by decide) ?_
      rcases br9 hrun with ⟨hc13, hrun⟩ | ⟨hc13, hrun⟩
      · refine lv_icmp_ne (tgt := 95) hx hb dX3_moveStep_82 (by decide) (fun c => absurd hc13 c) (fun _ => ?_)
        refine lv_aload_n hx hb dX3_moveStep_85 rfl (lv_at hl 3 rfl) ?_
        refine lv_iconst (v := 1) hx hb dX3_moveStep_86 (by decide) ?_
        refine lv_iload hx hb dX3_moveStep_87 (lv_at hl 0 rfl) ?_
        obtain ⟨o_14, hc_14, hrun⟩ := bnd9 hrun
        have hPc := hP.sub (ws' := ((oX3 (p0a 0) p0a p0k p0n p0w) ++ (oX6 (p0a 5) p0_4a p0_4k p0_4w p0_4l))) [0, 1, 2, 3, 4, 5, 6, 7, 8, 9, 10, 17, 18, 19, 20, 21, 22, 23, 24, 25, 26, 27] rfl
        have hDc := hD.sub (ws' := ((oX3 (p0a 0) p0a p0k p0n p0w) ++ (oX6 (p0a 5) p0_4a p0_4k p0_4w p0_4l))) [0, 1, 2, 3, 4, 5, 6, 7, 8, 9, 10, 17, 18, 19, 20, 21, 22, 23, 24, 25, 26, 27] (by decide) rfl
        have hKc := hK.sub (tys' := ((tX3 p0k) ++ (tX6 p0_4k))) [0, 1, 2, 3, 4, 5, 6, 7, 8, 9, 15, 16, 17, 18, 19, 20, 21, 22, 23, 24] rfl
        have hFc := va_free (wc := ((oX3 (p0a 0) p0a p0k p0n p0w) ++ (oX6 (p0a 5) p0_4a p0_4k p0_4w p0_4l))) hD hS hA [0, 1, 2, 3, 4, 5, 6, 7, 8, 9, 10, 17, 18, 19, 20, 21, 22, 23, 24, 25, 26, 27] rfl
        refine va_callv (va_runV (As := [.int 1, .int (p1w 4 (nn p3))]) (rest := []) ⟨hx, hb, hml, hown, hts⟩ (kX3_enter l dC dI (p0a := (st0 (p0a 0) p0a)) (p0k := p0k) (p0n := p0n) (p0w := p0w) (p1 := 1) (p2 := (p1w 4 (nn p3))) (p0_4a := p0_4a) (p0_4k := p0_4k) (p0_4w := p0_4w) (p0_4l := p0_4l) (sz := _) (o := o_14) (hrun := hc_14)) (cwV 2 hts (gi_V qw951 qw952 qw953 qw888 (gi_z qw950)) rfl rfl rfl (by decide +kernel) ⟨Nat.le_of_ble_eq_true rfl, Nat.le_of_ble_eq_true rfl⟩) ⟨PRE.blind, va_recv hKc hPc (ci := 10) (q0 := 0) rfl rfl, PRE.of hE hS hFc hPc hKc hDc⟩ rfl rfl hl.1 rfl (lv_room (Nat.le_of_ble_eq_true rfl)) dX3_moveStep_89 ⟨(Nat.le_of_ble_eq_true rfl), (Nat.le_of_ble_eq_true rfl)⟩) hS (fun q _ h => hFc q h) hFc (fun u t H locs ht hvm hw hB hz1 hk1 hS => ?_)
        obtain ⟨hP, hD, hK⟩ := JOIN (wr := (oX9 (p1a 0) p1a p1k p1n p1w)) hP hD hK [0, 1, 2, 3, 4, 5, 6, 7, 8, 9, 10, 17, 18, 19, 20, 21, 22, 23, 24, 25, 26, 27] [11, 12, 13, 14, 15, 16] [10, 11, 12, 13, 14] rfl rfl (by decide) (by decide) rfl hk1 hFc ht hvm hB
        have hP : va_P (dC, dI) cls ((oX3 (p0a 0) p0a p0k p0n o_14) ++ (oX9 (p1a 0) p1a p1k p1n p1w) ++ (oX6 (p0a 5) p0_4a p0_4k p0_4w p0_4l)) H := hP.sub [6, 7, 8, 9, 10, 11, 12, 13, 14, 15, 16, 0, 1, 2, 3, 4, 5, 17, 18, 19, 20, 21, 22, 23, 24, 25, 26, 27] rfl
        have hD : va_D A ((oX3 (p0a 0) p0a p0k p0n o_14) ++ (oX9 (p1a 0) p1a p1k p1n p1w) ++ (oX6 (p0a 5) p0_4a p0_4k p0_4w p0_4l)) := hD.sub [6, 7, 8, 9, 10, 11, 12, 13, 14, 15, 16, 0, 1, 2, 3, 4, 5, 17, 18, 19, 20, 21, 22, 23, 24, 25, 26, 27] (by decide) rfl
        have hK : va_K (dC, dI) cls ((tX3 p0k) ++ (tX9 p1k) ++ (tX6 p0_4k)) s := hK.sub [5, 6, 7, 8, 9, 10, 11, 12, 13, 14, 0, 1, 2, 3, 4, 15, 16, 17, 18, 19, 20, 21, 22, 23, 24] rfl
        refine lv_goto (tgt := 239) hx hb dX3_moveStep_92 (by decide) ?_
        exact J239 o_14 _ _ _ hrun hP hD hK hS (lv_sub hl [] rfl)
      · refine lv_icmp_ne (tgt := 95) hx hb dX3_moveStep_82 (by decide) (fun _ => ?_) (fun c => absurd c hc13)
        refine lv_iload hx hb dX3_moveStep_95 (lv_at hl 1 rfl) ?_
        refine lv_bipush (v := 17) hx hb dX3_moveStep_97 (by decide) ?_
        rcases br9 hrun with ⟨hc15, hrun⟩ | ⟨hc15, hrun⟩
        · refine lv_icmp_ne (tgt := 133) hx hb dX3_moveStep_99 (by decide) (fun c => absurd hc15 c) (fun _ => ?_)
          refine lv_aload_n hx hb dX3_moveStep_102 rfl (lv_at hl 3 rfl) ?_
          refine va_get (D := (dC, dI)) (ci := 10) (v := .ref (p0a 16)) (C := RX3) (T := TX3) (N := 20) hx hb hts i_X3 hown hK hP 0 rfl rfl 15 (by decide) (hts _ qw891) (fun _ h9 => h9) rfl dX3_moveStep_103 ?_
          refine lv_iload hx hb dX3_moveStep_106 (lv_at hl 2 rfl) ?_
          refine lv_aload_n hx hb dX3_moveStep_108 rfl (lv_at hl 4 rfl) ?_
          refine va_get (D := (dC, dI)) (ci := 3) (v := .ref (p1a 3)) (C := RX9) (T := TX9) (N := 6) hx hb hts i_X9 hown hK hP 11 rfl rfl 2 (by decide) (hts _ qw924) (fun _ h9 => h9) rfl dX3_moveStep_109 ?_
          refine lv_iload_n hx hb dX3_moveStep_112 rfl (lv_at hl 6 rfl) ?_
          obtain ⟨hq16, hrun⟩ := chk9 hrun
          refine va_iald hx hb hK hP 13 11 rfl rfl (ixb_in hq16) dX3_moveStep_113 ?_
          refine lv_iadd hx hb dX3_moveStep_114 ?_
          refine lv_aload_n hx hb dX3_moveStep_115 rfl (lv_at hl 3 rfl) ?_
          refine lv_aload_n hx hb dX3_moveStep_116 rfl (lv_at hl 3 rfl) ?_
          refine va_get (D := (dC, dI)) (ci := 10) (v := .ref (p0a 16)) (C := RX3) (T := TX3) (N := 20) hx hb hts i_X3 hown hK hP 0 rfl rfl 15 (by decide) (hts _ qw891) (fun _ h9 => h9) rfl dX3_moveStep_117 ?_
          refine lv_iload hx hb dX3_moveStep_120 (lv_at hl 2 rfl) ?_
          refine lv_iload hx hb dX3_moveStep_122 (lv_at hl 0 rfl) ?_
          refine lv_iadd hx hb dX3_moveStep_124 ?_
          obtain ⟨hq17, hrun⟩ := chk9 hrun
          refine va_iald hx hb hK hP 8 7 rfl rfl (ixb_in hq17) dX3_moveStep_125 ?_
          obtain ⟨o_18, hc_18, hrun⟩ := bnd9 hrun
          have hPc := hP.sub (ws' := (oX3 (p0a 0) p0a p0k p0n p0w)) [0, 1, 2, 3, 4, 5, 6, 7, 8, 9, 10] rfl
          have hDc := hD.sub (ws' := (oX3 (p0a 0) p0a p0k p0n p0w)) [0, 1, 2, 3, 4, 5, 6, 7, 8, 9, 10] (by decide) rfl
          have hKc := hK.sub (tys' := (tX3 p0k)) [0, 1, 2, 3, 4, 5, 6, 7, 8, 9] rfl
          have hFc := va_free (wc := (oX3 (p0a 0) p0a p0k p0n p0w)) hD hS hA [0, 1, 2, 3, 4, 5, 6, 7, 8, 9, 10] rfl
          refine va_calli (va_runV (As := [.int (p0w 16 (nn ((p2 * 320) + (p1w 4 (nn p3)))))]) (rest := [.int ((p2 * 320) + (p1w 3 (nn p3))), .ref (p0a 16)]) ⟨hx, hb, hml, hown, hts⟩ (kX3_readWord l dC dI (p0a := (st0 (p0a 0) p0a)) (p0k := p0k) (p0n := p0n) (p0w := p0w) (p1 := (p0w 16 (nn ((p2 * 320) + (p1w 4 (nn p3)))))) (sz := _) (o := o_18) (hrun := hc_18)) (cwV 1 hts (gi_V qw943 qw944 qw945 qw888 (gi_z qw942)) rfl rfl rfl (by decide +kernel) ⟨Nat.le_of_ble_eq_true rfl, Nat.le_of_ble_eq_true rfl⟩) ⟨PRE.blind, va_recv hKc hPc (ci := 10) (q0 := 0) rfl rfl, PRE.of hE hS hFc hPc hKc hDc⟩ rfl rfl hl.1 rfl (lv_room (Nat.le_of_ble_eq_true rfl)) dX3_moveStep_126 ⟨(Nat.le_of_ble_eq_true rfl), (Nat.le_of_ble_eq_true rfl)⟩) hS (fun q _ h => hFc q h) hFc (fun r19 u t H locs ht hvm hw hB hz1 hk1 hS => ?_)
          obtain ⟨hP, hD, hK⟩ := JOIN (wr := ((oX9 (p1a 0) p1a p1k p1n p1w) ++ (oX6 (p0a 5) p0_4a p0_4k p0_4w p0_4l))) hP hD hK [0, 1, 2, 3, 4, 5, 6, 7, 8, 9, 10] [11, 12, 13, 14, 15, 16, 17, 18, 19, 20, 21, 22, 23, 24, 25, 26, 27] [10, 11, 12, 13, 14, 15, 16, 17, 18, 19, 20, 21, 22, 23, 24] rfl rfl (by decide) (by decide) rfl hk1 hFc ht hvm hB
          have hP : va_P (dC, dI) cls ((oX3 (p0a 0) p0a p0k p0n p0w) ++ (oX9 (p1a 0) p1a p1k p1n p1w) ++ (oX6 (p0a 5) p0_4a p0_4k p0_4w p0_4l)) H := hP.sub [17, 18, 19, 20, 21, 22, 23, 24, 25, 26, 27, 0, 1, 2, 3, 4, 5, 6, 7, 8, 9, 10, 11, 12, 13, 14, 15, 16] rfl
          have hD : va_D A ((oX3 (p0a 0) p0a p0k p0n p0w) ++ (oX9 (p1a 0) p1a p1k p1n p1w) ++ (oX6 (p0a 5) p0_4a p0_4k p0_4w p0_4l)) := hD.sub [17, 18, 19, 20, 21, 22, 23, 24, 25, 26, 27, 0, 1, 2, 3, 4, 5, 6, 7, 8, 9, 10, 11, 12, 13, 14, 15, 16] (by decide) rfl
          have hK : va_K (dC, dI) cls ((tX3 p0k) ++ (tX9 p1k) ++ (tX6 p0_4k)) s := hK.sub [15, 16, 17, 18, 19, 20, 21, 22, 23, 24, 0, 1, 2, 3, 4, 5, 6, 7, 8, 9, 10, 11, 12, 13, 14] rfl
          obtain rfl : o_18 = r19 := hw.symm
          obtain ⟨hq20, hrun⟩ := chk9 hrun
          refine va_iast hx hb hK hP hD hS 8 7 rfl rfl (ixb_in hq20) dX3_moveStep_129 (fun H locs hP hD hS => ?_)
          have hP : va_P (dC, dI) cls ((oX3 (p0a 0) p0a p0k p0n (upw p0w 16 (nn ((p2 * 320) + (p1w 3 (nn p3)))) o_18)) ++ (oX9 (p1a 0) p1a p1k p1n p1w) ++ (oX6 (p0a 5) p0_4a p0_4k p0_4w p0_4l)) H := hP
          have hD : va_D A ((oX3 (p0a 0) p0a p0k p0n (upw p0w 16 (nn ((p2 * 320) + (p1w 3 (nn p3)))) o_18)) ++ (oX9 (p1a 0) p1a p1k p1n p1w) ++ (oX6 (p0a 5) p0_4a p0_4k p0_4w p0_4l)) := hD
          obtain ⟨w21, ew21, hrun⟩ := let9 hrun
          rw [← ew21] at hP hD
          refine lv_goto (tgt := 239) hx hb dX3_moveStep_130 (by decide) ?_
          exact J239 w21 _ _ _ hrun hP hD hK hS (lv_sub hl [] rfl)
        · refine lv_icmp_ne (tgt := 133) hx hb dX3_moveStep_99 (by decide) (fun _ => ?_) (fun c => absurd c hc15)
          refine lv_iload hx hb dX3_moveStep_133 (lv_at hl 1 rfl) ?_
          refine lv_bipush (v := 18) hx hb dX3_moveStep_135 (by decide) ?_
          rcases br9 hrun with ⟨hc22, hrun⟩ | ⟨hc22, hrun⟩
          · refine lv_icmp_ne (tgt := 171) hx hb dX3_moveStep_137 (by decide) (fun c => absurd hc22 c) (fun _ => ?_)
            refine lv_aload_n hx hb dX3_moveStep_140 rfl (lv_at hl 3 rfl) ?_
            refine lv_aload_n hx hb dX3_moveStep_141 rfl (lv_at hl 3 rfl) ?_
            refine va_get (D := (dC, dI)) (ci := 10) (v := .ref (p0a 16)) (C := RX3) (T := TX3) (N := 20) hx hb hts i_X3 hown hK hP 0 rfl rfl 15 (by decide) (hts _ qw891) (fun _ h9 => h9) rfl dX3_moveStep_142 ?_
            refine lv_iload hx hb dX3_moveStep_145 (lv_at hl 2 rfl) ?_
            refine lv_iload hx hb dX3_moveStep_147 (lv_at hl 0 rfl) ?_
            refine lv_iadd hx hb dX3_moveStep_149 ?_
            obtain ⟨hq23, hrun⟩ := chk9 hrun
            refine va_iald hx hb hK hP 8 7 rfl rfl (ixb_in hq23) dX3_moveStep_150 ?_
            refine lv_aload_n hx hb dX3_moveStep_151 rfl (lv_at hl 3 rfl) ?_
            refine va_get (D := (dC, dI)) (ci := 10) (v := .ref (p0a 16)) (C := RX3) (T := TX3) (N := 20) hx hb hts i_X3 hown hK hP 0 rfl rfl 15 (by decide) (hts _ qw891) (fun _ h9 => h9) rfl dX3_moveStep_152 ?_
            refine lv_iload hx hb dX3_moveStep_155 (lv_at hl 2 rfl) ?_
            refine lv_aload_n hx hb dX3_moveStep_157 rfl (lv_at hl 4 rfl) ?_
            refine va_get (D := (dC, dI)) (ci := 3) (v := .ref (p1a 5)) (C := RX9) (T := TX9) (N := 6) hx hb hts i_X9 hown hK hP 11 rfl rfl 4 (by decide) (hts _ qw968) (fun _ h9 => h9) rfl dX3_moveStep_158 ?_
            refine lv_iload_n hx hb dX3_moveStep_161 rfl (lv_at hl 6 rfl) ?_
            obtain ⟨hq24, hrun⟩ := chk9 hrun
            refine va_iald hx hb hK hP 15 13 rfl rfl (ixb_in hq24) dX3_moveStep_162 ?_
            refine lv_iadd hx hb dX3_moveStep_163 ?_
            obtain ⟨hq25, hrun⟩ := chk9 hrun
            refine va_iald hx hb hK hP 8 7 rfl rfl (ixb_in hq25) dX3_moveStep_164 ?_
            obtain ⟨o_26, hc_26, hrun⟩ := bnd9 hrun
            have hPc := hP.sub (ws' := (oX3 (p0a 0) p0a p0k p0n p0w)) [0, 1, 2, 3, 4, 5, 6, 7, 8, 9, 10] rfl
            have hDc := hD.sub (ws' := (oX3 (p0a 0) p0a p0k p0n p0w)) [0, 1, 2, 3, 4, 5, 6, 7, 8, 9, 10] (by decide) rfl
            have hKc := hK.sub (tys' := (tX3 p0k)) [0, 1, 2, 3, 4, 5, 6, 7, 8, 9] rfl
            have hFc := va_free (wc := (oX3 (p0a 0) p0a p0k p0n p0w)) hD hS hA [0, 1, 2, 3, 4, 5, 6, 7, 8, 9, 10] rfl
            refine va_callv (va_runV (As := [.int (p0w 16 (nn ((p2 * 320) + (p1w 4 (nn p3))))), .int (p0w 16 (nn ((p2 * 320) + (p1w 5 (nn p3)))))]) (rest := []) ⟨hx, hb, hml, hown, hts⟩ (kX3_writeWord l dC dI (p0a := (st0 (p0a 0) p0a)) (p0k := p0k) (p0n := p0n) (p0w := p0w) (p1 := (p0w 16 (nn ((p2 * 320) + (p1w 4 (nn p3)))))) (p2 := (p0w 16 (nn ((p2 * 320) + (p1w 5 (nn p3)))))) (sz := _) (o := o_26) (hrun := hc_26)) (cwV 2 hts (gi_V qw947 qw948 qw949 qw888 (gi_z qw946)) rfl rfl rfl (by decide +kernel) ⟨Nat.le_of_ble_eq_true rfl, Nat.le_of_ble_eq_true rfl⟩) ⟨PRE.blind, va_recv hKc hPc (ci := 10) (q0 := 0) rfl rfl, PRE.of hE hS hFc hPc hKc hDc⟩ rfl rfl hl.1 rfl (lv_room (Nat.le_of_ble_eq_true rfl)) dX3_moveStep_165 ⟨(Nat.le_of_ble_eq_true rfl), (Nat.le_of_ble_eq_true rfl)⟩) hS (fun q _ h => hFc q h) hFc (fun u t H locs ht hvm hw hB hz1 hk1 hS => ?_)
            obtain ⟨hP, hD, hK⟩ := JOIN (wr := ((oX9 (p1a 0) p1a p1k p1n p1w) ++ (oX6 (p0a 5) p0_4a p0_4k p0_4w p0_4l))) hP hD hK [0, 1, 2, 3, 4, 5, 6, 7, 8, 9, 10] [11, 12, 13, 14, 15, 16, 17, 18, 19, 20, 21, 22, 23, 24, 25, 26, 27] [10, 11, 12, 13, 14, 15, 16, 17, 18, 19, 20, 21, 22, 23, 24] rfl rfl (by decide) (by decide) rfl hk1 hFc ht hvm hB
            have hP : va_P (dC, dI) cls ((oX3 (p0a 0) p0a p0k p0n o_26) ++ (oX9 (p1a 0) p1a p1k p1n p1w) ++ (oX6 (p0a 5) p0_4a p0_4k p0_4w p0_4l)) H := hP.sub [17, 18, 19, 20, 21, 22, 23, 24, 25, 26, 27, 0, 1, 2, 3, 4, 5, 6, 7, 8, 9, 10, 11, 12, 13, 14, 15, 16] rfl
            have hD : va_D A ((oX3 (p0a 0) p0a p0k p0n o_26) ++ (oX9 (p1a 0) p1a p1k p1n p1w) ++ (oX6 (p0a 5) p0_4a p0_4k p0_4w p0_4l)) := hD.sub [17, 18, 19, 20, 21, 22, 23, 24, 25, 26, 27, 0, 1, 2, 3, 4, 5, 6, 7, 8, 9, 10, 11, 12, 13, 14, 15, 16] (by decide) rfl
            have hK : va_K (dC, dI) cls ((tX3 p0k) ++ (tX9 p1k) ++ (tX6 p0_4k)) s := hK.sub [15, 16, 17, 18, 19, 20, 21, 22, 23, 24, 0, 1, 2, 3, 4, 5, 6, 7, 8, 9, 10, 11, 12, 13, 14] rfl
            refine lv_goto (tgt := 239) hx hb dX3_moveStep_168 (by decide) ?_
            exact J239 o_26 _ _ _ hrun hP hD hK hS (lv_sub hl [] rfl)
          · refine lv_icmp_ne (tgt := 171) hx hb dX3_moveStep_137 (by decide) (fun _ => ?_) (fun c => absurd c hc22)
            refine lv_iload hx hb dX3_moveStep_171 (lv_at hl 1 rfl) ?_
            refine lv_bipush (v := 19) hx hb dX3_moveStep_173 (by decide) ?_
            rcases br9 hrun with ⟨hc27, hrun⟩ | ⟨hc27, hrun⟩
            · refine lv_icmp_ne (tgt := 195) hx hb dX3_moveStep_175 (by decide) (fun c => absurd hc27 c) (fun _ => ?_)
              refine lv_aload_n hx hb dX3_moveStep_178 rfl (lv_at hl 3 rfl) ?_
              refine lv_aload_n hx hb dX3_moveStep_179 rfl (lv_at hl 3 rfl) ?_
              refine va_get (D := (dC, dI)) (ci := 10) (v := .ref (p0a 16)) (C := RX3) (T := TX3) (N := 20) hx hb hts i_X3 hown hK hP 0 rfl rfl 15 (by decide) (hts _ qw891) (fun _ h9 => h9) rfl dX3_moveStep_180 ?_
              refine lv_iload hx hb dX3_moveStep_183 (lv_at hl 2 rfl) ?_
              refine lv_iload hx hb dX3_moveStep_185 (lv_at hl 0 rfl) ?_
              refine lv_iadd hx hb dX3_moveStep_187 ?_
              obtain ⟨hq28, hrun⟩ := chk9 hrun
              refine va_iald hx hb hK hP 8 7 rfl rfl (ixb_in hq28) dX3_moveStep_188 ?_
              obtain ⟨o_29, hc_29, hrun⟩ := bnd9 hrun
              have hPc := hP.sub (ws' := (oX3 (p0a 0) p0a p0k p0n p0w)) [0, 1, 2, 3, 4, 5, 6, 7, 8, 9, 10] rfl
              have hDc := hD.sub (ws' := (oX3 (p0a 0) p0a p0k p0n p0w)) [0, 1, 2, 3, 4, 5, 6, 7, 8, 9, 10] (by decide) rfl
              have hKc := hK.sub (tys' := (tX3 p0k)) [0, 1, 2, 3, 4, 5, 6, 7, 8, 9] rfl
              have hFc := va_free (wc := (oX3 (p0a 0) p0a p0k p0n p0w)) hD hS hA [0, 1, 2, 3, 4, 5, 6, 7, 8, 9, 10] rfl
              refine va_callv (va_runV (As := [.int (p0w 16 (nn ((p2 * 320) + (p1w 4 (nn p3)))))]) (rest := []) ⟨hx, hb, hml, hown, hts⟩ (kX3_push l dC dI (p0a := (st0 (p0a 0) p0a)) (p0k := p0k) (p0n := p0n) (p0w := p0w) (p1 := (p0w 16 (nn ((p2 * 320) + (p1w 4 (nn p3)))))) (sz := _) (o := o_29) (hrun := hc_29)) (cwV 1 hts (gi_V qw935 qw936 qw937 qw888 (gi_z qw934)) rfl rfl rfl (by decide +kernel) ⟨Nat.le_of_ble_eq_true rfl, Nat.le_of_ble_eq_true rfl⟩) ⟨PRE.blind, va_recv hKc hPc (ci := 10) (q0 := 0) rfl rfl, PRE.of hE hS hFc hPc hKc hDc⟩ rfl rfl hl.1 rfl (lv_room (Nat.le_of_ble_eq_true rfl)) dX3_moveStep_189 ⟨(Nat.le_of_ble_eq_true rfl), (Nat.le_of_ble_eq_true rfl)⟩) hS (fun q _ h => hFc q h) hFc (fun u t H locs ht hvm hw hB hz1 hk1 hS => ?_)
              obtain ⟨hP, hD, hK⟩ := JOIN (wr := ((oX9 (p1a 0) p1a p1k p1n p1w) ++ (oX6 (p0a 5) p0_4a p0_4k p0_4w p0_4l))) hP hD hK [0, 1, 2, 3, 4, 5, 6, 7, 8, 9, 10] [11, 12, 13, 14, 15, 16, 17, 18, 19, 20, 21, 22, 23, 24, 25, 26, 27] [10, 11, 12, 13, 14, 15, 16, 17, 18, 19, 20, 21, 22, 23, 24] rfl rfl (by decide) (by decide) rfl hk1 hFc ht hvm hB
              have hP : va_P (dC, dI) cls ((oX3 (p0a 0) p0a p0k p0n o_29) ++ (oX9 (p1a 0) p1a p1k p1n p1w) ++ (oX6 (p0a 5) p0_4a p0_4k p0_4w p0_4l)) H := hP.sub [17, 18, 19, 20, 21, 22, 23, 24, 25, 26, 27, 0, 1, 2, 3, 4, 5, 6, 7, 8, 9, 10, 11, 12, 13, 14, 15, 16] rfl
              have hD : va_D A ((oX3 (p0a 0) p0a p0k p0n o_29) ++ (oX9 (p1a 0) p1a p1k p1n p1w) ++ (oX6 (p0a 5) p0_4a p0_4k p0_4w p0_4l)) := hD.sub [17, 18, 19, 20, 21, 22, 23, 24, 25, 26, 27, 0, 1, 2, 3, 4, 5, 6, 7, 8, 9, 10, 11, 12, 13, 14, 15, 16] (by decide) rfl
              have hK : va_K (dC, dI) cls ((tX3 p0k) ++ (tX9 p1k) ++ (tX6 p0_4k)) s := hK.sub [15, 16, 17, 18, 19, 20, 21, 22, 23, 24, 0, 1, 2, 3, 4, 5, 6, 7, 8, 9, 10, 11, 12, 13, 14] rfl
              refine lv_goto (tgt := 239) hx hb dX3_moveStep_192 (by decide) ?_
              exact J239 o_29 _ _ _ hrun hP hD hK hS (lv_sub hl [] rfl)
            · refine lv_icmp_ne (tgt := 195) hx hb dX3_moveStep_175 (by decide) (fun _ => ?_) (fun c => absurd c hc27)
              refine lv_aload_n hx hb dX3_moveStep_195 rfl (lv_at hl 3 rfl) ?_
              refine va_get (D := (dC, dI)) (ci := 10) (v := .ref (p0a 16)) (C := RX3) (T := TX3) (N := 20) hx hb hts i_X3 hown hK hP 0 rfl rfl 15 (by decide) (hts _ qw891) (fun _ h9 => h9) rfl dX3_moveStep_196 ?_
              refine lv_iload hx hb dX3_moveStep_199 (lv_at hl 2 rfl) ?_
              refine lv_aload_n hx hb dX3_moveStep_201 rfl (lv_at hl 4 rfl) ?_
              refine va_get (D := (dC, dI)) (ci := 3) (v := .ref (p1a 3)) (C := RX9) (T := TX9) (N := 6) hx hb hts i_X9 hown hK hP 11 rfl rfl 2 (by decide) (hts _ qw924) (fun _ h9 => h9) rfl dX3_moveStep_202 ?_
              refine lv_iload_n hx hb dX3_moveStep_205 rfl (lv_at hl 6 rfl) ?_
              obtain ⟨hq30, hrun⟩ := chk9 hrun
              refine va_iald hx hb hK hP 13 11 rfl rfl (ixb_in hq30) dX3_moveStep_206 ?_
              refine lv_iadd hx hb dX3_moveStep_207 ?_
              refine lv_aload_n hx hb dX3_moveStep_208 rfl (lv_at hl 3 rfl) ?_
              refine lv_iload hx hb dX3_moveStep_209 (lv_at hl 1 rfl) ?_
              refine lv_aload_n hx hb dX3_moveStep_211 rfl (lv_at hl 3 rfl) ?_
              refine va_get (D := (dC, dI)) (ci := 10) (v := .ref (p0a 16)) (C := RX3) (T := TX3) (N := 20) hx hb hts i_X3 hown hK hP 0 rfl rfl 15 (by decide) (hts _ qw891) (fun _ h9 => h9) rfl dX3_moveStep_212 ?_
              refine lv_iload hx hb dX3_moveStep_215 (lv_at hl 2 rfl) ?_
              refine lv_iload hx hb dX3_moveStep_217 (lv_at hl 0 rfl) ?_
              refine lv_iadd hx hb dX3_moveStep_219 ?_
              obtain ⟨hq31, hrun⟩ := chk9 hrun
              refine va_iald hx hb hK hP 8 7 rfl rfl (ixb_in hq31) dX3_moveStep_220 ?_
              refine lv_aload_n hx hb dX3_moveStep_221 rfl (lv_at hl 3 rfl) ?_
              refine va_get (D := (dC, dI)) (ci := 10) (v := .ref (p0a 16)) (C := RX3) (T := TX3) (N := 20) hx hb hts i_X3 hown hK hP 0 rfl rfl 15 (by decide) (hts _ qw891) (fun _ h9 => h9) rfl dX3_moveStep_222 ?_
              refine lv_iload hx hb dX3_moveStep_225 (lv_at hl 2 rfl) ?_
              refine lv_aload_n hx hb dX3_moveStep_227 rfl (lv_at hl 4 rfl) ?_
              refine va_get (D := (dC, dI)) (ci := 3) (v := .ref (p1a 5)) (C := RX9) (T := TX9) (N := 6) hx hb hts i_X9 hown hK hP 11 rfl rfl 4 (by decide) (hts _ qw968) (fun _ h9 => h9) rfl dX3_moveStep_228 ?_
              refine lv_iload_n hx hb dX3_moveStep_231 rfl (lv_at hl 6 rfl) ?_
              obtain ⟨hq32, hrun⟩ := chk9 hrun
              refine va_iald hx hb hK hP 15 13 rfl rfl (ixb_in hq32) dX3_moveStep_232 ?_
              refine lv_iadd hx hb dX3_moveStep_233 ?_
              obtain ⟨hq33, hrun⟩ := chk9 hrun
              refine va_iald hx hb hK hP 8 7 rfl rfl (ixb_in hq33) dX3_moveStep_234 ?_
              obtain ⟨o_34, hc_34, hrun⟩ := bnd9 hrun
              have hPc := hP.sub (ws' := (oX3 (p0a 0) p0a p0k p0n p0w)) [0, 1, 2, 3, 4, 5, 6, 7, 8, 9, 10] rfl
              have hDc := hD.sub (ws' := (oX3 (p0a 0) p0a p0k p0n p0w)) [0, 1, 2, 3, 4, 5, 6, 7, 8, 9, 10] (by decide) rfl
              have hKc := hK.sub (tys' := (tX3 p0k)) [0, 1, 2, 3, 4, 5, 6, 7, 8, 9] rfl
              have hFc := va_free (wc := (oX3 (p0a 0) p0a p0k p0n p0w)) hD hS hA [0, 1, 2, 3, 4, 5, 6, 7, 8, 9, 10] rfl
              refine va_calli (va_runV (As := [.int (p1w 2 (nn p3)), .int (p0w 16 (nn ((p2 * 320) + (p1w 4 (nn p3))))), .int (p0w 16 (nn ((p2 * 320) + (p1w 5 (nn p3)))))]) (rest := [.int ((p2 * 320) + (p1w 3 (nn p3))), .ref (p0a 16)]) ⟨hx, hb, hml, hown, hts⟩ (kX3_operate l dC dI (p0a := (st0 (p0a 0) p0a)) (p0k := p0k) (p0n := p0n) (p0w := p0w) (p1 := (p1w 2 (nn p3))) (p2 := (p0w 16 (nn ((p2 * 320) + (p1w 4 (nn p3)))))) (p3 := (p0w 16 (nn ((p2 * 320) + (p1w 5 (nn p3)))))) (sz := _) (o := o_34) (hrun := hc_34)) (cwV 3 hts (gi_V qw963 qw964 qw965 qw888 (gi_z qw962)) rfl rfl rfl (by decide +kernel) ⟨Nat.le_of_ble_eq_true rfl, Nat.le_of_ble_eq_true rfl⟩) ⟨PRE.blind, va_recv hKc hPc (ci := 10) (q0 := 0) rfl rfl, PRE.of hE hS hFc hPc hKc hDc⟩ rfl rfl hl.1 rfl (lv_room (Nat.le_of_ble_eq_true rfl)) dX3_moveStep_235 ⟨(Nat.le_of_ble_eq_true rfl), (Nat.le_of_ble_eq_true rfl)⟩) hS (fun q _ h => hFc q h) hFc (fun r35 u t H locs ht hvm hw hB hz1 hk1 hS => ?_)
              obtain ⟨hP, hD, hK⟩ := JOIN (wr := ((oX9 (p1a 0) p1a p1k p1n p1w) ++ (oX6 (p0a 5) p0_4a p0_4k p0_4w p0_4l))) hP hD hK [0, 1, 2, 3, 4, 5, 6, 7, 8, 9, 10] [11, 12, 13, 14, 15, 16, 17, 18, 19, 20, 21, 22, 23, 24, 25, 26, 27] [10, 11, 12, 13, 14, 15, 16, 17, 18, 19, 20, 21, 22, 23, 24] rfl rfl (by decide) (by decide) rfl hk1 hFc ht hvm hB
              have hP : va_P (dC, dI) cls ((oX3 (p0a 0) p0a p0k p0n (o_34.2)) ++ (oX9 (p1a 0) p1a p1k p1n p1w) ++ (oX6 (p0a 5) p0_4a p0_4k p0_4w p0_4l)) H := hP.sub [17, 18, 19, 20, 21, 22, 23, 24, 25, 26, 27, 0, 1, 2, 3, 4, 5, 6, 7, 8, 9, 10, 11, 12, 13, 14, 15, 16] rfl
              have hD : va_D A ((oX3 (p0a 0) p0a p0k p0n (o_34.2)) ++ (oX9 (p1a 0) p1a p1k p1n p1w) ++ (oX6 (p0a 5) p0_4a p0_4k p0_4w p0_4l)) := hD.sub [17, 18, 19, 20, 21, 22, 23, 24, 25, 26, 27, 0, 1, 2, 3, 4, 5, 6, 7, 8, 9, 10, 11, 12, 13, 14, 15, 16] (by decide) rfl
              have hK : va_K (dC, dI) cls ((tX3 p0k) ++ (tX9 p1k) ++ (tX6 p0_4k)) s := hK.sub [15, 16, 17, 18, 19, 20, 21, 22, 23, 24, 0, 1, 2, 3, 4, 5, 6, 7, 8, 9, 10, 11, 12, 13, 14] rfl
              obtain rfl : r35 = (o_34.1) := hw
              obtain ⟨hq36, hrun⟩ := chk9 hrun
              refine va_iast hx hb hK hP hD hS 8 7 rfl rfl (ixb_in hq36) dX3_moveStep_238 (fun H locs hP hD hS => ?_)
              have hP : va_P (dC, dI) cls ((oX3 (p0a 0) p0a p0k p0n (upw (o_34.2) 16 (nn ((p2 * 320) + (p1w 3 (nn p3)))) (o_34.1))) ++ (oX9 (p1a 0) p1a p1k p1n p1w) ++ (oX6 (p0a 5) p0_4a p0_4k p0_4w p0_4l)) H := hP
              have hD : va_D A ((oX3 (p0a 0) p0a p0k p0n (upw (o_34.2) 16 (nn ((p2 * 320) + (p1w 3 (nn p3)))) (o_34.1))) ++ (oX9 (p1a 0) p1a p1k p1n p1w) ++ (oX6 (p0a 5) p0_4a p0_4k p0_4w p0_4l)) := hD
              obtain ⟨w37, ew37, hrun⟩ := let9 hrun
              rw [← ew37] at hP hD
              exact J239 w37 _ _ _ hrun hP hD hK hS (lv_sub hl [] rfl)
def fX3_moveLine_J32 (p0w_32 : ST) : Option ST := some p0w_32
def fX3_moveLine (p0n : Nat → Nat) (p0w : ST) (p1n : Nat → Nat) (p1w : ST) (p2 : Int32) (p3 : Int32) (p0_4w : ST) : Option ST := (if ixb p3 (p1n 2) = true then (if (p1w 2 (nn p3)) = 20 then (if ixb p3 (p1n 4) = true then ((fX3_enter p0n p0w 2 (p1w 4 (nn p3)) p0_4w).bind fun (o_4 : ST) => (fX3_moveLine_J32 o_4)) else none) else ((fX3_moveStep p0n p0w p1n p1w p2 p3 p0_4w).bind fun (o_5 : ST) => (fX3_moveLine_J32 o_5))) else none)
set_option maxHeartbeats 16000000 in
set_option maxRecDepth 100000 in
theorem kX3_moveLine {zs : Nat × Nat} (l : Launch) (dC : Nat → ClassId) (dI : Nat → Nat → Nat) (p0a : Nat → Nat) (p0k : Nat → ClassId) (p0n : Nat → Nat) (p0w : ST) (p1a : Nat → Nat) (p1k : Nat → ClassId) (p1n : Nat → Nat) (p1w : ST) (p2 : Int32) (p3 : Int32) (p0_4a : Nat → Nat) (p0_4k : Nat → ClassId) (p0_4w : ST) (p0_4l : SL) (sz : Nat) (o : ST) (hrun : fX3_moveLine p0n p0w p1n p1w p2 p3 p0_4w = some o) : Met l yX3_moveLine (wz yX3_moveLine cX3_moveLine 4 (Option.none : Option Jvm.ClassFile.FieldType)) ({ frames := 4, cells := 0, slots := 0, locals := 97 } : Room) (va_Pc [.ref (p0a 0), .ref (p1a 0), .int p2, .int p3] (PRE zs dC dI ((oX3 (p0a 0) p0a p0k p0n p0w) ++ (oX9 (p1a 0) p1a p1k p1n p1w) ++ (oX6 (p0a 5) p0_4a p0_4k p0_4w p0_4l)) ((tX3 p0k) ++ (tX9 p1k) ++ (tX6 p0_4k)) sz)) (va_Qv (fun (_ : Unit) => True) (fun _ t => POST dC dI ((oX3 (p0a 0) p0a p0k p0n o) ++ (oX9 (p1a 0) p1a p1k p1n p1w) ++ (oX6 (p0a 5) p0_4a p0_4k p0_4w p0_4l)) ((tX3 p0k) ++ (tX9 p1k) ++ (tX6 p0_4k)) (va_A ((oX3 (p0a 0) p0a p0k p0n p0w) ++ (oX9 (p1a 0) p1a p1k p1n p1w) ++ (oX6 (p0a 5) p0_4a p0_4k p0_4w p0_4l)) sz) t) (va_A ((oX3 (p0a 0) p0a p0k p0n p0w) ++ (oX9 (p1a 0) p1a p1k p1n p1w) ++ (oX6 (p0a 5) p0_4a p0_4k p0_4w p0_4l)) sz)) 0 0 (va_A ((oX3 (p0a 0) p0a p0k p0n p0w) ++ (oX9 (p1a 0) p1a p1k p1n p1w) ++ (oX6 (p0a 5) p0_4a p0_4k p0_4w p0_4l)) sz) := by
  refine Met.ofW (cc := cX3_moveLine) (maxL := 4) (ret := (Option.none : Option Jvm.ClassFile.FieldType)) (by decide) rfl ?_
  intro p e s m args below meth c s₁ B hml hv
  obtain ⟨rfl, hsz, hP, hK, hD0, hE⟩ := hv
  have hx := B.exec
  have hb := B.bytes
  have hr := B.returns
  have hts0 := atoms_spec (ws := wz yX3_moveLine cX3_moveLine 4 (Option.none : Option Jvm.ClassFile.FieldType)) B.pre
  have hts : ∀ w ∈ gw, w.before _ s = true := fun w h => hts0 w (List.mem_cons_of_mem _ h)
  have hown : s.vm.findClass RX3 = some m.cls := findClass_of_methodNamed B.named
  have hlocks := B.notSynchronized
  subst hsz
  have hD := hD0.self (sz := s.heap.size)
  refine gQ9 ?_
  intro Q hQ
  generalize hAe : va_A ((oX3 (p0a 0) p0a p0k p0n p0w) ++ (oX9 (p1a 0) p1a p1k p1n p1w) ++ (oX6 (p0a 5) p0_4a p0_4k p0_4w p0_4l)) s.heap.size = A at hD hE hQ
  have hA : ∀ q : Nat, s.heap.size ≤ q → A q := fun q h => by rw [← hAe]; exact Or.inr h
  have hS : va_S A s.heap s.heap [] := va_S.rf
  have hP : va_P (dC, dI) cls ((oX3 (p0a 0) p0a p0k p0n p0w) ++ (oX9 (p1a 0) p1a p1k p1n p1w) ++ (oX6 (p0a 5) p0_4a p0_4k p0_4w p0_4l)) s.heap := hP
  have hl := lv_entry ([.ref (p0a 0), .ref (p1a 0), .int p2, .int p3]) (n := 4) (Nat.le_of_ble_eq_true rfl)
  rw [lg_entry_eq]
  generalize (lg_sl ([.ref (p0a 0), .ref (p1a 0), .int p2, .int p3]) ++ List.replicate (4 - (lg_sl ([.ref (p0a 0), .ref (p1a 0), .int p2, .int p3])).length) Slot.unset).toArray = ls at hl ⊢
  have hl : lv_has ls 4 [(0, .ref (p0a 0)), (1, .ref (p1a 0)), (2, .int p2), (3, .int p3)] := hl
  obtain ⟨H, hHe⟩ : ∃ H, H = s.heap := ⟨_, rfl⟩
  obtain ⟨locs, hle⟩ : ∃ locs : List Loc, locs = [] := ⟨_, rfl⟩
  rw [← hHe] at hP
  have hS : va_S A s.heap H locs := by rw [hHe, hle]; exact hS
  show W p l e ({ frames := 4, cells := 0, slots := 0, locals := 97 } : Room) s m ([.ref (p0a 0), .ref (p1a 0), .int p2, .int p3] : List Value).toArray below meth c s.heap [] 0 0 Q (F0 m 0 ls [])
  rw [← hle]
  refine wH9 hHe ?_
  unfold fX3_moveLine at hrun
  refine lv_aload_n hx hb dX3_moveLine_0 rfl (lv_at hl 1 rfl) ?_
  refine va_get (D := (dC, dI)) (ci := 3) (v := .ref (p1a 2)) (C := RX9) (T := TX9) (N := 6) hx hb hts i_X9 hown hK hP 11 rfl rfl 1 (by decide) (hts _ qw966) (fun _ h9 => h9) rfl dX3_moveLine_1 ?_
  refine lv_iload_n hx hb dX3_moveLine_4 rfl (lv_at hl 3 rfl) ?_
  obtain ⟨hq1, hrun⟩ := chk9 hrun
  refine va_iald hx hb hK hP 12 10 rfl rfl (ixb_in hq1) dX3_moveLine_5 ?_
  refine lv_bipush (v := 20) hx hb dX3_moveLine_6 (by decide) ?_
  have J32 : ∀ (p0w_32 : ST) (H : Heap) (locs : List Loc) (ls : Array Slot), (fX3_moveLine_J32 p0w_32) = some o → va_P (dC, dI) cls ((oX3 (p0a 0) p0a p0k p0n p0w_32) ++ (oX9 (p1a 0) p1a p1k p1n p1w) ++ (oX6 (p0a 5) p0_4a p0_4k p0_4w p0_4l)) H → va_D A ((oX3 (p0a 0) p0a p0k p0n p0w_32) ++ (oX9 (p1a 0) p1a p1k p1n p1w) ++ (oX6 (p0a 5) p0_4a p0_4k p0_4w p0_4l)) → va_K (dC, dI) cls ((tX3 p0k) ++ (tX9 p1k) ++ (tX6 p0_4k)) s → va_S A s.heap H locs → lv_has ls 4 [] → W p l e ({ frames := 4, cells := 0, slots := 0, locals := 97 } : Room) s m ([.ref (p0a 0), .ref (p1a 0), .int p2, .int p3] : List Value).toArray below meth c H locs 0 0 Q (F0 m 32 ls []) := by
    intro p0w_32 H locs ls hrun hP hD hK hS hl 
    unfold fX3_moveLine_J32 at hrun
    have ho9 : p0w_32 = o := Option.some.inj hrun
    have hP9 : va_P (dC, dI) cls ((oX3 (p0a 0) p0a p0k p0n o) ++ (oX9 (p1a 0) p1a p1k p1n p1w) ++ (oX6 (p0a 5) p0_4a p0_4k p0_4w p0_4l)) H := by first | exact hP | (rw [← ho9]; exact hP)
    have hD9 : va_D A ((oX3 (p0a 0) p0a p0k p0n o) ++ (oX9 (p1a 0) p1a p1k p1n p1w) ++ (oX6 (p0a 5) p0_4a p0_4k p0_4w p0_4l)) := by first | exact hD | (rw [← ho9]; exact hD)
    subst hQ
    exact W.vret hx hb hr (fun t ht hW => ⟨⟨(), rfl, trivial, ⟨by rw [ht]; exact hP9, va_K.moved hW.alike hK, hD9⟩⟩, hS.F ht⟩) hS.2.2 dX3_moveLine_32
  rcases br9 hrun with ⟨hc2, hrun⟩ | ⟨hc2, hrun⟩
  · refine lv_icmp_ne (tgt := 25) hx hb dX3_moveLine_8 (by decide) (fun c => absurd hc2 c) (fun _ => ?_)
    refine lv_aload_n hx hb dX3_moveLine_11 rfl (lv_at hl 0 rfl) ?_
    refine lv_iconst (v := 2) hx hb dX3_moveLine_12 (by decide) ?_
    refine lv_aload_n hx hb dX3_moveLine_13 rfl (lv_at hl 1 rfl) ?_
    refine va_get (D := (dC, dI)) (ci := 3) (v := .ref (p1a 4)) (C := RX9) (T := TX9) (N := 6) hx hb hts i_X9 hown hK hP 11 rfl rfl 3 (by decide) (hts _ qw967) (fun _ h9 => h9) rfl dX3_moveLine_14 ?_
    refine lv_iload_n hx hb dX3_moveLine_17 rfl (lv_at hl 3 rfl) ?_
    obtain ⟨hq3, hrun⟩ := chk9 hrun
    refine va_iald hx hb hK hP 14 12 rfl rfl (ixb_in hq3) dX3_moveLine_18 ?_
    obtain ⟨o_4, hc_4, hrun⟩ := bnd9 hrun
    have hPc := hP.sub (ws' := ((oX3 (p0a 0) p0a p0k p0n p0w) ++ (oX6 (p0a 5) p0_4a p0_4k p0_4w p0_4l))) [0, 1, 2, 3, 4, 5, 6, 7, 8, 9, 10, 17, 18, 19, 20, 21, 22, 23, 24, 25, 26, 27] rfl
    have hDc := hD.sub (ws' := ((oX3 (p0a 0) p0a p0k p0n p0w) ++ (oX6 (p0a 5) p0_4a p0_4k p0_4w p0_4l))) [0, 1, 2, 3, 4, 5, 6, 7, 8, 9, 10, 17, 18, 19, 20, 21, 22, 23, 24, 25, 26, 27] (by decide) rfl
    have hKc := hK.sub (tys' := ((tX3 p0k) ++ (tX6 p0_4k))) [0, 1, 2, 3, 4, 5, 6, 7, 8, 9, 15, 16, 17, 18, 19, 20, 21, 22, 23, 24] rfl
    have hFc := va_free (wc := ((oX3 (p0a 0) p0a p0k p0n p0w) ++ (oX6 (p0a 5) p0_4a p0_4k p0_4w p0_4l))) hD hS hA [0, 1, 2, 3, 4, 5, 6, 7, 8, 9, 10, 17, 18, 19, 20, 21, 22, 23, 24, 25, 26, 27] rfl
    refine va_callv (va_runV (As := [.int 2, .int (p1w 4 (nn p3))]) (rest := []) ⟨hx, hb, hml, hown, hts⟩ (kX3_enter l dC dI (p0a := (st0 (p0a 0) p0a)) (p0k := p0k) (p0n := p0n) (p0w := p0w) (p1 := 2) (p2 := (p1w 4 (nn p3))) (p0_4a := p0_4a) (p0_4k := p0_4k) (p0_4w := p0_4w) (p0_4l := p0_4l) (sz := _) (o := o_4) (hrun := hc_4)) (cwV 2 hts (gi_V qw951 qw952 qw953 qw888 (gi_z qw950)) rfl rfl rfl (by decide +kernel) ⟨Nat.le_of_ble_eq_true rfl, Nat.le_of_ble_eq_true rfl⟩) ⟨PRE.blind, va_recv hKc hPc (ci := 10) (q0 := 0) rfl rfl, PRE.of hE hS hFc hPc hKc hDc⟩ rfl rfl hl.1 rfl (lv_room (Nat.le_of_ble_eq_true rfl)) dX3_moveLine_19 ⟨(Nat.le_of_ble_eq_true rfl), (Nat.le_of_ble_eq_true rfl)⟩) hS (fun q _ h => hFc q h) hFc (fun u t H locs ht hvm hw hB hz1 hk1 hS => ?_)
    obtain ⟨hP, hD, hK⟩ := JOIN (wr := (oX9 (p1a 0) p1a p1k p1n p1w)) hP hD hK [0, 1, 2, 3, 4, 5, 6, 7, 8, 9, 10, 17, 18, 19, 20, 21, 22, 23, 24, 25, 26, 27] [11, 12, 13, 14, 15, 16] [10, 11, 12, 13, 14] rfl rfl (by decide) (by decide) rfl hk1 hFc ht hvm hB
    have hP : va_P (dC, dI) cls ((oX3 (p0a 0) p0a p0k p0n o_4) ++ (oX9 (p1a 0) p1a p1k p1n p1w) ++ (oX6 (p0a 5) p0_4a p0_4k p0_4w p0_4l)) H := hP.sub [6, 7, 8, 9, 10, 11, 12, 13, 14, 15, 16, 0, 1, 2, 3, 4, 5, 17, 18, 19, 20, 21, 22, 23, 24, 25, 26, 27] rfl
    have hD : va_D A ((oX3 (p0a 0) p0a p0k p0n o_4) ++ (oX9 (p1a 0) p1a p1k p1n p1w) ++ (oX6 (p0a 5) p0_4a p0_4k p0_4w p0_4l)) := hD.sub [6, 7, 8, 9, 10, 11, 12, 13, 14, 15, 16, 0, 1, 2, 3, 4, 5, 17, 18, 19, 20, 21, 22, 23, 24, 25, 26, 27] (by decide) rfl
    have hK : va_K (dC, dI) cls ((tX3 p0k) ++ (tX9 p1k) ++ (tX6 p0_4k)) s := hK.sub [5, 6, 7, 8, 9, 10, 11, 12, 13, 14, 0, 1, 2, 3, 4, 15, 16, 17, 18, 19, 20, 21, 22, 23, 24] rfl
    refine lv_goto (tgt := 32) hx hb dX3_moveLine_22 (by decide) ?_
    exact J32 o_4 _ _ _ hrun hP hD hK hS (lv_sub hl [] rfl)
  · refine lv_icmp_ne (tgt := 25) hx hb dX3_moveLine_8 (by decide) (fun _ => ?_) (fun c => absurd c hc2)
    refine lv_aload_n hx hb dX3_moveLine_25 rfl (lv_at hl 0 rfl) ?_
    refine lv_aload_n hx hb dX3_moveLine_26 rfl (lv_at hl 1 rfl) ?_
    refine lv_iload_n hx hb dX3_moveLine_27 rfl (lv_at hl 2 rfl) ?_
    refine lv_iload_n hx hb dX3_moveLine_28 rfl (lv_at hl 3 rfl) ?_
    obtain ⟨o_5, hc_5, hrun⟩ := bnd9 hrun
    have hPc := hP.sub (ws' := ((oX3 (p0a 0) p0a p0k p0n p0w) ++ (oX9 (p1a 0) p1a p1k p1n p1w) ++ (oX6 (p0a 5) p0_4a p0_4k p0_4w p0_4l))) [0, 1, 2, 3, 4, 5, 6, 7, 8, 9, 10, 11, 12, 13, 14, 15, 16, 17, 18, 19, 20, 21, 22, 23, 24, 25, 26, 27] rfl
    have hDc := hD.sub (ws' := ((oX3 (p0a 0) p0a p0k p0n p0w) ++ (oX9 (p1a 0) p1a p1k p1n p1w) ++ (oX6 (p0a 5) p0_4a p0_4k p0_4w p0_4l))) [0, 1, 2, 3, 4, 5, 6, 7, 8, 9, 10, 11, 12, 13, 14, 15, 16, 17, 18, 19, 20, 21, 22, 23, 24, 25, 26, 27] (by decide) rfl
    have hKc := hK.sub (tys' := ((tX3 p0k) ++ (tX9 p1k) ++ (tX6 p0_4k))) [0, 1, 2, 3, 4, 5, 6, 7, 8, 9, 10, 11, 12, 13, 14, 15, 16, 17, 18, 19, 20, 21, 22, 23, 24] rfl
    have hFc := va_free (wc := ((oX3 (p0a 0) p0a p0k p0n p0w) ++ (oX9 (p1a 0) p1a p1k p1n p1w) ++ (oX6 (p0a 5) p0_4a p0_4k p0_4w p0_4l))) hD hS hA [0, 1, 2, 3, 4, 5, 6, 7, 8, 9, 10, 11, 12, 13, 14, 15, 16, 17, 18, 19, 20, 21, 22, 23, 24, 25, 26, 27] rfl
    refine va_callv (va_runV (As := [.ref (p1a 0), .int p2, .int p3]) (rest := []) ⟨hx, hb, hml, hown, hts⟩ (kX3_moveStep l dC dI (p0a := (st0 (p0a 0) p0a)) (p0k := p0k) (p0n := p0n) (p0w := p0w) (p1a := (st0 (p1a 0) p1a)) (p1k := p1k) (p1n := p1n) (p1w := p1w) (p2 := p2) (p3 := p3) (p0_4a := p0_4a) (p0_4k := p0_4k) (p0_4w := p0_4w) (p0_4l := p0_4l) (sz := _) (o := o_5) (hrun := hc_5)) (cwV 3 hts (gi_V qw970 qw971 qw972 qw888 (gi_z qw969)) rfl rfl rfl (by decide +kernel) ⟨Nat.le_of_ble_eq_true rfl, Nat.le_of_ble_eq_true rfl⟩) ⟨PRE.blind, va_recv hKc hPc (ci := 10) (q0 := 0) rfl rfl, PRE.of hE hS hFc hPc hKc hDc⟩ rfl rfl hl.1 rfl (lv_room (Nat.le_of_ble_eq_true rfl)) dX3_moveLine_29 ⟨(Nat.le_of_ble_eq_true rfl), (Nat.le_of_ble_eq_true rfl)⟩) hS (fun q _ h => hFc q h) hFc (fun u t H locs ht hvm hw hB hz1 hk1 hS => ?_)
    obtain ⟨hP, hD, hK⟩ := JOIN (wr := ([] : va_W)) hP hD hK [0, 1, 2, 3, 4, 5, 6, 7, 8, 9, 10, 11, 12, 13, 14, 15, 16, 17, 18, 19, 20, 21, 22, 23, 24, 25, 26, 27] [] [] rfl rfl (by decide) (by decide) rfl hk1 hFc ht hvm hB
    have hP : va_P (dC, dI) cls ((oX3 (p0a 0) p0a p0k p0n o_5) ++ (oX9 (p1a 0) p1a p1k p1n p1w) ++ (oX6 (p0a 5) p0_4a p0_4k p0_4w p0_4l)) H := hP.sub [0, 1, 2, 3, 4, 5, 6, 7, 8, 9, 10, 11, 12, 13, 14, 15, 16, 17, 18, 19, 20, 21, 22, 23, 24, 25, 26, 27] rfl
    have hD : va_D A ((oX3 (p0a 0) p0a p0k p0n o_5) ++ (oX9 (p1a 0) p1a p1k p1n p1w) ++ (oX6 (p0a 5) p0_4a p0_4k p0_4w p0_4l)) := hD.sub [0, 1, 2, 3, 4, 5, 6, 7, 8, 9, 10, 11, 12, 13, 14, 15, 16, 17, 18, 19, 20, 21, 22, 23, 24, 25, 26, 27] (by decide) rfl
    have hK : va_K (dC, dI) cls ((tX3 p0k) ++ (tX9 p1k) ++ (tX6 p0_4k)) s := hK.sub [0, 1, 2, 3, 4, 5, 6, 7, 8, 9, 10, 11, 12, 13, 14, 15, 16, 17, 18, 19, 20, 21, 22, 23, 24] rfl
    exact J32 o_5 _ _ _ hrun hP hD hK hS (lv_sub hl [] rfl)
def fX3_save (p0w : ST) (p1n : Nat) (p1f : RI) : Option RI := (if ixb 0 p1n = true then (lt9 (upd p1f (nn 0) (p0w 0 0)) fun (f2 : RI) => (if ixb 1 p1n = true then (lt9 (upd f2 (nn 1) (p0w 0 1)) fun (f4 : RI) => (if ixb 2 p1n = true then (lt9 (upd f4 (nn 2) (p0w 0 2)) fun (f6 : RI) => (if cpk 0 3 16 16 p1n = true then (lt9 (va_cpy (p0w 4) f6 (nn 0) (nn 3) (nn 16)) fun (f8 : RI) => some f8) else none)) else none)) else none)) else none)
set_option maxHeartbeats 16000000 in
set_option maxRecDepth 100000 in
theorem kX3_save {zs : Nat × Nat} (l : Launch) (dC : Nat → ClassId) (dI : Nat → Nat → Nat) (p0a : Nat → Nat) (p0k : Nat → ClassId) (p0n : Nat → Nat) (p0w : ST) (p1a : Nat) (p1k : ClassId) (p1n : Nat) (p1f : RI) (sz : Nat) (o : RI) (hrun : fX3_save p0w p1n p1f = some o) : Met l yX3_save (wz yX3_save cX3_save 2 (Option.none : Option Jvm.ClassFile.FieldType)) ({ frames := 1, cells := 0, slots := 0, locals := 40 } : Room) (va_Pc [.ref (p0a 0), .ref p1a] (PRE zs dC dI ((oX3 (p0a 0) p0a p0k p0n p0w) ++ [(p1a, .inl (p1k, p1n, .inl p1f))]) ((tX3 p0k) ++ [(p1k, .int)]) sz)) (va_Qv (fun (_ : Unit) => True) (fun _ t => POST dC dI ((oX3 (p0a 0) p0a p0k p0n p0w) ++ [(p1a, .inl (p1k, p1n, .inl o))]) ((tX3 p0k) ++ [(p1k, .int)]) (va_A ((oX3 (p0a 0) p0a p0k p0n p0w) ++ [(p1a, .inl (p1k, p1n, .inl p1f))]) sz) t) (va_A ((oX3 (p0a 0) p0a p0k p0n p0w) ++ [(p1a, .inl (p1k, p1n, .inl p1f))]) sz)) 0 0 (va_A ((oX3 (p0a 0) p0a p0k p0n p0w) ++ [(p1a, .inl (p1k, p1n, .inl p1f))]) sz) := by
  refine Met.ofW (cc := cX3_save) (maxL := 2) (ret := (Option.none : Option Jvm.ClassFile.FieldType)) (by decide) rfl ?_
  intro p e s m args below meth c s₁ B hml hv
  obtain ⟨rfl, hsz, hP, hK, hD0, hE⟩ := hv
  have hx := B.exec
  have hb := B.bytes
  have hr := B.returns
  have hts0 := atoms_spec (ws := wz yX3_save cX3_save 2 (Option.none : Option Jvm.ClassFile.FieldType)) B.pre
  have hts : ∀ w ∈ gw, w.before _ s = true := fun w h => hts0 w (List.mem_cons_of_mem _ h)
  have hown : s.vm.findClass RX3 = some m.cls := findClass_of_methodNamed B.named
  have hlocks := B.notSynchronized
  subst hsz
  have hD := hD0.self (sz := s.heap.size)
  refine gQ9 ?_
  intro Q hQ
  generalize hAe : va_A ((oX3 (p0a 0) p0a p0k p0n p0w) ++ [(p1a, .inl (p1k, p1n, .inl p1f))]) s.heap.size = A at hD hE hQ
  have hA : ∀ q : Nat, s.heap.size ≤ q → A q := fun q h => by rw [← hAe]; exact Or.inr h
  have hS : va_S A s.heap s.heap [] := va_S.rf
  have hP : va_P (dC, dI) cls ((oX3 (p0a 0) p0a p0k p0n p0w) ++ [(p1a, .inl (p1k, p1n, .inl p1f))]) s.heap := hP
  have hl := lv_entry ([.ref (p0a 0), .ref p1a]) (n := 2) (Nat.le_of_ble_eq_true rfl)
  rw [lg_entry_eq]
  generalize (lg_sl ([.ref (p0a 0), .ref p1a]) ++ List.replicate (2 - (lg_sl ([.ref (p0a 0), .ref p1a])).length) Slot.unset).toArray = ls at hl ⊢
  have hl : lv_has ls 2 [(0, .ref (p0a 0)), (1, .ref p1a)] := hl
  obtain ⟨H, hHe⟩ : ∃ H, H = s.heap := ⟨_, rfl⟩
  obtain ⟨locs, hle⟩ : ∃ locs : List Loc, locs = [] := ⟨_, rfl⟩
  rw [← hHe] at hP
  have hS : va_S A s.heap H locs := by rw [hHe, hle]; exact hS
  show W p l e ({ frames := 1, cells := 0, slots := 0, locals := 40 } : Room) s m ([.ref (p0a 0), .ref p1a] : List Value).toArray below meth c s.heap [] 0 0 Q (F0 m 0 ls [])
  rw [← hle]
  refine wH9 hHe ?_
  unfold fX3_save at hrun
  refine lv_aload_n hx hb dX3_save_0 rfl (lv_at hl 1 rfl) ?_
  refine lv_iconst (v := 0) hx hb dX3_save_1 (by decide) ?_
  refine lv_aload_n hx hb dX3_save_2 rfl (lv_at hl 0 rfl) ?_
  refine va_get (D := (dC, dI)) (ci := 10) (v := .int (p0w 0 0)) (C := RX3) (T := TX3) (N := 20) hx hb hts i_X3 hown hK hP 0 rfl rfl 0 (by decide) (hts _ qw877) (fun _ h9 => h9) rfl dX3_save_3 ?_
  obtain ⟨hq1, hrun⟩ := chk9 hrun
  refine va_iast hx hb hK hP hD hS 11 10 rfl rfl (ixb_in hq1) dX3_save_6 (fun H locs hP hD hS => ?_)
  have hP : va_P (dC, dI) cls ((oX3 (p0a 0) p0a p0k p0n p0w) ++ [(p1a, .inl (p1k, p1n, .inl (upd p1f (nn 0) (p0w 0 0))))]) H := hP
  have hD : va_D A ((oX3 (p0a 0) p0a p0k p0n p0w) ++ [(p1a, .inl (p1k, p1n, .inl (upd p1f (nn 0) (p0w 0 0))))]) := hD
  obtain ⟨f2, ef2, hrun⟩ := let9 hrun
  rw [← ef2] at hP hD
  refine lv_aload_n hx hb dX3_save_7 rfl (lv_at hl 1 rfl) ?_
  refine lv_iconst (v := 1) hx hb dX3_save_8 (by decide) ?_
  refine lv_aload_n hx hb dX3_save_9 rfl (lv_at hl 0 rfl) ?_
  refine va_get (D := (dC, dI)) (ci := 10) (v := .int (p0w 0 1)) (C := RX3) (T := TX3) (N := 20) hx hb hts i_X3 hown hK hP 0 rfl rfl 1 (by decide) (hts _ qw878) (fun _ h9 => h9) rfl dX3_save_10 ?_
  obtain ⟨hq3, hrun⟩ := chk9 hrun
  refine va_iast hx hb hK hP hD hS 11 10 rfl rfl (ixb_in hq3) dX3_save_13 (fun H locs hP hD hS => ?_)
  have hP : va_P (dC, dI) cls ((oX3 (p0a 0) p0a p0k p0n p0w) ++ [(p1a, .inl (p1k, p1n, .inl (upd f2 (nn 1) (p0w 0 1))))]) H := hP
  have hD : va_D A ((oX3 (p0a 0) p0a p0k p0n p0w) ++ [(p1a, .inl (p1k, p1n, .inl (upd f2 (nn 1) (p0w 0 1))))]) := hD
  obtain ⟨f4, ef4, hrun⟩ := let9 hrun
  rw [← ef4] at hP hD
  refine lv_aload_n hx hb dX3_save_14 rfl (lv_at hl 1 rfl) ?_
  refine lv_iconst (v := 2) hx hb dX3_save_15 (by decide) ?_
  refine lv_aload_n hx hb dX3_save_16 rfl (lv_at hl 0 rfl) ?_
  refine va_get (D := (dC, dI)) (ci := 10) (v := .int (p0w 0 2)) (C := RX3) (T := TX3) (N := 20) hx hb hts i_X3 hown hK hP 0 rfl rfl 2 (by decide) (hts _ qw879) (fun _ h9 => h9) rfl dX3_save_17 ?_
  obtain ⟨hq5, hrun⟩ := chk9 hrun
  refine va_iast hx hb hK hP hD hS 11 10 rfl rfl (ixb_in hq5) dX3_save_20 (fun H locs hP hD hS => ?_)
  have hP : va_P (dC, dI) cls ((oX3 (p0a 0) p0a p0k p0n p0w) ++ [(p1a, .inl (p1k, p1n, .inl (upd f4 (nn 2) (p0w 0 2))))]) H := hP
  have hD : va_D A ((oX3 (p0a 0) p0a p0k p0n p0w) ++ [(p1a, .inl (p1k, p1n, .inl (upd f4 (nn 2) (p0w 0 2))))]) := hD
  obtain ⟨f6, ef6, hrun⟩ := let9 hrun
  rw [← ef6] at hP hD
  refine lv_aload_n hx hb dX3_save_21 rfl (lv_at hl 0 rfl) ?_
  refine va_get (D := (dC, dI)) (ci := 10) (v := .ref (p0a 4)) (C := RX3) (T := TX3) (N := 20) hx hb hts i_X3 hown hK hP 0 rfl rfl 3 (by decide) (hts _ qw880) (fun _ h9 => h9) rfl dX3_save_22 ?_
  refine lv_iconst (v := 0) hx hb dX3_save_25 (by decide) ?_
  refine lv_aload_n hx hb dX3_save_26 rfl (lv_at hl 1 rfl) ?_
  refine lv_iconst (v := 3) hx hb dX3_save_27 (by decide) ?_
  refine lv_bipush (v := 16) hx hb dX3_save_28 (by decide) ?_
  obtain ⟨hq7, hrun⟩ := chk9 hrun
  refine va_copyi (ty := .int) (sp := 0) (dp := 3) (n := 16) hx hb (hml.trans hl.1.symm) hown (hts _ qw881) (hts _ qw103) (hts _ qw104) (hts _ qw105) hK hP hD hS 1 11 0 10 rfl rfl rfl rfl rfl (cpk_1 hq7) (cpk_2 hq7) (cpk_3 hq7) (cpk_4 hq7) (cpk_5 hq7) (fun _ _ => rfl) (Nat.le_of_ble_eq_true rfl) (Nat.le_of_ble_eq_true rfl) dX3_save_30 (fun H locs hP hD hS => ?_)
  have hP : va_P (dC, dI) cls ((oX3 (p0a 0) p0a p0k p0n p0w) ++ [(p1a, .inl (p1k, p1n, .inl (va_cpy (p0w 4) f6 (nn 0) (nn 3) (nn 16))))]) H := hP
  have hD : va_D A ((oX3 (p0a 0) p0a p0k p0n p0w) ++ [(p1a, .inl (p1k, p1n, .inl (va_cpy (p0w 4) f6 (nn 0) (nn 3) (nn 16))))]) := hD
  obtain ⟨f8, ef8, hrun⟩ := let9 hrun
  rw [← ef8] at hP hD
  have ho9 : f8 = o := Option.some.inj hrun
  have hP9 : va_P (dC, dI) cls ((oX3 (p0a 0) p0a p0k p0n p0w) ++ [(p1a, .inl (p1k, p1n, .inl o))]) H := by first | exact hP | (rw [← ho9]; exact hP)
  have hD9 : va_D A ((oX3 (p0a 0) p0a p0k p0n p0w) ++ [(p1a, .inl (p1k, p1n, .inl o))]) := by first | exact hD | (rw [← ho9]; exact hD)
  subst hQ
  exact W.vret hx hb hr (fun t ht hW => ⟨⟨(), rfl, trivial, ⟨by rw [ht]; exact hP9, va_K.moved hW.alike hK, hD9⟩⟩, hS.F ht⟩) hS.2.2 dX3_save_33
def fX3_tell (p0w : ST) (p1 : Int32) (p2 : Int32) (p3 : Int32) (p4 : Int32) : Option ST := (lt9 (upw p0w 8 (nn 0) p1) fun (w1 : ST) => (lt9 (upw w1 8 (nn 1) p2) fun (w2 : ST) => (lt9 (upw w2 8 (nn 2) p3) fun (w3 : ST) => (lt9 (upw w3 8 (nn 3) p4) fun (w4 : ST) => some w4))))
set_option maxHeartbeats 16000000 in
set_option maxRecDepth 100000 in
theorem kX3_tell {zs : Nat × Nat} (l : Launch) (dC : Nat → ClassId) (dI : Nat → Nat → Nat) (p0a : Nat → Nat) (p0k : Nat → ClassId) (p0n : Nat → Nat) (p0w : ST) (p1 : Int32) (p2 : Int32) (p3 : Int32) (p4 : Int32) (sz : Nat) (o : ST) (hrun : fX3_tell p0w p1 p2 p3 p4 = some o) : Met l yX3_tell (wz yX3_tell cX3_tell 5 (Option.none : Option Jvm.ClassFile.FieldType)) ({ frames := 0, cells := 0, slots := 0, locals := 0 } : Room) (va_Pc [.ref (p0a 0), .int p1, .int p2, .int p3, .int p4] (PRE zs dC dI (oX3 (p0a 0) p0a p0k p0n p0w) (tX3 p0k) sz)) (va_Qv (fun (_ : Unit) => True) (fun _ t => POST dC dI (oX3 (p0a 0) p0a p0k p0n o) (tX3 p0k) (va_A (oX3 (p0a 0) p0a p0k p0n p0w) sz) t) (va_A (oX3 (p0a 0) p0a p0k p0n p0w) sz)) 0 0 (va_A (oX3 (p0a 0) p0a p0k p0n p0w) sz) := by
  refine Met.ofW (cc := cX3_tell) (maxL := 5) (ret := (Option.none : Option Jvm.ClassFile.FieldType)) (by decide) rfl ?_
  intro p e s m args below meth c s₁ B hml hv
  obtain ⟨rfl, hsz, hP, hK, hD0, hE⟩ := hv
  have hx := B.exec
  have hb := B.bytes
  have hr := B.returns
  have hts0 := atoms_spec (ws := wz yX3_tell cX3_tell 5 (Option.none : Option Jvm.ClassFile.FieldType)) B.pre
  have hts : ∀ w ∈ gw, w.before _ s = true := fun w h => hts0 w (List.mem_cons_of_mem _ h)
  have hown : s.vm.findClass RX3 = some m.cls := findClass_of_methodNamed B.named
  have hlocks := B.notSynchronized
  subst hsz
  have hD := hD0.self (sz := s.heap.size)
  refine gQ9 ?_
  intro Q hQ
  generalize hAe : va_A (oX3 (p0a 0) p0a p0k p0n p0w) s.heap.size = A at hD hE hQ
  have hA : ∀ q : Nat, s.heap.size ≤ q → A q := fun q h => by rw [← hAe]; exact Or.inr h
  have hS : va_S A s.heap s.heap [] := va_S.rf
  have hP : va_P (dC, dI) cls (oX3 (p0a 0) p0a p0k p0n p0w) s.heap := hP
  have hl := lv_entry ([.ref (p0a 0), .int p1, .int p2, .int p3, .int p4]) (n := 5) (Nat.le_of_ble_eq_true rfl)
  rw [lg_entry_eq]
  generalize (lg_sl ([.ref (p0a 0), .int p1, .int p2, .int p3, .int p4]) ++ List.replicate (5 - (lg_sl ([.ref (p0a 0), .int p1, .int p2, .int p3, .int p4])).length) Slot.unset).toArray = ls at hl ⊢
  have hl : lv_has ls 5 [(0, .ref (p0a 0)), (1, .int p1), (2, .int p2), (3, .int p3), (4, .int p4)] := hl
  obtain ⟨H, hHe⟩ : ∃ H, H = s.heap := ⟨_, rfl⟩
  obtain ⟨locs, hle⟩ : ∃ locs : List Loc, locs = [] := ⟨_, rfl⟩
  rw [← hHe] at hP
  have hS : va_S A s.heap H locs := by rw [hHe, hle]; exact hS
  show W p l e ({ frames := 0, cells := 0, slots := 0, locals := 0 } : Room) s m ([.ref (p0a 0), .int p1, .int p2, .int p3, .int p4] : List Value).toArray below meth c s.heap [] 0 0 Q (F0 m 0 ls [])
  rw [← hle]
  refine wH9 hHe ?_
  unfold fX3_tell at hrun
  refine lv_aload_n hx hb dX3_tell_0 rfl (lv_at hl 0 rfl) ?_
  refine va_get (D := (dC, dI)) (ci := 10) (v := .ref (p0a 8)) (C := RX3) (T := TX3) (N := 20) hx hb hts i_X3 hown hK hP 0 rfl rfl 7 (by decide) (hts _ qw973) (fun _ h9 => h9) rfl dX3_tell_1 ?_
  refine lv_iconst (v := 0) hx hb dX3_tell_4 (by decide) ?_
  refine lv_iload_n hx hb dX3_tell_5 rfl (lv_at hl 1 rfl) ?_
  refine va_iast hx hb hK hP hD hS 2 1 rfl rfl (by unfold vp_in; decide +kernel) dX3_tell_6 (fun H locs hP hD hS => ?_)
  have hP : va_P (dC, dI) cls (oX3 (p0a 0) p0a p0k p0n (upw p0w 8 (nn 0) p1)) H := hP
  have hD : va_D A (oX3 (p0a 0) p0a p0k p0n (upw p0w 8 (nn 0) p1)) := hD
  obtain ⟨w1, ew1, hrun⟩ := let9 hrun
  rw [← ew1] at hP hD
  refine lv_aload_n hx hb dX3_tell_7 rfl (lv_at hl 0 rfl) ?_
  refine va_get (D := (dC, dI)) (ci := 10) (v := .ref (p0a 8)) (C := RX3) (T := TX3) (N := 20) hx hb hts i_X3 hown hK hP 0 rfl rfl 7 (by decide) (hts _ qw973) (fun _ h9 => h9) rfl dX3_tell_8 ?_
  refine lv_iconst (v := 1) hx hb dX3_tell_11 (by decide) ?_
  refine lv_iload_n hx hb dX3_tell_12 rfl (lv_at hl 2 rfl) ?_
  refine va_iast hx hb hK hP hD hS 2 1 rfl rfl (by unfold vp_in; decide +kernel) dX3_tell_13 (fun H locs hP hD hS => ?_)
  have hP : va_P (dC, dI) cls (oX3 (p0a 0) p0a p0k p0n (upw w1 8 (nn 1) p2)) H := hP
  have hD : va_D A (oX3 (p0a 0) p0a p0k p0n (upw w1 8 (nn 1) p2)) := hD
  obtain ⟨w2, ew2, hrun⟩ := let9 hrun
  rw [← ew2] at hP hD
  refine lv_aload_n hx hb dX3_tell_14 rfl (lv_at hl 0 rfl) ?_
  refine va_get (D := (dC, dI)) (ci := 10) (v := .ref (p0a 8)) (C := RX3) (T := TX3) (N := 20) hx hb hts i_X3 hown hK hP 0 rfl rfl 7 (by decide) (hts _ qw973) (fun _ h9 => h9) rfl dX3_tell_15 ?_
  refine lv_iconst (v := 2) hx hb dX3_tell_18 (by decide) ?_
  refine lv_iload_n hx hb dX3_tell_19 rfl (lv_at hl 3 rfl) ?_
  refine va_iast hx hb hK hP hD hS 2 1 rfl rfl (by unfold vp_in; decide +kernel) dX3_tell_20 (fun H locs hP hD hS => ?_)
  have hP : va_P (dC, dI) cls (oX3 (p0a 0) p0a p0k p0n (upw w2 8 (nn 2) p3)) H := hP
  have hD : va_D A (oX3 (p0a 0) p0a p0k p0n (upw w2 8 (nn 2) p3)) := hD
  obtain ⟨w3, ew3, hrun⟩ := let9 hrun
  rw [← ew3] at hP hD
  refine lv_aload_n hx hb dX3_tell_21 rfl (lv_at hl 0 rfl) ?_
  refine va_get (D := (dC, dI)) (ci := 10) (v := .ref (p0a 8)) (C := RX3) (T := TX3) (N := 20) hx hb hts i_X3 hown hK hP 0 rfl rfl 7 (by decide) (hts _ qw973) (fun _ h9 => h9) rfl dX3_tell_22 ?_
  refine lv_iconst (v := 3) hx hb dX3_tell_25 (by decide) ?_
  refine lv_iload hx hb dX3_tell_26 (lv_at hl 4 rfl) ?_
  refine va_iast hx hb hK hP hD hS 2 1 rfl rfl (by unfold vp_in; decide +kernel) dX3_tell_28 (fun H locs hP hD hS => ?_)
  have hP : va_P (dC, dI) cls (oX3 (p0a 0) p0a p0k p0n (upw w3 8 (nn 3) p4)) H := hP
  have hD : va_D A (oX3 (p0a 0) p0a p0k p0n (upw w3 8 (nn 3) p4)) := hD
  obtain ⟨w4, ew4, hrun⟩ := let9 hrun
  rw [← ew4] at hP hD
  have ho9 : w4 = o := Option.some.inj hrun
  have hP9 : va_P (dC, dI) cls (oX3 (p0a 0) p0a p0k p0n o) H := by first | exact hP | (rw [← ho9]; exact hP)
  have hD9 : va_D A (oX3 (p0a 0) p0a p0k p0n o) := by first | exact hD | (rw [← ho9]; exact hD)
  subst hQ
  exact W.vret hx hb hr (fun t ht hW => ⟨⟨(), rfl, trivial, ⟨by rw [ht]; exact hP9, va_K.moved hW.alike hK, hD9⟩⟩, hS.F ht⟩) hS.2.2 dX3_tell_29
def fX11_needFunction_J15  : Option Unit := none
def fX11_needFunction (p1 : Int32) (p0_8w : ST) : Option Unit := (if p1 < 0 then (fX11_needFunction_J15) else (if p1 < (p0_8w 0 0) then some () else (fX11_needFunction_J15)))
set_option maxHeartbeats 16000000 in
set_option maxRecDepth 100000 in
theorem kX11_needFunction {zs : Nat × Nat} (l : Launch) (dC : Nat → ClassId) (dI : Nat → Nat → Nat) (p0a : Nat → Nat) (p0w : ST) (p1 : Int32) (p0_8a : Nat → Nat) (p0_8k : Nat → ClassId) (p0_8w : ST) (p0_8l : SL) (sz : Nat) (o : Unit) (hrun : fX11_needFunction p1 p0_8w = some o) : Met l yX11_needFunction (wz yX11_needFunction cX11_needFunction 2 (Option.none : Option Jvm.ClassFile.FieldType)) ({ frames := 0, cells := 0, slots := 0, locals := 0 } : Room) (va_Pc [.ref (p0a 0), .int p1] (PRE zs dC dI ((oX11 (p0a 0) p0a p0w) ++ (oX6 (p0a 9) p0_8a p0_8k p0_8w p0_8l)) (tX6 p0_8k) sz)) (va_Qv (fun (_ : Unit) => True) (fun _ t => POST dC dI ((oX11 (p0a 0) p0a p0w) ++ (oX6 (p0a 9) p0_8a p0_8k p0_8w p0_8l)) (tX6 p0_8k) (va_A ((oX11 (p0a 0) p0a p0w) ++ (oX6 (p0a 9) p0_8a p0_8k p0_8w p0_8l)) sz) t) (va_A ((oX11 (p0a 0) p0a p0w) ++ (oX6 (p0a 9) p0_8a p0_8k p0_8w p0_8l)) sz)) 0 0 (va_A ((oX11 (p0a 0) p0a p0w) ++ (oX6 (p0a 9) p0_8a p0_8k p0_8w p0_8l)) sz) := by
  refine Met.ofW (cc := cX11_needFunction) (maxL := 2) (ret := (Option.none : Option Jvm.ClassFile.FieldType)) (by decide) rfl ?_
  intro p e s m args below meth c s₁ B hml hv
  obtain ⟨rfl, hsz, hP, hK, hD0, hE⟩ := hv
  have hx := B.exec
  have hb := B.bytes
  have hr := B.returns
  have hts0 := atoms_spec (ws := wz yX11_needFunction cX11_needFunction 2 (Option.none : Option Jvm.ClassFile.FieldType)) B.pre
  have hts : ∀ w ∈ gw, w.before _ s = true := fun w h => hts0 w (List.mem_cons_of_mem _ h)
  have hown : s.vm.findClass RX11 = some m.cls := findClass_of_methodNamed B.named
  have hlocks := B.notSynchronized
  subst hsz
  have hD := hD0.self (sz := s.heap.size)
  refine gQ9 ?_
  intro Q hQ
  generalize hAe : va_A ((oX11 (p0a 0) p0a p0w) ++ (oX6 (p0a 9) p0_8a p0_8k p0_8w p0_8l)) s.heap.size = A at hD hE hQ
  have hA : ∀ q : Nat, s.heap.size ≤ q → A q := fun q h => by rw [← hAe]; exact Or.inr h
  have hS : va_S A s.heap s.heap [] := va_S.rf
  have hP : va_P (dC, dI) cls ((oX11 (p0a 0) p0a p0w) ++ (oX6 (p0a 9) p0_8a p0_8k p0_8w p0_8l)) s.heap := hP
  have hl := lv_entry ([.ref (p0a 0), .int p1]) (n := 2) (Nat.le_of_ble_eq_true rfl)
  rw [lg_entry_eq]
  generalize (lg_sl ([.ref (p0a 0), .int p1]) ++ List.replicate (2 - (lg_sl ([.ref (p0a 0), .int p1])).length) Slot.unset).toArray = ls at hl ⊢
  have hl : lv_has ls 2 [(0, .ref (p0a 0)), (1, .int p1)] := hl
  obtain ⟨H, hHe⟩ : ∃ H, H = s.heap := ⟨_, rfl⟩
  obtain ⟨locs, hle⟩ : ∃ locs : List Loc, locs = [] := ⟨_, rfl⟩
  rw [← hHe] at hP
  have hS : va_S A s.heap H locs := by rw [hHe, hle]; exact hS
  show W p l e ({ frames := 0, cells := 0, slots := 0, locals := 0 } : Room) s m ([.ref (p0a 0), .int p1] : List Value).toArray below meth c s.heap [] 0 0 Q (F0 m 0 ls [])
  rw [← hle]
  refine wH9 hHe ?_
  unfold fX11_needFunction at hrun
  refine lv_iload_n hx hb dX11_needFunction_0 rfl (lv_at hl 1 rfl) ?_
  have J15 : ∀ (H : Heap) (locs : List Loc) (ls : Array Slot), (fX11_needFunction_J15) = some o → va_P (dC, dI) cls ((oX11 (p0a 0) p0a p0w) ++ (oX6 (p0a 9) p0_8a p0_8k p0_8w p0_8l)) H → va_D A ((oX11 (p0a 0) p0a p0w) ++ (oX6 (p0a 9) p0_8a p0_8k p0_8w p0_8l)) → va_K (dC, dI) cls (tX6 p0_8k) s → va_S A s.heap H locs → lv_has ls 2 [] → W p l e ({ frames := 0, cells := 0, slots := 0, locals := 0 } : Room) s m ([.ref (p0a 0), .int p1] : List Value).toArray below meth c H locs 0 0 Q (F0 m 15 ls []) := by
    intro  H locs ls hrun hP hD hK hS hl 
    unfold fX11_needFunction_J15 at hrun
    cases hrun
  rcases br9 hrun with ⟨hc1, hrun⟩ | ⟨hc1, hrun⟩
  · refine lv_if_lt (tgt := 15) hx hb dX11_needFunction_1 (by decide) (fun _ => ?_) (fun c => absurd hc1 c)
    exact J15 _ _ _ hrun hP hD hK hS (lv_sub hl [] rfl)
  · refine lv_if_lt (tgt := 15) hx hb dX11_needFunction_1 (by decide) (fun c => absurd c hc1) (fun _ => ?_)
    refine lv_iload_n hx hb dX11_needFunction_4 rfl (lv_at hl 1 rfl) ?_
    refine lv_aload_n hx hb dX11_needFunction_5 rfl (lv_at hl 0 rfl) ?_
    refine va_get (D := (dC, dI)) (ci := 11) (v := .ref (p0a 9)) (C := RX11) (T := TX11) (N := 11) hx hb hts i_X11 hown hK hP 0 rfl rfl 8 (by decide) (hts _ qw974) (fun _ h9 => h9) rfl dX11_needFunction_6 ?_
    refine va_get (D := (dC, dI)) (ci := 2) (v := .int (p0_8w 0 0)) (C := RX6) (T := TX6) (N := 13) hx hb hts i_X6 hown hK hP 1 rfl rfl 0 (by decide) (hts _ qw975) (fun _ h9 => h9) rfl dX11_needFunction_9 ?_
    rcases br9 hrun with ⟨hc2, hrun⟩ | ⟨hc2, hrun⟩
    · refine lv_icmp_lt (tgt := 26) hx hb dX11_needFunction_12 (by decide) (fun _ => ?_) (fun c => absurd hc2 c)
      have ho9 : () = o := Option.some.inj hrun
      have hP9 : va_P (dC, dI) cls ((oX11 (p0a 0) p0a p0w) ++ (oX6 (p0a 9) p0_8a p0_8k p0_8w p0_8l)) H := by first | exact hP | (rw [← ho9]; exact hP)
      have hD9 : va_D A ((oX11 (p0a 0) p0a p0w) ++ (oX6 (p0a 9) p0_8a p0_8k p0_8w p0_8l)) := by first | exact hD | (rw [← ho9]; exact hD)
      subst hQ
      exact W.vret hx hb hr (fun t ht hW => ⟨⟨(), rfl, trivial, ⟨by rw [ht]; exact hP9, va_K.moved hW.alike hK, hD9⟩⟩, hS.F ht⟩) hS.2.2 dX11_needFunction_26
    · refine lv_icmp_lt (tgt := 26) hx hb dX11_needFunction_12 (by decide) (fun c => absurd c hc2) (fun _ => ?_)
      exact J15 _ _ _ hrun hP hD hK hS (lv_sub hl [] rfl)
def fX11_digestBlock_L147 (p1w : ST) (p2 : Int32) : Nat → Int64 → Int32 → Option Int64
  | 0 => fun _ _ => none
  | n_147 + 1 => fun v4_147 v6_147 => ((fX1_waysTo p1w p2).bind fun (o_13 : Int32) => (if o_13 ≤ v6_147 then some v4_147 else ((fX1_wayFrom p1w p2 v6_147).bind fun (o_16 : Int32) => ((fX11_digestBlock_L147 p1w p2 n_147) ((v4_147 * (31 : Int64)) + ((o_16 : Int32).toInt64)) (v6_147 + 1)))))
def fX11_digestBlock (p0 : Int64) (p1n : Nat → Nat) (p1w : ST) (p2 : Int32) (p1_2n : Nat → Nat) (p1_2w : ST) : Option Int64 := (if ixb p2 60 = true then (if ixb p2 60 = true then ((fX1_countPhis p1n p1w p2).bind fun (o_3 : Int32) => ((fX1_countSteps p1w p2 p1_2n p1_2w).bind fun (o_5 : Int32) => (if ixb p2 60 = true then (if ixb p2 60 = true then (if ixb p2 60 = true then (if ixb p2 60 = true then ((fX1_waysTo p1w p2).bind fun (o_11 : Int32) => ((fX11_digestBlock_L147 p1w p2 NF ((((((((((((((((((p0 * (31 : Int64)) + (((p1w 12 (nn p2)) : Int32).toInt64)) * (31 : Int64)) + (((p1w 13 (nn p2)) : Int32).toInt64)) * (31 : Int64)) + ((o_3 : Int32).toInt64)) * (31 : Int64)) + ((o_5 : Int32).toInt64)) * (31 : Int64)) + (((p1w 8 (nn p2)) : Int32).toInt64)) * (31 : Int64)) + (((p1w 9 (nn p2)) : Int32).toInt64)) * (31 : Int64)) + (((p1w 10 (nn p2)) : Int32).toInt64)) * (31 : Int64)) + (((p1w 11 (nn p2)) : Int32).toInt64)) * (31 : Int64)) + ((o_11 : Int32).toInt64)) 0).bind fun (o147 : Int64) => some o147)) else none) else none) else none) else none))) else none) else none)
set_option maxHeartbeats 16000000 in
set_option maxRecDepth 100000 in
theorem kX11_digestBlock {zs : Nat × Nat} (l : Launch) (dC : Nat → ClassId) (dI : Nat → Nat → Nat) (p0 : Int64) (p1a : Nat → Nat) (p1k : Nat → ClassId) (p1n : Nat → Nat) (p1w : ST) (p1l : SL) (p2 : Int32) (p1_2a : Nat → Nat) (p1_2k : Nat → ClassId) (p1_2n : Nat → Nat) (p1_2w : ST) (sz : Nat) (o : Int64) (hrun : fX11_digestBlock p0 p1n p1w p2 p1_2n p1_2w = some o) : Met l yX11_digestBlock (wz yX11_digestBlock cX11_digestBlock 7 (Option.some Jvm.ClassFile.FieldType.long)) ({ frames := 1, cells := 0, slots := 0, locals := 23 } : Room) (va_Pc [.long p0, .ref (p1a 0), .int p2] (PRE zs dC dI ((oX1 (p1a 0) p1a p1k p1n p1w p1l) ++ (oX9 (p1a 3) p1_2a p1_2k p1_2n p1_2w)) ((tX1 p1k) ++ (tX9 p1_2k)) sz)) (va_Ql (fun (r : Int64) (_ : Unit) => r = o) (fun _ t => POST dC dI ((oX1 (p1a 0) p1a p1k p1n p1w p1l) ++ (oX9 (p1a 3) p1_2a p1_2k p1_2n p1_2w)) ((tX1 p1k) ++ (tX9 p1_2k)) (va_A ((oX1 (p1a 0) p1a p1k p1n p1w p1l) ++ (oX9 (p1a 3) p1_2a p1_2k p1_2n p1_2w)) sz) t) (va_A ((oX1 (p1a 0) p1a p1k p1n p1w p1l) ++ (oX9 (p1a 3) p1_2a p1_2k p1_2n p1_2w)) sz)) 0 0 (va_A ((oX1 (p1a 0) p1a p1k p1n p1w p1l) ++ (oX9 (p1a 3) p1_2a p1_2k p1_2n p1_2w)) sz) := by
  refine Met.ofW (cc := cX11_digestBlock) (maxL := 7) (ret := (Option.some Jvm.ClassFile.FieldType.long)) (by decide) rfl ?_
  intro p e s m args below meth c s₁ B hml hv
  obtain ⟨rfl, hsz, hP, hK, hD0, hE⟩ := hv
  have hx := B.exec
  have hb := B.bytes
  have hr := B.returns
  have hts0 := atoms_spec (ws := wz yX11_digestBlock cX11_digestBlock 7 (Option.some Jvm.ClassFile.FieldType.long)) B.pre
  have hts : ∀ w ∈ gw, w.before _ s = true := fun w h => hts0 w (List.mem_cons_of_mem _ h)
  have hown : s.vm.findClass RX11 = some m.cls := findClass_of_methodNamed B.named
  have hlocks := B.notSynchronized
  subst hsz
  have hD := hD0.self (sz := s.heap.size)
  refine gQ9 ?_
  intro Q hQ
  generalize hAe : va_A ((oX1 (p1a 0) p1a p1k p1n p1w p1l) ++ (oX9 (p1a 3) p1_2a p1_2k p1_2n p1_2w)) s.heap.size = A at hD hE hQ
  have hA : ∀ q : Nat, s.heap.size ≤ q → A q := fun q h => by rw [← hAe]; exact Or.inr h
  have hS : va_S A s.heap s.heap [] := va_S.rf
  have hP : va_P (dC, dI) cls ((oX1 (p1a 0) p1a p1k p1n p1w p1l) ++ (oX9 (p1a 3) p1_2a p1_2k p1_2n p1_2w)) s.heap := hP
  have hl := lv_entry ([.long p0, .ref (p1a 0), .int p2]) (n := 7) (Nat.le_of_ble_eq_true rfl)
  rw [lg_entry_eq]
  generalize (lg_sl ([.long p0, .ref (p1a 0), .int p2]) ++ List.replicate (7 - (lg_sl ([.long p0, .ref (p1a 0), .int p2])).length) Slot.unset).toArray = ls at hl ⊢
  have hl : lv_has ls 7 [(0, .long p0), (2, .ref (p1a 0)), (3, .int p2)] := hl
  obtain ⟨H, hHe⟩ : ∃ H, H = s.heap := ⟨_, rfl⟩
  obtain ⟨locs, hle⟩ : ∃ locs : List Loc, locs = [] := ⟨_, rfl⟩
  rw [← hHe] at hP
  have hS : va_S A s.heap H locs := by rw [hHe, hle]; exact hS
  show W p l e ({ frames := 1, cells := 0, slots := 0, locals := 23 } : Room) s m ([.long p0, .ref (p1a 0), .int p2] : List Value).toArray below meth c s.heap [] 0 0 Q (F0 m 0 ls [])
  rw [← hle]
  refine wH9 hHe ?_
  unfold fX11_digestBlock at hrun
  refine lv_lload_n hx hb dX11_digestBlock_0 rfl (lv_at hl 0 rfl) ?_
  refine lv_lstore (lv' := [(4, .long p0), (0, .long p0), (2, .ref (p1a 0)), (3, .int p2)]) hx hb dX11_digestBlock_1 hl (by decide) rfl (fun ls hl => ?_)
  refine lv_lload hx hb dX11_digestBlock_3 (lv_at hl 0 rfl) ?_
  refine lv_ldc2 (v := 31) hx hb hown (hts _ qw992) dX11_digestBlock_5 ?_
  refine lv_lmul hx hb dX11_digestBlock_8 ?_
  refine lv_aload_n hx hb dX11_digestBlock_9 rfl (lv_at hl 2 rfl) ?_
  refine va_get (D := (dC, dI)) (ci := 4) (v := .ref (p1a 12)) (C := RX1) (T := TX1) (N := 21) hx hb hts i_X1 hown hK hP 0 rfl rfl 11 (by decide) (hts _ qw998) (fun _ h9 => h9) rfl dX11_digestBlock_10 ?_
  refine lv_iload_n hx hb dX11_digestBlock_13 rfl (lv_at hl 3 rfl) ?_
  obtain ⟨hq1, hrun⟩ := chk9 hrun
  refine va_iald hx hb hK hP 9 8 rfl rfl (ixb_in hq1) dX11_digestBlock_14 ?_
  refine lv_i2l (v := (((p1w 12 (nn p2)) : Int32).toInt64)) hx hb dX11_digestBlock_15 rfl ?_
  refine lv_ladd hx hb dX11_digestBlock_16 ?_
  refine lv_lstore (lv' := [(4, .long ((p0 * (31 : Int64)) + (((p1w 12 (nn p2)) : Int32).toInt64))), (0, .long p0), (2, .ref (p1a 0)), (3, .int p2)]) hx hb dX11_digestBlock_17 hl (by decide) rfl (fun ls hl => ?_)
  refine lv_lload hx hb dX11_digestBlock_19 (lv_at hl 0 rfl) ?_
  refine lv_ldc2 (v := 31) hx hb hown (hts _ qw992) dX11_digestBlock_21 ?_
  refine lv_lmul hx hb dX11_digestBlock_24 ?_
  refine lv_aload_n hx hb dX11_digestBlock_25 rfl (lv_at hl 2 rfl) ?_
  refine va_get (D := (dC, dI)) (ci := 4) (v := .ref (p1a 13)) (C := RX1) (T := TX1) (N := 21) hx hb hts i_X1 hown hK hP 0 rfl rfl 12 (by decide) (hts _ qw999) (fun _ h9 => h9) rfl dX11_digestBlock_26 ?_
  refine lv_iload_n hx hb dX11_digestBlock_29 rfl (lv_at hl 3 rfl) ?_
  obtain ⟨hq2, hrun⟩ := chk9 hrun
  refine va_iald hx hb hK hP 10 9 rfl rfl (ixb_in hq2) dX11_digestBlock_30 ?_
  refine lv_i2l (v := (((p1w 13 (nn p2)) : Int32).toInt64)) hx hb dX11_digestBlock_31 rfl ?_
  refine lv_ladd hx hb dX11_digestBlock_32 ?_
  refine lv_lstore (lv' := [(4, .long ((((p0 * (31 : Int64)) + (((p1w 12 (nn p2)) : Int32).toInt64)) * (31 : Int64)) + (((p1w 13 (nn p2)) : Int32).toInt64))), (0, .long p0), (2, .ref (p1a 0)), (3, .int p2)]) hx hb dX11_digestBlock_33 hl (by decide) rfl (fun ls hl => ?_)
  refine lv_lload hx hb dX11_digestBlock_35 (lv_at hl 0 rfl) ?_
  refine lv_ldc2 (v := 31) hx hb hown (hts _ qw992) dX11_digestBlock_37 ?_
  refine lv_lmul hx hb dX11_digestBlock_40 ?_
  refine lv_aload_n hx hb dX11_digestBlock_41 rfl (lv_at hl 2 rfl) ?_
  refine lv_iload_n hx hb dX11_digestBlock_42 rfl (lv_at hl 3 rfl) ?_
  obtain ⟨o_3, hc_3, hrun⟩ := bnd9 hrun
  have hPc := hP.sub (ws' := (oX1 (p1a 0) p1a p1k p1n p1w p1l)) [0, 1, 2, 3, 4, 5, 6, 7, 8, 9, 10, 11, 12, 13, 14, 15, 16, 17] rfl
  have hDc := hD.sub (ws' := (oX1 (p1a 0) p1a p1k p1n p1w p1l)) [0, 1, 2, 3, 4, 5, 6, 7, 8, 9, 10, 11, 12, 13, 14, 15, 16, 17] (by decide) rfl
  have hKc := hK.sub (tys' := (tX1 p1k)) [0, 1, 2, 3, 4, 5, 6, 7, 8, 9, 10, 11, 12, 13, 14, 15, 16] rfl
  have hFc := va_free (wc := (oX1 (p1a 0) p1a p1k p1n p1w p1l)) hD hS hA [0, 1, 2, 3, 4, 5, 6, 7, 8, 9, 10, 11, 12, 13, 14, 15, 16, 17] rfl
  refine va_calli (va_runV (As := [.int p2]) (rest := [.long (((((p0 * (31 : Int64)) + (((p1w 12 (nn p2)) : Int32).toInt64)) * (31 : Int64)) + (((p1w 13 (nn p2)) : Int32).toInt64)) * (31 : Int64))]) ⟨hx, hb, hml, hown, hts⟩ (kX1_countPhis l dC dI (p0a := (st0 (p1a 0) p1a)) (p0k := p1k) (p0n := p1n) (p0w := p1w) (p0l := p1l) (p1 := p2) (sz := _) (o := o_3) (hrun := hc_3)) (cwV 1 hts (gi_V qw1000 qw171 qw172 qw126 (gi_z qw169)) rfl rfl rfl (by decide +kernel) ⟨Nat.le_of_ble_eq_true rfl, Nat.le_of_ble_eq_true rfl⟩) ⟨PRE.blind, va_recv hKc hPc (ci := 4) (q0 := 0) rfl rfl, PRE.of hE hS hFc hPc hKc hDc⟩ rfl rfl hl.1 rfl (lv_room (Nat.le_of_ble_eq_true rfl)) dX11_digestBlock_43 ⟨(Nat.le_of_ble_eq_true rfl), (Nat.le_of_ble_eq_true rfl)⟩) hS (fun q _ h => hFc q h) hFc (fun r4 u t H locs ht hvm hw hB hz1 hk1 hS => ?_)
  obtain ⟨hP, hD, hK⟩ := JOIN (wr := (oX9 (p1a 3) p1_2a p1_2k p1_2n p1_2w)) hP hD hK [0, 1, 2, 3, 4, 5, 6, 7, 8, 9, 10, 11, 12, 13, 14, 15, 16, 17] [18, 19, 20, 21, 22, 23] [17, 18, 19, 20, 21] rfl rfl (by decide) (by decide) rfl hk1 hFc ht hvm hB
  have hP : va_P (dC, dI) cls ((oX1 (p1a 0) p1a p1k p1n p1w p1l) ++ (oX9 (p1a 3) p1_2a p1_2k p1_2n p1_2w)) H := hP.sub [6, 7, 8, 9, 10, 11, 12, 13, 14, 15, 16, 17, 18, 19, 20, 21, 22, 23, 0, 1, 2, 3, 4, 5] rfl
  have hD : va_D A ((oX1 (p1a 0) p1a p1k p1n p1w p1l) ++ (oX9 (p1a 3) p1_2a p1_2k p1_2n p1_2w)) := hD.sub [6, 7, 8, 9, 10, 11, 12, 13, 14, 15, 16, 17, 18, 19, 20, 21, 22, 23, 0, 1, 2, 3, 4, 5] (by decide) rfl
  have hK : va_K (dC, dI) cls ((tX1 p1k) ++ (tX9 p1_2k)) s := hK.sub [5, 6, 7, 8, 9, 10, 11, 12, 13, 14, 15, 16, 17, 18, 19, 20, 21, 0, 1, 2, 3, 4] rfl
  obtain rfl : o_3 = r4 := hw.symm
  refine lv_i2l (v := ((o_3 : Int32).toInt64)) hx hb dX11_digestBlock_46 rfl ?_
  refine lv_ladd hx hb dX11_digestBlock_47 ?_
  refine lv_lstore (lv' := [(4, .long ((((((p0 * (31 : Int64)) + (((p1w 12 (nn p2)) : Int32).toInt64)) * (31 : Int64)) + (((p1w 13 (nn p2)) : Int32).toInt64)) * (31 : Int64)) + ((o_3 : Int32).toInt64))), (0, .long p0), (2, .ref (p1a 0)), (3, .int p2)]) hx hb dX11_digestBlock_48 hl (by decide) rfl (fun ls hl => ?_)
  refine lv_lload hx hb dX11_digestBlock_50 (lv_at hl 0 rfl) ?_
  refine lv_ldc2 (v := 31) hx hb hown (hts _ qw992) dX11_digestBlock_52 ?_
  refine lv_lmul hx hb dX11_digestBlock_55 ?_
  refine lv_aload_n hx hb dX11_digestBlock_56 rfl (lv_at hl 2 rfl) ?_
  refine lv_iload_n hx hb dX11_digestBlock_57 rfl (lv_at hl 3 rfl) ?_
  obtain ⟨o_5, hc_5, hrun⟩ := bnd9 hrun
  have hPc := hP.sub (ws' := ((oX1 (p1a 0) p1a p1k p1n p1w p1l) ++ (oX9 (p1a 3) p1_2a p1_2k p1_2n p1_2w))) [0, 1, 2, 3, 4, 5, 6, 7, 8, 9, 10, 11, 12, 13, 14, 15, 16, 17, 18, 19, 20, 21, 22, 23] rfl
  have hDc := hD.sub (ws' := ((oX1 (p1a 0) p1a p1k p1n p1w p1l) ++ (oX9 (p1a 3) p1_2a p1_2k p1_2n p1_2w))) [0, 1, 2, 3, 4, 5, 6, 7, 8, 9, 10, 11, 12, 13, 14, 15, 16, 17, 18, 19, 20, 21, 22, 23] (by decide) rfl
  have hKc := hK.sub (tys' := ((tX1 p1k) ++ (tX9 p1_2k))) [0, 1, 2, 3, 4, 5, 6, 7, 8, 9, 10, 11, 12, 13, 14, 15, 16, 17, 18, 19, 20, 21] rfl
  have hFc := va_free (wc := ((oX1 (p1a 0) p1a p1k p1n p1w p1l) ++ (oX9 (p1a 3) p1_2a p1_2k p1_2n p1_2w))) hD hS hA [0, 1, 2, 3, 4, 5, 6, 7, 8, 9, 10, 11, 12, 13, 14, 15, 16, 17, 18, 19, 20, 21, 22, 23] rfl
  refine va_calli (va_runV (As := [.int p2]) (rest := [.long (((((((p0 * (31 : Int64)) + (((p1w 12 (nn p2)) : Int32).toInt64)) * (31 : Int64)) + (((p1w 13 (nn p2)) : Int32).toInt64)) * (31 : Int64)) + ((o_3 : Int32).toInt64)) * (31 : Int64))]) ⟨hx, hb, hml, hown, hts⟩ (kX1_countSteps l dC dI (p0a := (st0 (p1a 0) p1a)) (p0k := p1k) (p0n := p1n) (p0w := p1w) (p0l := p1l) (p1 := p2) (p0_2a := p1_2a) (p0_2k := p1_2k) (p0_2n := p1_2n) (p0_2w := p1_2w) (sz := _) (o := o_5) (hrun := hc_5)) (cwV 1 hts (gi_V qw1002 qw1003 qw1004 qw126 (gi_z qw1001)) rfl rfl rfl (by decide +kernel) ⟨Nat.le_of_ble_eq_true rfl, Nat.le_of_ble_eq_true rfl⟩) ⟨PRE.blind, va_recv hKc hPc (ci := 4) (q0 := 0) rfl rfl, PRE.of hE hS hFc hPc hKc hDc⟩ rfl rfl hl.1 rfl (lv_room (Nat.le_of_ble_eq_true rfl)) dX11_digestBlock_58 ⟨(Nat.le_of_ble_eq_true rfl), (Nat.le_of_ble_eq_true rfl)⟩) hS (fun q _ h => hFc q h) hFc (fun r6 u t H locs ht hvm hw hB hz1 hk1 hS => ?_)
  obtain ⟨hP, hD, hK⟩ := JOIN (wr := ([] : va_W)) hP hD hK [0, 1, 2, 3, 4, 5, 6, 7, 8, 9, 10, 11, 12, 13, 14, 15, 16, 17, 18, 19, 20, 21, 22, 23] [] [] rfl rfl (by decide) (by decide) rfl hk1 hFc ht hvm hB
  have hP : va_P (dC, dI) cls ((oX1 (p1a 0) p1a p1k p1n p1w p1l) ++ (oX9 (p1a 3) p1_2a p1_2k p1_2n p1_2w)) H := hP.sub [0, 1, 2, 3, 4, 5, 6, 7, 8, 9, 10, 11, 12, 13, 14, 15, 16, 17, 18, 19, 20, 21, 22, 23] rfl
  have hD : va_D A ((oX1 (p1a 0) p1a p1k p1n p1w p1l) ++ (oX9 (p1a 3) p1_2a p1_2k p1_2n p1_2w)) := hD.sub [0, 1, 2, 3, 4, 5, 6, 7, 8, 9, 10, 11, 12, 13, 14, 15, 16, 17, 18, 19, 20, 21, 22, 23] (by decide) rfl
  have hK : va_K (dC, dI) cls ((tX1 p1k) ++ (tX9 p1_2k)) s := hK.sub [0, 1, 2, 3, 4, 5, 6, 7, 8, 9, 10, 11, 12, 13, 14, 15, 16, 17, 18, 19, 20, 21] rfl
  obtain rfl : o_5 = r6 := hw.symm
  refine lv_i2l (v := ((o_5 : Int32).toInt64)) hx hb dX11_digestBlock_61 rfl ?_
  refine lv_ladd hx hb dX11_digestBlock_62 ?_
  refine lv_lstore (lv' := [(4, .long ((((((((p0 * (31 : Int64)) + (((p1w 12 (nn p2)) : Int32).toInt64)) * (31 : Int64)) + (((p1w 13 (nn p2)) : Int32).toInt64)) * (31 : Int64)) + ((o_3 : Int32).toInt64)) * (31 : Int64)) + ((o_5 : Int32).toInt64))), (0, .long p0), (2, .ref (p1a 0)), (3, .int p2)]) hx hb dX11_digestBlock_63 hl (by decide) rfl (fun ls hl => ?_)
  refine lv_lload hx hb dX11_digestBlock_65 (lv_at hl 0 rfl) ?_
  refine lv_ldc2 (v := 31) hx hb hown (hts _ qw992) dX11_digestBlock_67 ?_
  refine lv_lmul hx hb dX11_digestBlock_70 ?_
  refine lv_aload_n hx hb dX11_digestBlock_71 rfl (lv_at hl 2 rfl) ?_
  refine va_get (D := (dC, dI)) (ci := 4) (v := .ref (p1a 8)) (C := RX1) (T := TX1) (N := 21) hx hb hts i_X1 hown hK hP 0 rfl rfl 7 (by decide) (hts _ qw1005) (fun _ h9 => h9) rfl dX11_digestBlock_72 ?_
  refine lv_iload_n hx hb dX11_digestBlock_75 rfl (lv_at hl 3 rfl) ?_
  obtain ⟨hq7, hrun⟩ := chk9 hrun
  refine va_iald hx hb hK hP 5 4 rfl rfl (ixb_in hq7) dX11_digestBlock_76 ?_
  refine lv_i2l (v := (((p1w 8 (nn p2)) : Int32).toInt64)) hx hb dX11_digestBlock_77 rfl ?_
  refine lv_ladd hx hb dX11_digestBlock_78 ?_
  refine lv_lstore (lv' := [(4, .long ((((((((((p0 * (31 : Int64)) + (((p1w 12 (nn p2)) : Int32).toInt64)) * (31 : Int64)) + (((p1w 13 (nn p2)) : Int32).toInt64)) * (31 : Int64)) + ((o_3 : Int32).toInt64)) * (31 : Int64)) + ((o_5 : Int32).toInt64)) * (31 : Int64)) + (((p1w 8 (nn p2)) : Int32).toInt64))), (0, .long p0), (2, .ref (p1a 0)), (3, .int p2)]) hx hb dX11_digestBlock_79 hl (by decide) rfl (fun ls hl => ?_)
  refine lv_lload hx hb dX11_digestBlock_81 (lv_at hl 0 rfl) ?_
  refine lv_ldc2 (v := 31) hx hb hown (hts _ qw992) dX11_digestBlock_83 ?_
  refine lv_lmul hx hb dX11_digestBlock_86 ?_
  refine lv_aload_n hx hb dX11_digestBlock_87 rfl (lv_at hl 2 rfl) ?_
  refine va_get (D := (dC, dI)) (ci := 4) (v := .ref (p1a 9)) (C := RX1) (T := TX1) (N := 21) hx hb hts i_X1 hown hK hP 0 rfl rfl 8 (by decide) (hts _ qw1006) (fun _ h9 => h9) rfl dX11_digestBlock_88 ?_
  refine lv_iload_n hx hb dX11_digestBlock_91 rfl (lv_at hl 3 rfl) ?_
  obtain ⟨hq8, hrun⟩ := chk9 hrun
  refine va_iald hx hb hK hP 6 5 rfl rfl (ixb_in hq8) dX11_digestBlock_92 ?_
  refine lv_i2l (v := (((p1w 9 (nn p2)) : Int32).toInt64)) hx hb dX11_digestBlock_93 rfl ?_
  refine lv_ladd hx hb dX11_digestBlock_94 ?_
  refine lv_lstore (lv' := [(4, .long ((((((((((((p0 * (31 : Int64)) + (((p1w 12 (nn p2)) : Int32).toInt64)) * (31 : Int64)) + (((p1w 13 (nn p2)) : Int32).toInt64)) * (31 : Int64)) + ((o_3 : Int32).toInt64)) * (31 : Int64)) + ((o_5 : Int32).toInt64)) * (31 : Int64)) + (((p1w 8 (nn p2)) : Int32).toInt64)) * (31 : Int64)) + (((p1w 9 (nn p2)) : Int32).toInt64))), (0, .long p0), (2, .ref (p1a 0)), (3, .int p2)]) hx hb dX11_digestBlock_95 hl (by decide) rfl (fun ls hl => ?_)
  refine lv_lload hx hb dX11_digestBlock_97 (lv_at hl 0 rfl) ?_
  refine lv_ldc2 (v := 31) hx hb hown (hts _ qw992) dX11_digestBlock_99 ?_
  refine lv_lmul hx hb dX11_digestBlock_102 ?_
  refine lv_aload_n hx hb dX11_digestBlock_103 rfl (lv_at hl 2 rfl) ?_
  refine va_get (D := (dC, dI)) (ci := 4) (v := .ref (p1a 10)) (C := RX1) (T := TX1) (N := 21) hx hb hts i_X1 hown hK hP 0 rfl rfl 9 (by decide) (hts _ qw1007) (fun _ h9 => h9) rfl dX11_digestBlock_104 ?_
  refine lv_iload_n hx hb dX11_digestBlock_107 rfl (lv_at hl 3 rfl) ?_
  obtain ⟨hq9, hrun⟩ := chk9 hrun
  refine va_iald hx hb hK hP 7 6 rfl rfl (ixb_in hq9) dX11_digestBlock_108 ?_
  refine lv_i2l (v := (((p1w 10 (nn p2)) : Int32).toInt64)) hx hb dX11_digestBlock_109 rfl ?_
  refine lv_ladd hx hb dX11_digestBlock_110 ?_
  refine lv_lstore (lv' := [(4, .long ((((((((((((((p0 * (31 : Int64)) + (((p1w 12 (nn p2)) : Int32).toInt64)) * (31 : Int64)) + (((p1w 13 (nn p2)) : Int32).toInt64)) * (31 : Int64)) + ((o_3 : Int32).toInt64)) * (31 : Int64)) + ((o_5 : Int32).toInt64)) * (31 : Int64)) + (((p1w 8 (nn p2)) : Int32).toInt64)) * (31 : Int64)) + (((p1w 9 (nn p2)) : Int32).toInt64)) * (31 : Int64)) + (((p1w 10 (nn p2)) : Int32).toInt64))), (0, .long p0), (2, .ref (p1a 0)), (3, .int p2)]) hx hb dX11_digestBlock_111 hl (by decide) rfl (fun ls hl => ?_)
  refine lv_lload hx hb dX11_digestBlock_113 (lv_at hl 0 rfl) ?_
  refine lv_ldc2 (v := 31) hx hb hown (hts _ qw992) dX11_digestBlock_115 ?_
  refine lv_lmul hx hb dX11_digestBlock_118 ?_
  refine lv_aload_n hx hb dX11_digestBlock_119 rfl (lv_at hl 2 rfl) ?_
  refine va_get (D := (dC, dI)) (ci := 4) (v := .ref (p1a 11)) (C := RX1) (T := TX1) (N := 21) hx hb hts i_X1 hown hK hP 0 rfl rfl 10 (by decide) (hts _ qw1008) (fun _ h9 => h9) rfl dX11_digestBlock_120 ?_
  refine lv_iload_n hx hb dX11_digestBlock_123 rfl (lv_at hl 3 rfl) ?_
  obtain ⟨hq10, hrun⟩ := chk9 hrun
  refine va_iald hx hb hK hP 8 7 rfl rfl (ixb_in hq10) dX11_digestBlock_124 ?_
  refine lv_i2l (v := (((p1w 11 (nn p2)) : Int32).toInt64)) hx hb dX11_digestBlock_125 rfl ?_
  refine lv_ladd hx hb dX11_digestBlock_126 ?_
  refine lv_lstore (lv' := [(4, .long ((((((((((((((((p0 * (31 : Int64)) + (((p1w 12 (nn p2)) : Int32).toInt64)) * (31 : Int64)) + (((p1w 13 (nn p2)) : Int32).toInt64)) * (31 : Int64)) + ((o_3 : Int32).toInt64)) * (31 : Int64)) + ((o_5 : Int32).toInt64)) * (31 : Int64)) + (((p1w 8 (nn p2)) : Int32).toInt64)) * (31 : Int64)) + (((p1w 9 (nn p2)) : Int32).toInt64)) * (31 : Int64)) + (((p1w 10 (nn p2)) : Int32).toInt64)) * (31 : Int64)) + (((p1w 11 (nn p2)) : Int32).toInt64))), (0, .long p0), (2, .ref (p1a 0)), (3, .int p2)]) hx hb dX11_digestBlock_127 hl (by decide) rfl (fun ls hl => ?_)
  refine lv_lload hx hb dX11_digestBlock_129 (lv_at hl 0 rfl) ?_
  refine lv_ldc2 (v := 31) hx hb hown (hts _ qw992) dX11_digestBlock_131 ?_
  refine lv_lmul hx hb dX11_digestBlock_134 ?_
  refine lv_aload_n hx hb dX11_digestBlock_135 rfl (lv_at hl 2 rfl) ?_
  refine lv_iload_n hx hb dX11_digestBlock_136 rfl (lv_at hl 3 rfl) ?_
  obtain ⟨o_11, hc_11, hrun⟩ := bnd9 hrun
  have hPc := hP.sub (ws' := (oX1 (p1a 0) p1a p1k p1n p1w p1l)) [0, 1, 2, 3, 4, 5, 6, 7, 8, 9, 10, 11, 12, 13, 14, 15, 16, 17] rfl
  have hDc := hD.sub (ws' := (oX1 (p1a 0) p1a p1k p1n p1w p1l)) [0, 1, 2, 3, 4, 5, 6, 7, 8, 9, 10, 11, 12, 13, 14, 15, 16, 17] (by decide) rfl
  have hKc := hK.sub (tys' := (tX1 p1k)) [0, 1, 2, 3, 4, 5, 6, 7, 8, 9, 10, 11, 12, 13, 14, 15, 16] rfl
  have hFc := va_free (wc := (oX1 (p1a 0) p1a p1k p1n p1w p1l)) hD hS hA [0, 1, 2, 3, 4, 5, 6, 7, 8, 9, 10, 11, 12, 13, 14, 15, 16, 17] rfl
  refine va_calli (va_runV (As := [.int p2]) (rest := [.long (((((((((((((((((p0 * (31 : Int64)) + (((p1w 12 (nn p2)) : Int32).toInt64)) * (31 : Int64)) + (((p1w 13 (nn p2)) : Int32).toInt64)) * (31 : Int64)) + ((o_3 : Int32).toInt64)) * (31 : Int64)) + ((o_5 : Int32).toInt64)) * (31 : Int64)) + (((p1w 8 (nn p2)) : Int32).toInt64)) * (31 : Int64)) + (((p1w 9 (nn p2)) : Int32).toInt64)) * (31 : Int64)) + (((p1w 10 (nn p2)) : Int32).toInt64)) * (31 : Int64)) + (((p1w 11 (nn p2)) : Int32).toInt64)) * (31 : Int64))]) ⟨hx, hb, hml, hown, hts⟩ (kX1_waysTo l dC dI (p0a := (st0 (p1a 0) p1a)) (p0k := p1k) (p0n := p1n) (p0w := p1w) (p0l := p1l) (p1 := p2) (sz := _) (o := o_11) (hrun := hc_11)) (cwV 1 hts (gi_V qw1009 qw185 qw186 qw126 (gi_z qw183)) rfl rfl rfl (by decide +kernel) ⟨Nat.le_of_ble_eq_true rfl, Nat.le_of_ble_eq_true rfl⟩) ⟨PRE.blind, va_recv hKc hPc (ci := 4) (q0 := 0) rfl rfl, PRE.of hE hS hFc hPc hKc hDc⟩ rfl rfl hl.1 rfl (lv_room (Nat.le_of_ble_eq_true rfl)) dX11_digestBlock_137 ⟨(Nat.le_of_ble_eq_true rfl), (Nat.le_of_ble_eq_true rfl)⟩) hS (fun q _ h => hFc q h) hFc (fun r12 u t H locs ht hvm hw hB hz1 hk1 hS => ?_)
  obtain ⟨hP, hD, hK⟩ := JOIN (wr := (oX9 (p1a 3) p1_2a p1_2k p1_2n p1_2w)) hP hD hK [0, 1, 2, 3, 4, 5, 6, 7, 8, 9, 10, 11, 12, 13, 14, 15, 16, 17] [18, 19, 20, 21, 22, 23] [17, 18, 19, 20, 21] rfl rfl (by decide) (by decide) rfl hk1 hFc ht hvm hB
  have hP : va_P (dC, dI) cls ((oX1 (p1a 0) p1a p1k p1n p1w p1l) ++ (oX9 (p1a 3) p1_2a p1_2k p1_2n p1_2w)) H := hP.sub [6, 7, 8, 9, 10, 11, 12, 13, 14, 15, 16, 17, 18, 19, 20, 21, 22, 23, 0, 1, 2, 3, 4, 5] rfl
  have hD : va_D A ((oX1 (p1a 0) p1a p1k p1n p1w p1l) ++ (oX9 (p1a 3) p1_2a p1_2k p1_2n p1_2w)) := hD.sub [6, 7, 8, 9, 10, 11, 12, 13, 14, 15, 16, 17, 18, 19, 20, 21, 22, 23, 0, 1, 2, 3, 4, 5] (by decide) rfl
  have hK : va_K (dC, dI) cls ((tX1 p1k) ++ (tX9 p1_2k)) s := hK.sub [5, 6, 7, 8, 9, 10, 11, 12, 13, 14, 15, 16, 17, 18, 19, 20, 21, 0, 1, 2, 3, 4] rfl
  obtain rfl : o_11 = r12 := hw.symm
  refine lv_i2l (v := ((o_11 : Int32).toInt64)) hx hb dX11_digestBlock_140 rfl ?_
  refine lv_ladd hx hb dX11_digestBlock_141 ?_
  refine lv_lstore (lv' := [(4, .long ((((((((((((((((((p0 * (31 : Int64)) + (((p1w 12 (nn p2)) : Int32).toInt64)) * (31 : Int64)) + (((p1w 13 (nn p2)) : Int32).toInt64)) * (31 : Int64)) + ((o_3 : Int32).toInt64)) * (31 : Int64)) + ((o_5 : Int32).toInt64)) * (31 : Int64)) + (((p1w 8 (nn p2)) : Int32).toInt64)) * (31 : Int64)) + (((p1w 9 (nn p2)) : Int32).toInt64)) * (31 : Int64)) + (((p1w 10 (nn p2)) : Int32).toInt64)) * (31 : Int64)) + (((p1w 11 (nn p2)) : Int32).toInt64)) * (31 : Int64)) + ((o_11 : Int32).toInt64))), (0, .long p0), (2, .ref (p1a 0)), (3, .int p2)]) hx hb dX11_digestBlock_142 hl (by decide) rfl (fun ls hl => ?_)
  refine lv_iconst (v := 0) hx hb dX11_digestBlock_144 (by decide) ?_
  refine lv_istore (lv' := [(6, .int 0), (4, .long ((((((((((((((((((p0 * (31 : Int64)) + (((p1w 12 (nn p2)) : Int32).toInt64)) * (31 : Int64)) + (((p1w 13 (nn p2)) : Int32).toInt64)) * (31 : Int64)) + ((o_3 : Int32).toInt64)) * (31 : Int64)) + ((o_5 : Int32).toInt64)) * (31 : Int64)) + (((p1w 8 (nn p2)) : Int32).toInt64)) * (31 : Int64)) + (((p1w 9 (nn p2)) : Int32).toInt64)) * (31 : Int64)) + (((p1w 10 (nn p2)) : Int32).toInt64)) * (31 : Int64)) + (((p1w 11 (nn p2)) : Int32).toInt64)) * (31 : Int64)) + ((o_11 : Int32).toInt64))), (0, .long p0), (2, .ref (p1a 0)), (3, .int p2)]) hx hb dX11_digestBlock_145 hl (by decide) rfl (fun ls hl => ?_)
  have L147 : ∀ (n_147 : Nat) (v4_147 : Int64) (v6_147 : Int32) (o147 : Int64) (H : Heap) (locs : List Loc) (ls : Array Slot), (fX11_digestBlock_L147 p1w p2 n_147) v4_147 v6_147 = some o147 → va_P (dC, dI) cls ((oX1 (p1a 0) p1a p1k p1n p1w p1l) ++ (oX9 (p1a 3) p1_2a p1_2k p1_2n p1_2w)) H → va_D A ((oX1 (p1a 0) p1a p1k p1n p1w p1l) ++ (oX9 (p1a 3) p1_2a p1_2k p1_2n p1_2w)) → va_K (dC, dI) cls ((tX1 p1k) ++ (tX9 p1_2k)) s → va_S A s.heap H locs → lv_has ls 7 [(2, .ref (p1a 0)), (3, .int p2), (4, .long v4_147), (6, .int v6_147)] → (∀ (H : Heap) (locs : List Loc) (ls : Array Slot), va_P (dC, dI) cls ((oX1 (p1a 0) p1a p1k p1n p1w p1l) ++ (oX9 (p1a 3) p1_2a p1_2k p1_2n p1_2w)) H → va_D A ((oX1 (p1a 0) p1a p1k p1n p1w p1l) ++ (oX9 (p1a 3) p1_2a p1_2k p1_2n p1_2w)) → va_K (dC, dI) cls ((tX1 p1k) ++ (tX9 p1_2k)) s → va_S A s.heap H locs → lv_has ls 7 [(4, .long o147)] → W p l e ({ frames := 1, cells := 0, slots := 0, locals := 23 } : Room) s m ([.long p0, .ref (p1a 0), .int p2] : List Value).toArray below meth c H locs 0 0 Q (F0 m 180 ls [])) → W p l e ({ frames := 1, cells := 0, slots := 0, locals := 23 } : Room) s m ([.long p0, .ref (p1a 0), .int p2] : List Value).toArray below meth c H locs 0 0 Q (F0 m 147 ls []) := by
    intro n_147
    induction n_147 with
    | zero => intro v4_147 v6_147 o147 H locs ls hrun; exact (no9 rfl hrun).elim
    | succ n_147 IH147 =>
      intro v4_147 v6_147 o147 H locs ls hrun hP hD hK hS hl hk147
      unfold fX11_digestBlock_L147 at hrun
      refine lv_iload hx hb dX11_digestBlock_147 (lv_at hl 3 rfl) ?_
      refine lv_aload_n hx hb dX11_digestBlock_149 rfl (lv_at hl 0 rfl) ?_
      refine lv_iload_n hx hb dX11_digestBlock_150 rfl (lv_at hl 1 rfl) ?_
      obtain ⟨o_13, hc_13, hrun⟩ := bnd9 hrun
      have hPc := hP.sub (ws' := (oX1 (p1a 0) p1a p1k p1n p1w p1l)) [0, 1, 2, 3, 4, 5, 6, 7, 8, 9, 10, 11, 12, 13, 14, 15, 16, 17] rfl
      have hDc := hD.sub (ws' := (oX1 (p1a 0) p1a p1k p1n p1w p1l)) [0, 1, 2, 3, 4, 5, 6, 7, 8, 9, 10, 11, 12, 13, 14, 15, 16, 17] (by decide) rfl
      have hKc := hK.sub (tys' := (tX1 p1k)) [0, 1, 2, 3, 4, 5, 6, 7, 8, 9, 10, 11, 12, 13, 14, 15, 16] rfl
      have hFc := va_free (wc := (oX1 (p1a 0) p1a p1k p1n p1w p1l)) hD hS hA [0, 1, 2, 3, 4, 5, 6, 7, 8, 9, 10, 11, 12, 13, 14, 15, 16, 17] rfl
      refine va_calli (va_runV (As := [.int p2]) (rest := [.int v6_147]) ⟨hx, hb, hml, hown, hts⟩ (kX1_waysTo l dC dI (p0a := (st0 (p1a 0) p1a)) (p0k := p1k) (p0n := p1n) (p0w := p1w) (p0l := p1l) (p1 := p2) (sz := _) (o := o_13) (hrun := hc_13)) (cwV 1 hts (gi_V qw1009 qw185 qw186 qw126 (gi_z qw183)) rfl rfl rfl (by decide +kernel) ⟨Nat.le_of_ble_eq_true rfl, Nat.le_of_ble_eq_true rfl⟩) ⟨PRE.blind, va_recv hKc hPc (ci := 4) (q0 := 0) rfl rfl, PRE.of hE hS hFc hPc hKc hDc⟩ rfl rfl hl.1 rfl (lv_room (Nat.le_of_ble_eq_true rfl)) dX11_digestBlock_151 ⟨(Nat.le_of_ble_eq_true rfl), (Nat.le_of_ble_eq_true rfl)⟩) hS (fun q _ h => hFc q h) hFc (fun r14 u t H locs ht hvm hw hB hz1 hk1 hS => ?_)
      obtain ⟨hP, hD, hK⟩ := JOIN (wr := (oX9 (p1a 3) p1_2a p1_2k p1_2n p1_2w)) hP hD hK [0, 1, 2, 3, 4, 5, 6, 7, 8, 9, 10, 11, 12, 13, 14, 15, 16, 17] [18, 19, 20, 21, 22, 23] [17, 18, 19, 20, 21] rfl rfl (by decide) (by decide) rfl hk1 hFc ht hvm hB
      have hP : va_P (dC, dI) cls ((oX1 (p1a 0) p1a p1k p1n p1w p1l) ++ (oX9 (p1a 3) p1_2a p1_2k p1_2n p1_2w)) H := hP.sub [6, 7, 8, 9, 10, 11, 12, 13, 14, 15, 16, 17, 18, 19, 20, 21, 22, 23, 0, 1, 2, 3, 4, 5] rfl
      have hD : va_D A ((oX1 (p1a 0) p1a p1k p1n p1w p1l) ++ (oX9 (p1a 3) p1_2a p1_2k p1_2n p1_2w)) := hD.sub [6, 7, 8, 9, 10, 11, 12, 13, 14, 15, 16, 17, 18, 19, 20, 21, 22, 23, 0, 1, 2, 3, 4, 5] (by decide) rfl
      have hK : va_K (dC, dI) cls ((tX1 p1k) ++ (tX9 p1_2k)) s := hK.sub [5, 6, 7, 8, 9, 10, 11, 12, 13, 14, 15, 16, 17, 18, 19, 20, 21, 0, 1, 2, 3, 4] rfl
      obtain rfl : o_13 = r14 := hw.symm
      rcases br9 hrun with ⟨hc15, hrun⟩ | ⟨hc15, hrun⟩
      · refine lv_icmp_ge (tgt := 180) hx hb dX11_digestBlock_154 (by decide) (fun _ => ?_) (fun c => absurd hc15 c)
        obtain rfl := (Option.some.inj hrun)
        exact hk147 _ _ _ hP hD hK hS (lv_sub hl [2] rfl)
      · refine lv_icmp_ge (tgt := 180) hx hb dX11_digestBlock_154 (by decide) (fun c => absurd c hc15) (fun _ => ?_)
        refine lv_lload hx hb dX11_digestBlock_157 (lv_at hl 2 rfl) ?_
        refine lv_ldc2 (v := 31) hx hb hown (hts _ qw992) dX11_digestBlock_159 ?_
        refine lv_lmul hx hb dX11_digestBlock_162 ?_
        refine lv_aload_n hx hb dX11_digestBlock_163 rfl (lv_at hl 0 rfl) ?_
        refine lv_iload_n hx hb dX11_digestBlock_164 rfl (lv_at hl 1 rfl) ?_
        refine lv_iload hx hb dX11_digestBlock_165 (lv_at hl 3 rfl) ?_
        obtain ⟨o_16, hc_16, hrun⟩ := bnd9 hrun
        have hPc := hP.sub (ws' := (oX1 (p1a 0) p1a p1k p1n p1w p1l)) [0, 1, 2, 3, 4, 5, 6, 7, 8, 9, 10, 11, 12, 13, 14, 15, 16, 17] rfl
        have hDc := hD.sub (ws' := (oX1 (p1a 0) p1a p1k p1n p1w p1l)) [0, 1, 2, 3, 4, 5, 6, 7, 8, 9, 10, 11, 12, 13, 14, 15, 16, 17] (by decide) rfl
        have hKc := hK.sub (tys' := (tX1 p1k)) [0, 1, 2, 3, 4, 5, 6, 7, 8, 9, 10, 11, 12, 13, 14, 15, 16] rfl
        have hFc := va_free (wc := (oX1 (p1a 0) p1a p1k p1n p1w p1l)) hD hS hA [0, 1, 2, 3, 4, 5, 6, 7, 8, 9, 10, 11, 12, 13, 14, 15, 16, 17] rfl
        refine va_calli (va_runV (As := [.int p2, .int v6_147]) (rest := [.long (v4_147 * (31 : Int64))]) ⟨hx, hb, hml, hown, hts⟩ (kX1_wayFrom l dC dI (p0a := (st0 (p1a 0) p1a)) (p0k := p1k) (p0n := p1n) (p0w := p1w) (p0l := p1l) (p1 := p2) (p2 := v6_147) (sz := _) (o := o_16) (hrun := hc_16)) (cwV 2 hts (gi_V qw1010 qw189 qw190 qw126 (gi_z qw187)) rfl rfl rfl (by decide +kernel) ⟨Nat.le_of_ble_eq_true rfl, Nat.le_of_ble_eq_true rfl⟩) ⟨PRE.blind, va_recv hKc hPc (ci := 4) (q0 := 0) rfl rfl, PRE.of hE hS hFc hPc hKc hDc⟩ rfl rfl hl.1 rfl (lv_room (Nat.le_of_ble_eq_true rfl)) dX11_digestBlock_167 ⟨(Nat.le_of_ble_eq_true rfl), (Nat.le_of_ble_eq_true rfl)⟩) hS (fun q _ h => hFc q h) hFc (fun r17 u t H locs ht hvm hw hB hz1 hk1 hS => ?_)
        obtain ⟨hP, hD, hK⟩ := JOIN (wr := (oX9 (p1a 3) p1_2a p1_2k p1_2n p1_2w)) hP hD hK [0, 1, 2, 3, 4, 5, 6, 7, 8, 9, 10, 11, 12, 13, 14, 15, 16, 17] [18, 19, 20, 21, 22, 23] [17, 18, 19, 20, 21] rfl rfl (by decide) (by decide) rfl hk1 hFc ht hvm hB
        have hP : va_P (dC, dI) cls ((oX1 (p1a 0) p1a p1k p1n p1w p1l) ++ (oX9 (p1a 3) p1_2a p1_2k p1_2n p1_2w)) H := hP.sub [6, 7, 8, 9, 10, 11, 12, 13, 14, 15, 16, 17, 18, 19, 20, 21, 22, 23, 0, 1, 2, 3, 4, 5] rfl
        have hD : va_D A ((oX1 (p1a 0) p1a p1k p1n p1w p1l) ++ (oX9 (p1a 3) p1_2a p1_2k p1_2n p1_2w)) := hD.sub [6, 7, 8, 9, 10, 11, 12, 13, 14, 15, 16, 17, 18, 19, 20, 21, 22, 23, 0, 1, 2, 3, 4, 5] (by decide) rfl
        have hK : va_K (dC, dI) cls ((tX1 p1k) ++ (tX9 p1_2k)) s := hK.sub [5, 6, 7, 8, 9, 10, 11, 12, 13, 14, 15, 16, 17, 18, 19, 20, 21, 0, 1, 2, 3, 4] rfl
        obtain rfl : o_16 = r17 := hw.symm
        refine lv_i2l (v := ((o_16 : Int32).toInt64)) hx hb dX11_digestBlock_170 rfl ?_
        refine lv_ladd hx hb dX11_digestBlock_171 ?_
        refine lv_lstore (lv' := [(4, .long ((v4_147 * (31 : Int64)) + ((o_16 : Int32).toInt64))), (2, .ref (p1a 0)), (3, .int p2), (6, .int v6_147)]) hx hb dX11_digestBlock_172 hl (by decide) rfl (fun ls hl => ?_)
        refine lv_iinc (v := (v6_147 + 1)) (lv' := [(6, .int (v6_147 + 1)), (4, .long ((v4_147 * (31 : Int64)) + ((o_16 : Int32).toInt64))), (2, .ref (p1a 0)), (3, .int p2)]) hx hb dX11_digestBlock_174 hl (k := 3) rfl rfl (by decide) rfl (fun ls hl => ?_)
        refine lv_goto (tgt := 147) hx hb dX11_digestBlock_177 (by decide) ?_
        exact IH147 ((v4_147 * (31 : Int64)) + ((o_16 : Int32).toInt64)) (v6_147 + 1) o147 _ _ _ hrun hP hD hK hS (lv_sub hl [2, 3, 1, 0] rfl) hk147
  obtain ⟨o147, hc147, hrun⟩ := bnd9 hrun
  refine L147 NF ((((((((((((((((((p0 * (31 : Int64)) + (((p1w 12 (nn p2)) : Int32).toInt64)) * (31 : Int64)) + (((p1w 13 (nn p2)) : Int32).toInt64)) * (31 : Int64)) + ((o_3 : Int32).toInt64)) * (31 : Int64)) + ((o_5 : Int32).toInt64)) * (31 : Int64)) + (((p1w 8 (nn p2)) : Int32).toInt64)) * (31 : Int64)) + (((p1w 9 (nn p2)) : Int32).toInt64)) * (31 : Int64)) + (((p1w 10 (nn p2)) : Int32).toInt64)) * (31 : Int64)) + (((p1w 11 (nn p2)) : Int32).toInt64)) * (31 : Int64)) + ((o_11 : Int32).toInt64)) 0 o147 _ _ _ hc147 hP hD hK hS (lv_sub hl [3, 4, 1, 0] rfl) ?_
  intro H locs ls hP hD hK hS hl
  have hl := hl
  refine lv_lload hx hb dX11_digestBlock_180 (lv_at hl 0 rfl) ?_
  have ho9 : o147 = o := Option.some.inj hrun
  have hP9 : va_P (dC, dI) cls ((oX1 (p1a 0) p1a p1k p1n p1w p1l) ++ (oX9 (p1a 3) p1_2a p1_2k p1_2n p1_2w)) H := by first | exact hP | (rw [← ho9]; exact hP)
  have hD9 : va_D A ((oX1 (p1a 0) p1a p1k p1n p1w p1l) ++ (oX9 (p1a 3) p1_2a p1_2k p1_2n p1_2w)) := by first | exact hD | (rw [← ho9]; exact hD)
  subst hQ
  exact W.lret (v := o147) hx hb hr (fun t ht hW => ⟨⟨o147, (), rfl, (by rw [← ho9]), ⟨by rw [ht]; exact hP9, va_K.moved hW.alike hK, hD9⟩⟩, hS.F ht⟩) hS.2.2 dX11_digestBlock_182
