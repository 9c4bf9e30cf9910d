abbrev cX3_moveInText : ByteArray := prog_5_method_19_code
def yX3_moveInText : MethodName := ⟨RX3, "moveInText", "()V"⟩
abbrev cX3_moveLine : ByteArray := prog_5_method_28_code
def yX3_moveLine : MethodName := ⟨RX3, "moveLine", "(LGearbox$Steps;II)V"⟩
abbrev cX3_moveStep : ByteArray := prog_5_method_26_code
def yX3_moveStep : MethodName := ⟨RX3, "moveStep", "(LGearbox$Steps;II)V"⟩
abbrev cX3_save : ByteArray := prog_5_method_4_code
def yX3_save : MethodName := ⟨RX3, "save", "([I)V"⟩
abbrev cX3_tell : ByteArray := prog_5_method_3_code
def yX3_tell : MethodName := ⟨RX3, "tell", "(IIII)V"⟩
abbrev cX11_needFunction : ByteArray := prog_1_method_50_code
def yX11_needFunction : MethodName := ⟨RX11, "needFunction", "(I)V"⟩
abbrev cX11_digestBlock : ByteArray := prog_1_method_59_code
def yX11_digestBlock : MethodName := ⟨RX11, "digestBlock", "(JLGearbox$Flow;I)J"⟩
abbrev cX11_digestPhis : ByteArray := prog_1_method_60_code
def yX11_digestPhis : MethodName := ⟨RX11, "digestPhis", "(JLGearbox$Flow;I)J"⟩
abbrev cX11_digestStep : ByteArray := prog_1_method_62_code
def yX11_digestStep : MethodName := ⟨RX11, "digestStep", "(JLGearbox$Steps;I)J"⟩
abbrev cX11_digestSteps : ByteArray := prog_1_method_61_code
def yX11_digestSteps : MethodName := ⟨RX11, "digestSteps", "(JLGearbox$Flow;I)J"⟩
abbrev cX11_feed : ByteArray := prog_1_method_2_code
def yX11_feed : MethodName := ⟨RX11, "feed", "(IIIII)I"⟩
abbrev cX11_functions : ByteArray := prog_1_method_7_code
def yX11_functions : MethodName := ⟨RX11, "functions", "()I"⟩
abbrev cX11_needPlace : ByteArray := prog_1_method_51_code
def yX11_needPlace : MethodName := ⟨RX11, "needPlace", "(II)V"⟩
abbrev cX11_result : ByteArray := prog_1_method_44_code
def yX11_result : MethodName := ⟨RX11, "result", "()I"⟩
abbrev cX11_rounds : ByteArray := prog_1_method_41_code
def yX11_rounds : MethodName := ⟨RX11, "rounds", "(I)I"⟩
abbrev cX11_slots : ByteArray := prog_1_method_39_code
def yX11_slots : MethodName := ⟨RX11, "slots", "(I)I"⟩
abbrev cX11_word : ByteArray := prog_1_method_46_code
def yX11_word : MethodName := ⟨RX11, "word", "(I)I"⟩
theorem dX11_digestBlock_0 : decode cX11_digestBlock 0 = .ok (.lload_n 0, 1) := by decide +kernel
theorem dX11_digestBlock_1 : decode cX11_digestBlock 1 = .ok (.lstore 4, 2) := by decide +kernel
theorem dX11_digestBlock_3 : decode cX11_digestBlock 3 = .ok (.lload 4, 2) := by decide +kernel
theorem dX11_digestBlock_5 : decode cX11_digestBlock 5 = .ok (.ldc2_w 323, 3) := by decide +kernel
theorem dX11_digestBlock_8 : decode cX11_digestBlock 8 = .ok (.lmul, 1) := by decide +kernel
theorem dX11_digestBlock_9 : decode cX11_digestBlock 9 = .ok (.aload_n 2, 1) := by decide +kernel
theorem dX11_digestBlock_10 : decode cX11_digestBlock 10 = .ok (.getfield 159, 3) := by decide +kernel
theorem dX11_digestBlock_13 : decode cX11_digestBlock 13 = .ok (.iload_n 3, 1) := by decide +kernel
theorem dX11_digestBlock_14 : decode cX11_digestBlock 14 = .ok (.iaload, 1) := by decide +kernel
theorem dX11_digestBlock_15 : decode cX11_digestBlock 15 = .ok (.i2l, 1) := by decide +kernel
theorem dX11_digestBlock_16 : decode cX11_digestBlock 16 = .ok (.ladd, 1) := by decide +kernel
theorem dX11_digestBlock_17 : decode cX11_digestBlock 17 = .ok (.lstore 4, 2) := by decide +kernel
theorem dX11_digestBlock_19 : decode cX11_digestBlock 19 = .ok (.lload 4, 2) := by decide +kernel
theorem dX11_digestBlock_21 : decode cX11_digestBlock 21 = .ok (.ldc2_w 323, 3) := by decide +kernel
theorem dX11_digestBlock_24 : decode cX11_digestBlock 24 = .ok (.lmul, 1) := by decide +kernel
theorem dX11_digestBlock_25 : decode cX11_digestBlock 25 = .ok (.aload_n 2, 1) := by decide +kernel
theorem dX11_digestBlock_26 : decode cX11_digestBlock 26 = .ok (.getfield 162, 3) := by decide +kernel
theorem dX11_digestBlock_29 : decode cX11_digestBlock 29 = .ok (.iload_n 3, 1) := by decide +kernel
theorem dX11_digestBlock_30 : decode cX11_digestBlock 30 = .ok (.iaload, 1) := by decide +kernel
theorem dX11_digestBlock_31 : decode cX11_digestBlock 31 = .ok (.i2l, 1) := by decide +kernel
theorem dX11_digestBlock_32 : decode cX11_digestBlock 32 = .ok (.ladd, 1) := by decide +kernel
theorem dX11_digestBlock_33 : decode cX11_digestBlock 33 = .ok (.lstore 4, 2) := by decide +kernel
theorem dX11_digestBlock_35 : decode cX11_digestBlock 35 = .ok (.lload 4, 2) := by decide +kernel
theorem dX11_digestBlock_37 : decode cX11_digestBlock 37 = .ok (.ldc2_w 323, 3) := by decide +kernel
theorem dX11_digestBlock_40 : decode cX11_digestBlock 40 = .ok (.lmul, 1) := by decide +kernel
theorem dX11_digestBlock_41 : decode cX11_digestBlock 41 = .ok (.aload_n 2, 1) := by decide +kernel
theorem dX11_digestBlock_42 : decode cX11_digestBlock 42 = .ok (.iload_n 3, 1) := by decide +kernel
theorem dX11_digestBlock_43 : decode cX11_digestBlock 43 = .ok (.invokevirtual 188, 3) := by decide +kernel
theorem dX11_digestBlock_46 : decode cX11_digestBlock 46 = .ok (.i2l, 1) := by decide +kernel
theorem dX11_digestBlock_47 : decode cX11_digestBlock 47 = .ok (.ladd, 1) := by decide +kernel
theorem dX11_digestBlock_48 : decode cX11_digestBlock 48 = .ok (.lstore 4, 2) := by decide +kernel
theorem dX11_digestBlock_50 : decode cX11_digestBlock 50 = .ok (.lload 4, 2) := by decide +kernel
theorem dX11_digestBlock_52 : decode cX11_digestBlock 52 = .ok (.ldc2_w 323, 3) := by decide +kernel
theorem dX11_digestBlock_55 : decode cX11_digestBlock 55 = .ok (.lmul, 1) := by decide +kernel
theorem dX11_digestBlock_56 : decode cX11_digestBlock 56 = .ok (.aload_n 2, 1) := by decide +kernel
theorem dX11_digestBlock_57 : decode cX11_digestBlock 57 = .ok (.iload_n 3, 1) := by decide +kernel
theorem dX11_digestBlock_58 : decode cX11_digestBlock 58 = .ok (.invokevirtual 203, 3) := by decide +kernel
theorem dX11_digestBlock_61 : decode cX11_digestBlock 61 = .ok (.i2l, 1) := by decide +kernel
theorem dX11_digestBlock_62 : decode cX11_digestBlock 62 = .ok (.ladd, 1) := by decide +kernel
theorem dX11_digestBlock_63 : decode cX11_digestBlock 63 = .ok (.lstore 4, 2) := by decide +kernel
theorem dX11_digestBlock_65 : decode cX11_digestBlock 65 = .ok (.lload 4, 2) := by decide +kernel
theorem dX11_digestBlock_67 : decode cX11_digestBlock 67 = .ok (.ldc2_w 323, 3) := by decide +kernel
theorem dX11_digestBlock_70 : decode cX11_digestBlock 70 = .ok (.lmul, 1) := by decide +kernel
theorem dX11_digestBlock_71 : decode cX11_digestBlock 71 = .ok (.aload_n 2, 1) := by decide +kernel
theorem dX11_digestBlock_72 : decode cX11_digestBlock 72 = .ok (.getfield 176, 3) := by decide +kernel
theorem dX11_digestBlock_75 : decode cX11_digestBlock 75 = .ok (.iload_n 3, 1) := by decide +kernel
theorem dX11_digestBlock_76 : decode cX11_digestBlock 76 = .ok (.iaload, 1) := by decide +kernel
theorem dX11_digestBlock_77 : decode cX11_digestBlock 77 = .ok (.i2l, 1) := by decide +kernel
theorem dX11_digestBlock_78 : decode cX11_digestBlock 78 = .ok (.ladd, 1) := by decide +kernel
theorem dX11_digestBlock_79 : decode cX11_digestBlock 79 = .ok (.lstore 4, 2) := by decide +kernel
theorem dX11_digestBlock_81 : decode cX11_digestBlock 81 = .ok (.lload 4, 2) := by decide +kernel
theorem dX11_digestBlock_83 : decode cX11_digestBlock 83 = .ok (.ldc2_w 323, 3) := by decide +kernel
theorem dX11_digestBlock_86 : decode cX11_digestBlock 86 = .ok (.lmul, 1) := by decide +kernel
theorem dX11_digestBlock_87 : decode cX11_digestBlock 87 = .ok (.aload_n 2, 1) := by decide +kernel
theorem dX11_digestBlock_88 : decode cX11_digestBlock 88 = .ok (.getfield 185, 3) := by decide +kernel
theorem dX11_digestBlock_91 : decode cX11_digestBlock 91 = .ok (.iload_n 3, 1) := by decide +kernel
theorem dX11_digestBlock_92 : decode cX11_digestBlock 92 = .ok (.iaload, 1) := by decide +kernel
theorem dX11_digestBlock_93 : decode cX11_digestBlock 93 = .ok (.i2l, 1) := by decide +kernel
theorem dX11_digestBlock_94 : decode cX11_digestBlock 94 = .ok (.ladd, 1) := by decide +kernel
theorem dX11_digestBlock_95 : decode cX11_digestBlock 95 = .ok (.lstore 4, 2) := by decide +kernel
theorem dX11_digestBlock_97 : decode cX11_digestBlock 97 = .ok (.lload 4, 2) := by decide +kernel
theorem dX11_digestBlock_99 : decode cX11_digestBlock 99 = .ok (.ldc2_w 323, 3) := by decide +kernel
theorem dX11_digestBlock_102 : decode cX11_digestBlock 102 = .ok (.lmul, 1) := by decide +kernel
theorem dX11_digestBlock_103 : decode cX11_digestBlock 103 = .ok (.aload_n 2, 1) := by decide +kernel
theorem dX11_digestBlock_104 : decode cX11_digestBlock 104 = .ok (.getfield 182, 3) := by decide +kernel
theorem dX11_digestBlock_107 : decode cX11_digestBlock 107 = .ok (.iload_n 3, 1) := by decide +kernel
theorem dX11_digestBlock_108 : decode cX11_digestBlock 108 = .ok (.iaload, 1) := by decide +kernel
theorem dX11_digestBlock_109 : decode cX11_digestBlock 109 = .ok (.i2l, 1) := by decide +kernel
theorem dX11_digestBlock_110 : decode cX11_digestBlock 110 = .ok (.ladd, 1) := by decide +kernel
theorem dX11_digestBlock_111 : decode cX11_digestBlock 111 = .ok (.lstore 4, 2) := by decide +kernel
theorem dX11_digestBlock_113 : decode cX11_digestBlock 113 = .ok (.lload 4, 2) := by decide +kernel
theorem dX11_digestBlock_115 : decode cX11_digestBlock 115 = .ok (.ldc2_w 323, 3) := by decide +kernel
theorem dX11_digestBlock_118 : decode cX11_digestBlock 118 = .ok (.lmul, 1) := by decide +kernel
theorem dX11_digestBlock_119 : decode cX11_digestBlock 119 = .ok (.aload_n 2, 1) := by decide +kernel
theorem dX11_digestBlock_120 : decode cX11_digestBlock 120 = .ok (.getfield 179, 3) := by decide +kernel
theorem dX11_digestBlock_123 : decode cX11_digestBlock 123 = .ok (.iload_n 3, 1) := by decide +kernel
theorem dX11_digestBlock_124 : decode cX11_digestBlock 124 = .ok (.iaload, 1) := by decide +kernel
theorem dX11_digestBlock_125 : decode cX11_digestBlock 125 = .ok (.i2l, 1) := by decide +kernel
theorem dX11_digestBlock_126 : decode cX11_digestBlock 126 = .ok (.ladd, 1) := by decide +kernel
theorem dX11_digestBlock_127 : decode cX11_digestBlock 127 = .ok (.lstore 4, 2) := by decide +kernel
theorem dX11_digestBlock_129 : decode cX11_digestBlock 129 = .ok (.lload 4, 2) := by decide +kernel
theorem dX11_digestBlock_131 : decode cX11_digestBlock 131 = .ok (.ldc2_w 323, 3) := by decide +kernel
theorem dX11_digestBlock_134 : decode cX11_digestBlock 134 = .ok (.lmul, 1) := by decide +kernel
theorem dX11_digestBlock_135 : decode cX11_digestBlock 135 = .ok (.aload_n 2, 1) := by decide +kernel
theorem dX11_digestBlock_136 : decode cX11_digestBlock 136 = .ok (.iload_n 3, 1) := by decide +kernel
theorem dX11_digestBlock_137 : decode cX11_digestBlock 137 = .ok (.invokevirtual 165, 3) := by decide +kernel
theorem dX11_digestBlock_140 : decode cX11_digestBlock 140 = .ok (.i2l, 1) := by decide +kernel
theorem dX11_digestBlock_141 : decode cX11_digestBlock 141 = .ok (.ladd, 1) := by decide +kernel
theorem dX11_digestBlock_142 : decode cX11_digestBlock 142 = .ok (.lstore 4, 2) := by decide +kernel
theorem dX11_digestBlock_144 : decode cX11_digestBlock 144 = .ok (.iconst 0, 1) := by decide +kernel
theorem dX11_digestBlock_145 : decode cX11_digestBlock 145 = .ok (.istore 6, 2) := by decide +kernel
theorem dX11_digestBlock_147 : decode cX11_digestBlock 147 = .ok (.iload 6, 2) := by decide +kernel
theorem dX11_digestBlock_149 : decode cX11_digestBlock 149 = .ok (.aload_n 2, 1) := by decide +kernel
theorem dX11_digestBlock_150 : decode cX11_digestBlock 150 = .ok (.iload_n 3, 1) := by decide +kernel
theorem dX11_digestBlock_151 : decode cX11_digestBlock 151 = .ok (.invokevirtual 165, 3) := by decide +kernel
theorem dX11_digestBlock_154 : decode cX11_digestBlock 154 = .ok (.if_icmp .ge 26, 3) := by decide +kernel
theorem dX11_digestBlock_157 : decode cX11_digestBlock 157 = .ok (.lload 4, 2) := by decide +kernel
theorem dX11_digestBlock_159 : decode cX11_digestBlock 159 = .ok (.ldc2_w 323, 3) := by decide +kernel
theorem dX11_digestBlock_162 : decode cX11_digestBlock 162 = .ok (.lmul, 1) := by decide +kernel
theorem dX11_digestBlock_163 : decode cX11_digestBlock 163 = .ok (.aload_n 2, 1) := by decide +kernel
theorem dX11_digestBlock_164 : decode cX11_digestBlock 164 = .ok (.iload_n 3, 1) := by decide +kernel
theorem dX11_digestBlock_165 : decode cX11_digestBlock 165 = .ok (.iload 6, 2) := by decide +kernel
theorem dX11_digestBlock_167 : decode cX11_digestBlock 167 = .ok (.invokevirtual 172, 3) := by decide +kernel
theorem dX11_digestBlock_170 : decode cX11_digestBlock 170 = .ok (.i2l, 1) := by decide +kernel
theorem dX11_digestBlock_171 : decode cX11_digestBlock 171 = .ok (.ladd, 1) := by decide +kernel
theorem dX11_digestBlock_172 : decode cX11_digestBlock 172 = .ok (.lstore 4, 2) := by decide +kernel
theorem dX11_digestBlock_174 : decode cX11_digestBlock 174 = .ok (.iinc 6 1, 3) := by decide +kernel
theorem dX11_digestBlock_177 : decode cX11_digestBlock 177 = .ok (.goto (-30), 3) := by decide +kernel
theorem dX11_digestBlock_180 : decode cX11_digestBlock 180 = .ok (.lload 4, 2) := by decide +kernel
theorem dX11_digestBlock_182 : decode cX11_digestBlock 182 = .ok (.lreturn, 1) := by decide +kernel
theorem dX11_digestPhis_0 : decode cX11_digestPhis 0 = .ok (.lload_n 0, 1) := by decide +kernel
theorem dX11_digestPhis_1 : decode cX11_digestPhis 1 = .ok (.lstore 4, 2) := by decide +kernel
theorem dX11_digestPhis_3 : decode cX11_digestPhis 3 = .ok (.aload_n 2, 1) := by decide +kernel
theorem dX11_digestPhis_4 : decode cX11_digestPhis 4 = .ok (.getfield 365, 3) := by decide +kernel
theorem dX11_digestPhis_7 : decode cX11_digestPhis 7 = .ok (.iload_n 3, 1) := by decide +kernel
theorem dX11_digestPhis_8 : decode cX11_digestPhis 8 = .ok (.iaload, 1) := by decide +kernel
theorem dX11_digestPhis_9 : decode cX11_digestPhis 9 = .ok (.istore 6, 2) := by decide +kernel
theorem dX11_digestPhis_11 : decode cX11_digestPhis 11 = .ok (.iload 6, 2) := by decide +kernel
theorem dX11_digestPhis_13 : decode cX11_digestPhis 13 = .ok (.ifCond .lt 74, 3) := by decide +kernel
theorem dX11_digestPhis_16 : decode cX11_digestPhis 16 = .ok (.lload 4, 2) := by decide +kernel
theorem dX11_digestPhis_18 : decode cX11_digestPhis 18 = .ok (.ldc2_w 323, 3) := by decide +kernel
theorem dX11_digestPhis_21 : decode cX11_digestPhis 21 = .ok (.lmul, 1) := by decide +kernel
theorem dX11_digestPhis_22 : decode cX11_digestPhis 22 = .ok (.aload_n 2, 1) := by decide +kernel
theorem dX11_digestPhis_23 : decode cX11_digestPhis 23 = .ok (.getfield 197, 3) := by decide +kernel
theorem dX11_digestPhis_26 : decode cX11_digestPhis 26 = .ok (.iload 6, 2) := by decide +kernel
theorem dX11_digestPhis_28 : decode cX11_digestPhis 28 = .ok (.iaload, 1) := by decide +kernel
theorem dX11_digestPhis_29 : decode cX11_digestPhis 29 = .ok (.i2l, 1) := by decide +kernel
theorem dX11_digestPhis_30 : decode cX11_digestPhis 30 = .ok (.ladd, 1) := by decide +kernel
theorem dX11_digestPhis_31 : decode cX11_digestPhis 31 = .ok (.lstore 4, 2) := by decide +kernel
theorem dX11_digestPhis_33 : decode cX11_digestPhis 33 = .ok (.iconst 0, 1) := by decide +kernel
theorem dX11_digestPhis_34 : decode cX11_digestPhis 34 = .ok (.istore 7, 2) := by decide +kernel
theorem dX11_digestPhis_36 : decode cX11_digestPhis 36 = .ok (.iload 7, 2) := by decide +kernel
theorem dX11_digestPhis_38 : decode cX11_digestPhis 38 = .ok (.aload_n 2, 1) := by decide +kernel
theorem dX11_digestPhis_39 : decode cX11_digestPhis 39 = .ok (.iload_n 3, 1) := by decide +kernel
theorem dX11_digestPhis_40 : decode cX11_digestPhis 40 = .ok (.invokevirtual 165, 3) := by decide +kernel
theorem dX11_digestPhis_43 : decode cX11_digestPhis 43 = .ok (.if_icmp .ge 32, 3) := by decide +kernel
theorem dX11_digestPhis_46 : decode cX11_digestPhis 46 = .ok (.lload 4, 2) := by decide +kernel
theorem dX11_digestPhis_48 : decode cX11_digestPhis 48 = .ok (.ldc2_w 323, 3) := by decide +kernel
theorem dX11_digestPhis_51 : decode cX11_digestPhis 51 = .ok (.lmul, 1) := by decide +kernel
theorem dX11_digestPhis_52 : decode cX11_digestPhis 52 = .ok (.aload_n 2, 1) := by decide +kernel
theorem dX11_digestPhis_53 : decode cX11_digestPhis 53 = .ok (.iload 6, 2) := by decide +kernel
theorem dX11_digestPhis_55 : decode cX11_digestPhis 55 = .ok (.aload_n 2, 1) := by decide +kernel
theorem dX11_digestPhis_56 : decode cX11_digestPhis 56 = .ok (.iload_n 3, 1) := by decide +kernel
theorem dX11_digestPhis_57 : decode cX11_digestPhis 57 = .ok (.iload 7, 2) := by decide +kernel
theorem dX11_digestPhis_59 : decode cX11_digestPhis 59 = .ok (.invokevirtual 172, 3) := by decide +kernel
theorem dX11_digestPhis_62 : decode cX11_digestPhis 62 = .ok (.invokevirtual 200, 3) := by decide +kernel
theorem dX11_digestPhis_65 : decode cX11_digestPhis 65 = .ok (.i2l, 1) := by decide +kernel
theorem dX11_digestPhis_66 : decode cX11_digestPhis 66 = .ok (.ladd, 1) := by decide +kernel
theorem dX11_digestPhis_67 : decode cX11_digestPhis 67 = .ok (.lstore 4, 2) := by decide +kernel
theorem dX11_digestPhis_69 : decode cX11_digestPhis 69 = .ok (.iinc 7 1, 3) := by decide +kernel
theorem dX11_digestPhis_72 : decode cX11_digestPhis 72 = .ok (.goto (-36), 3) := by decide +kernel
theorem dX11_digestPhis_75 : decode cX11_digestPhis 75 = .ok (.aload_n 2, 1) := by decide +kernel
theorem dX11_digestPhis_76 : decode cX11_digestPhis 76 = .ok (.getfield 368, 3) := by decide +kernel
theorem dX11_digestPhis_79 : decode cX11_digestPhis 79 = .ok (.iload 6, 2) := by decide +kernel
theorem dX11_digestPhis_81 : decode cX11_digestPhis 81 = .ok (.iaload, 1) := by decide +kernel
theorem dX11_digestPhis_82 : decode cX11_digestPhis 82 = .ok (.istore 6, 2) := by decide +kernel
theorem dX11_digestPhis_84 : decode cX11_digestPhis 84 = .ok (.goto (-73), 3) := by decide +kernel
theorem dX11_digestPhis_87 : decode cX11_digestPhis 87 = .ok (.lload 4, 2) := by decide +kernel
theorem dX11_digestPhis_89 : decode cX11_digestPhis 89 = .ok (.lreturn, 1) := by decide +kernel
theorem dX11_digestStep_0 : decode cX11_digestStep 0 = .ok (.lload_n 0, 1) := by decide +kernel
theorem dX11_digestStep_1 : decode cX11_digestStep 1 = .ok (.lstore 4, 2) := by decide +kernel
theorem dX11_digestStep_3 : decode cX11_digestStep 3 = .ok (.lload 4, 2) := by decide +kernel
theorem dX11_digestStep_5 : decode cX11_digestStep 5 = .ok (.ldc2_w 323, 3) := by decide +kernel
theorem dX11_digestStep_8 : decode cX11_digestStep 8 = .ok (.lmul, 1) := by decide +kernel
theorem dX11_digestStep_9 : decode cX11_digestStep 9 = .ok (.aload_n 2, 1) := by decide +kernel
theorem dX11_digestStep_10 : decode cX11_digestStep 10 = .ok (.getfield 214, 3) := by decide +kernel
theorem dX11_digestStep_13 : decode cX11_digestStep 13 = .ok (.iload_n 3, 1) := by decide +kernel
theorem dX11_digestStep_14 : decode cX11_digestStep 14 = .ok (.iaload, 1) := by decide +kernel
theorem dX11_digestStep_15 : decode cX11_digestStep 15 = .ok (.i2l, 1) := by decide +kernel
theorem dX11_digestStep_16 : decode cX11_digestStep 16 = .ok (.ladd, 1) := by decide +kernel
theorem dX11_digestStep_17 : decode cX11_digestStep 17 = .ok (.lstore 4, 2) := by decide +kernel
theorem dX11_digestStep_19 : decode cX11_digestStep 19 = .ok (.lload 4, 2) := by decide +kernel
theorem dX11_digestStep_21 : decode cX11_digestStep 21 = .ok (.ldc2_w 323, 3) := by decide +kernel
theorem dX11_digestStep_24 : decode cX11_digestStep 24 = .ok (.lmul, 1) := by decide +kernel
theorem dX11_digestStep_25 : decode cX11_digestStep 25 = .ok (.aload_n 2, 1) := by decide +kernel
theorem dX11_digestStep_26 : decode cX11_digestStep 26 = .ok (.getfield 219, 3) := by decide +kernel
theorem dX11_digestStep_29 : decode cX11_digestStep 29 = .ok (.iload_n 3, 1) := by decide +kernel
theorem dX11_digestStep_30 : decode cX11_digestStep 30 = .ok (.iaload, 1) := by decide +kernel
theorem dX11_digestStep_31 : decode cX11_digestStep 31 = .ok (.i2l, 1) := by decide +kernel
theorem dX11_digestStep_32 : decode cX11_digestStep 32 = .ok (.ladd, 1) := by decide +kernel
theorem dX11_digestStep_33 : decode cX11_digestStep 33 = .ok (.lstore 4, 2) := by decide +kernel
theorem dX11_digestStep_35 : decode cX11_digestStep 35 = .ok (.lload 4, 2) := by decide +kernel
theorem dX11_digestStep_37 : decode cX11_digestStep 37 = .ok (.ldc2_w 323, 3) := by decide +kernel
theorem dX11_digestStep_40 : decode cX11_digestStep 40 = .ok (.lmul, 1) := by decide +kernel
theorem dX11_digestStep_41 : decode cX11_digestStep 41 = .ok (.aload_n 2, 1) := by decide +kernel
theorem dX11_digestStep_42 : decode cX11_digestStep 42 = .ok (.getfield 222, 3) := by decide +kernel
theorem dX11_digestStep_45 : decode cX11_digestStep 45 = .ok (.iload_n 3, 1) := by decide +kernel
theorem dX11_digestStep_46 : decode cX11_digestStep 46 = .ok (.iaload, 1) := by decide +kernel
theorem dX11_digestStep_47 : decode cX11_digestStep 47 = .ok (.i2l, 1) := by decide +kernel
theorem dX11_digestStep_48 : decode cX11_digestStep 48 = .ok (.ladd, 1) := by decide +kernel
theorem dX11_digestStep_49 : decode cX11_digestStep 49 = .ok (.lstore 4, 2) := by decide +kernel
theorem dX11_digestStep_51 : decode cX11_digestStep 51 = .ok (.lload 4, 2) := by decide +kernel
theorem dX11_digestStep_53 : decode cX11_digestStep 53 = .ok (.ldc2_w 323, 3) := by decide +kernel
theorem dX11_digestStep_56 : decode cX11_digestStep 56 = .ok (.lmul, 1) := by decide +kernel
theorem dX11_digestStep_57 : decode cX11_digestStep 57 = .ok (.aload_n 2, 1) := by decide +kernel
theorem dX11_digestStep_58 : decode cX11_digestStep 58 = .ok (.getfield 225, 3) := by decide +kernel
theorem dX11_digestStep_61 : decode cX11_digestStep 61 = .ok (.iload_n 3, 1) := by decide +kernel
theorem dX11_digestStep_62 : decode cX11_digestStep 62 = .ok (.iaload, 1) := by decide +kernel
theorem dX11_digestStep_63 : decode cX11_digestStep 63 = .ok (.i2l, 1) := by decide +kernel
theorem dX11_digestStep_64 : decode cX11_digestStep 64 = .ok (.ladd, 1) := by decide +kernel
theorem dX11_digestStep_65 : decode cX11_digestStep 65 = .ok (.lstore 4, 2) := by decide +kernel
theorem dX11_digestStep_67 : decode cX11_digestStep 67 = .ok (.lload 4, 2) := by decide +kernel
theorem dX11_digestStep_69 : decode cX11_digestStep 69 = .ok (.lreturn, 1) := by decide +kernel
theorem dX11_digestSteps_0 : decode cX11_digestSteps 0 = .ok (.lload_n 0, 1) := by decide +kernel
theorem dX11_digestSteps_1 : decode cX11_digestSteps 1 = .ok (.lstore 4, 2) := by decide +kernel
theorem dX11_digestSteps_3 : decode cX11_digestSteps 3 = .ok (.aload_n 2, 1) := by decide +kernel
theorem dX11_digestSteps_4 : decode cX11_digestSteps 4 = .ok (.getfield 371, 3) := by decide +kernel
theorem dX11_digestSteps_7 : decode cX11_digestSteps 7 = .ok (.iload_n 3, 1) := by decide +kernel
theorem dX11_digestSteps_8 : decode cX11_digestSteps 8 = .ok (.iaload, 1) := by decide +kernel
theorem dX11_digestSteps_9 : decode cX11_digestSteps 9 = .ok (.istore 6, 2) := by decide +kernel
theorem dX11_digestSteps_11 : decode cX11_digestSteps 11 = .ok (.iload 6, 2) := by decide +kernel
theorem dX11_digestSteps_13 : decode cX11_digestSteps 13 = .ok (.ifCond .lt 31, 3) := by decide +kernel
theorem dX11_digestSteps_16 : decode cX11_digestSteps 16 = .ok (.lload 4, 2) := by decide +kernel
theorem dX11_digestSteps_18 : decode cX11_digestSteps 18 = .ok (.aload_n 2, 1) := by decide +kernel
theorem dX11_digestSteps_19 : decode cX11_digestSteps 19 = .ok (.getfield 210, 3) := by decide +kernel
theorem dX11_digestSteps_22 : decode cX11_digestSteps 22 = .ok (.iload 6, 2) := by decide +kernel
theorem dX11_digestSteps_24 : decode cX11_digestSteps 24 = .ok (.invokestatic 361, 3) := by decide +kernel
theorem dX11_digestSteps_27 : decode cX11_digestSteps 27 = .ok (.lstore 4, 2) := by decide +kernel
theorem dX11_digestSteps_29 : decode cX11_digestSteps 29 = .ok (.aload_n 2, 1) := by decide +kernel
theorem dX11_digestSteps_30 : decode cX11_digestSteps 30 = .ok (.getfield 210, 3) := by decide +kernel
theorem dX11_digestSteps_33 : decode cX11_digestSteps 33 = .ok (.getfield 374, 3) := by decide +kernel
theorem dX11_digestSteps_36 : decode cX11_digestSteps 36 = .ok (.iload 6, 2) := by decide +kernel
theorem dX11_digestSteps_38 : decode cX11_digestSteps 38 = .ok (.iaload, 1) := by decide +kernel
theorem dX11_digestSteps_39 : decode cX11_digestSteps 39 = .ok (.istore 6, 2) := by decide +kernel
theorem dX11_digestSteps_41 : decode cX11_digestSteps 41 = .ok (.goto (-30), 3) := by decide +kernel
theorem dX11_digestSteps_44 : decode cX11_digestSteps 44 = .ok (.lload 4, 2) := by decide +kernel
theorem dX11_digestSteps_46 : decode cX11_digestSteps 46 = .ok (.lreturn, 1) := by decide +kernel
theorem dX11_feed_0 : decode cX11_feed 0 = .ok (.aload_n 0, 1) := by decide +kernel
theorem dX11_feed_1 : decode cX11_feed 1 = .ok (.getfield 10, 3) := by decide +kernel
theorem dX11_feed_4 : decode cX11_feed 4 = .ok (.getfield 86, 3) := by decide +kernel
theorem dX11_feed_7 : decode cX11_feed 7 = .ok (.bipush 20, 2) := by decide +kernel
theorem dX11_feed_9 : decode cX11_feed 9 = .ok (.iadd, 1) := by decide +kernel
theorem dX11_feed_10 : decode cX11_feed 10 = .ok (.sipush 1200, 3) := by decide +kernel
theorem dX11_feed_13 : decode cX11_feed 13 = .ok (.if_icmp .le 13, 3) := by decide +kernel
theorem dX11_feed_26 : decode cX11_feed 26 = .ok (.aload_n 0, 1) := by decide +kernel
theorem dX11_feed_27 : decode cX11_feed 27 = .ok (.getfield 10, 3) := by decide +kernel
theorem dX11_feed_30 : decode cX11_feed 30 = .ok (.iload_n 1, 1) := by decide +kernel
theorem dX11_feed_31 : decode cX11_feed 31 = .ok (.invokevirtual 96, 3) := by decide +kernel
theorem dX11_feed_34 : decode cX11_feed 34 = .ok (.aload_n 0, 1) := by decide +kernel
theorem dX11_feed_35 : decode cX11_feed 35 = .ok (.getfield 10, 3) := by decide +kernel
theorem dX11_feed_38 : decode cX11_feed 38 = .ok (.iload_n 2, 1) := by decide +kernel
theorem dX11_feed_39 : decode cX11_feed 39 = .ok (.invokevirtual 96, 3) := by decide +kernel
theorem dX11_feed_42 : decode cX11_feed 42 = .ok (.aload_n 0, 1) := by decide +kernel
theorem dX11_feed_43 : decode cX11_feed 43 = .ok (.getfield 10, 3) := by decide +kernel
theorem dX11_feed_46 : decode cX11_feed 46 = .ok (.iload_n 3, 1) := by decide +kernel
theorem dX11_feed_47 : decode cX11_feed 47 = .ok (.invokevirtual 96, 3) := by decide +kernel
theorem dX11_feed_50 : decode cX11_feed 50 = .ok (.aload_n 0, 1) := by decide +kernel
theorem dX11_feed_51 : decode cX11_feed 51 = .ok (.getfield 10, 3) := by decide +kernel
theorem dX11_feed_54 : decode cX11_feed 54 = .ok (.iload 4, 2) := by decide +kernel
theorem dX11_feed_56 : decode cX11_feed 56 = .ok (.invokevirtual 96, 3) := by decide +kernel
theorem dX11_feed_59 : decode cX11_feed 59 = .ok (.aload_n 0, 1) := by decide +kernel
theorem dX11_feed_60 : decode cX11_feed 60 = .ok (.getfield 10, 3) := by decide +kernel
theorem dX11_feed_63 : decode cX11_feed 63 = .ok (.iload 5, 2) := by decide +kernel
theorem dX11_feed_65 : decode cX11_feed 65 = .ok (.invokevirtual 96, 3) := by decide +kernel
theorem dX11_feed_68 : decode cX11_feed 68 = .ok (.aload_n 0, 1) := by decide +kernel
theorem dX11_feed_69 : decode cX11_feed 69 = .ok (.getfield 10, 3) := by decide +kernel
theorem dX11_feed_72 : decode cX11_feed 72 = .ok (.getfield 86, 3) := by decide +kernel
theorem dX11_feed_75 : decode cX11_feed 75 = .ok (.ireturn, 1) := by decide +kernel
theorem dX11_functions_0 : decode cX11_functions 0 = .ok (.aload_n 0, 1) := by decide +kernel
theorem dX11_functions_1 : decode cX11_functions 1 = .ok (.getfield 61, 3) := by decide +kernel
theorem dX11_functions_4 : decode cX11_functions 4 = .ok (.getfield 112, 3) := by decide +kernel
theorem dX11_functions_7 : decode cX11_functions 7 = .ok (.ireturn, 1) := by decide +kernel
theorem dX11_needFunction_0 : decode cX11_needFunction 0 = .ok (.iload_n 1, 1) := by decide +kernel
theorem dX11_needFunction_1 : decode cX11_needFunction 1 = .ok (.ifCond .lt 14, 3) := by decide +kernel
theorem dX11_needFunction_4 : decode cX11_needFunction 4 = .ok (.iload_n 1, 1) := by decide +kernel
theorem dX11_needFunction_5 : decode cX11_needFunction 5 = .ok (.aload_n 0, 1) := by decide +kernel
theorem dX11_needFunction_6 : decode cX11_needFunction 6 = .ok (.getfield 61, 3) := by decide +kernel
theorem dX11_needFunction_9 : decode cX11_needFunction 9 = .ok (.getfield 112, 3) := by decide +kernel
theorem dX11_needFunction_12 : decode cX11_needFunction 12 = .ok (.if_icmp .lt 14, 3) := by decide +kernel
theorem dX11_needFunction_26 : decode cX11_needFunction 26 = .ok (.return_, 1) := by decide +kernel
theorem dX11_needPlace_0 : decode cX11_needPlace 0 = .ok (.iload_n 1, 1) := by decide +kernel
theorem dX11_needPlace_1 : decode cX11_needPlace 1 = .ok (.ifCond .lt 8, 3) := by decide +kernel
theorem dX11_needPlace_4 : decode cX11_needPlace 4 = .ok (.iload_n 1, 1) := by decide +kernel
theorem dX11_needPlace_5 : decode cX11_needPlace 5 = .ok (.iload_n 2, 1) := by decide +kernel
theorem dX11_needPlace_6 : decode cX11_needPlace 6 = .ok (.if_icmp .lt 14, 3) := by decide +kernel
theorem dX11_needPlace_20 : decode cX11_needPlace 20 = .ok (.return_, 1) := by decide +kernel
theorem dX11_result_0 : decode cX11_result 0 = .ok (.aload_n 0, 1) := by decide +kernel
theorem dX11_result_1 : decode cX11_result 1 = .ok (.getfield 73, 3) := by decide +kernel
theorem dX11_result_4 : decode cX11_result 4 = .ok (.getfield 298, 3) := by decide +kernel
theorem dX11_result_7 : decode cX11_result 7 = .ok (.ireturn, 1) := by decide +kernel
theorem dX11_rounds_0 : decode cX11_rounds 0 = .ok (.aload_n 0, 1) := by decide +kernel
theorem dX11_rounds_1 : decode cX11_rounds 1 = .ok (.iload_n 1, 1) := by decide +kernel
theorem dX11_rounds_2 : decode cX11_rounds 2 = .ok (.invokevirtual 142, 3) := by decide +kernel
theorem dX11_rounds_5 : decode cX11_rounds 5 = .ok (.aload_n 0, 1) := by decide +kernel
theorem dX11_rounds_6 : decode cX11_rounds 6 = .ok (.getfield 54, 3) := by decide +kernel
theorem dX11_rounds_9 : decode cX11_rounds 9 = .ok (.getfield 138, 3) := by decide +kernel
theorem dX11_rounds_12 : decode cX11_rounds 12 = .ok (.ifCond .eq 15, 3) := by decide +kernel
theorem dX11_rounds_15 : decode cX11_rounds 15 = .ok (.aload_n 0, 1) := by decide +kernel
theorem dX11_rounds_16 : decode cX11_rounds 16 = .ok (.getfield 54, 3) := by decide +kernel
theorem dX11_rounds_19 : decode cX11_rounds 19 = .ok (.getfield 281, 3) := by decide +kernel
theorem dX11_rounds_22 : decode cX11_rounds 22 = .ok (.iload_n 1, 1) := by decide +kernel
theorem dX11_rounds_23 : decode cX11_rounds 23 = .ok (.iaload, 1) := by decide +kernel
theorem dX11_rounds_24 : decode cX11_rounds 24 = .ok (.goto 4, 3) := by decide +kernel
theorem dX11_rounds_27 : decode cX11_rounds 27 = .ok (.iconst 0, 1) := by decide +kernel
theorem dX11_rounds_28 : decode cX11_rounds 28 = .ok (.ireturn, 1) := by decide +kernel
theorem dX11_slots_0 : decode cX11_slots 0 = .ok (.aload_n 0, 1) := by decide +kernel
theorem dX11_slots_1 : decode cX11_slots 1 = .ok (.iload_n 1, 1) := by decide +kernel
theorem dX11_slots_2 : decode cX11_slots 2 = .ok (.invokevirtual 142, 3) := by decide +kernel
theorem dX11_slots_5 : decode cX11_slots 5 = .ok (.aload_n 0, 1) := by decide +kernel
theorem dX11_slots_6 : decode cX11_slots 6 = .ok (.getfield 54, 3) := by decide +kernel
theorem dX11_slots_9 : decode cX11_slots 9 = .ok (.getfield 138, 3) := by decide +kernel
theorem dX11_slots_12 : decode cX11_slots 12 = .ok (.ifCond .eq 15, 3) := by decide +kernel
theorem dX11_slots_15 : decode cX11_slots 15 = .ok (.aload_n 0, 1) := by decide +kernel
theorem dX11_slots_16 : decode cX11_slots 16 = .ok (.getfield 54, 3) := by decide +kernel
theorem dX11_slots_19 : decode cX11_slots 19 = .ok (.getfield 275, 3) := by decide +kernel
theorem dX11_slots_22 : decode cX11_slots 22 = .ok (.iload_n 1, 1) := by decide +kernel
theorem dX11_slots_23 : decode cX11_slots 23 = .ok (.iaload, 1) := by decide +kernel
theorem dX11_slots_24 : decode cX11_slots 24 = .ok (.goto 4, 3) := by decide +kernel
theorem dX11_slots_27 : decode cX11_slots 27 = .ok (.iconst 0, 1) := by decide +kernel
theorem dX11_slots_28 : decode cX11_slots 28 = .ok (.ireturn, 1) := by decide +kernel
theorem dX11_word_0 : decode cX11_word 0 = .ok (.aload_n 0, 1) := by decide +kernel
theorem dX11_word_1 : decode cX11_word 1 = .ok (.iload_n 1, 1) := by decide +kernel
theorem dX11_word_2 : decode cX11_word 2 = .ok (.bipush 16, 2) := by decide +kernel
theorem dX11_word_4 : decode cX11_word 4 = .ok (.invokevirtual 168, 3) := by decide +kernel
theorem dX11_word_7 : decode cX11_word 7 = .ok (.aload_n 0, 1) := by decide +kernel
theorem dX11_word_8 : decode cX11_word 8 = .ok (.getfield 73, 3) := by decide +kernel
theorem dX11_word_11 : decode cX11_word 11 = .ok (.getfield 303, 3) := by decide +kernel
theorem dX11_word_14 : decode cX11_word 14 = .ok (.iload_n 1, 1) := by decide +kernel
theorem dX11_word_15 : decode cX11_word 15 = .ok (.iaload, 1) := by decide +kernel
theorem dX11_word_16 : decode cX11_word 16 = .ok (.ireturn, 1) := by decide +kernel
theorem dX3_moveInText_0 : decode cX3_moveInText 0 = .ok (.aload_n 0, 1) := by decide +kernel
theorem dX3_moveInText_1 : decode cX3_moveInText 1 = .ok (.getfield 84, 3) := by decide +kernel
theorem dX3_moveInText_4 : decode cX3_moveInText 4 = .ok (.iconst 1, 1) := by decide +kernel
theorem dX3_moveInText_5 : decode cX3_moveInText 5 = .ok (.isub, 1) := by decide +kernel
theorem dX3_moveInText_6 : decode cX3_moveInText 6 = .ok (.istore_n 1, 1) := by decide +kernel
theorem dX3_moveInText_7 : decode cX3_moveInText 7 = .ok (.aload_n 0, 1) := by decide +kernel
theorem dX3_moveInText_8 : decode cX3_moveInText 8 = .ok (.getfield 21, 3) := by decide +kernel
theorem dX3_moveInText_11 : decode cX3_moveInText 11 = .ok (.iload_n 1, 1) := by decide +kernel
theorem dX3_moveInText_12 : decode cX3_moveInText 12 = .ok (.iaload, 1) := by decide +kernel
theorem dX3_moveInText_13 : decode cX3_moveInText 13 = .ok (.istore_n 2, 1) := by decide +kernel
theorem dX3_moveInText_14 : decode cX3_moveInText 14 = .ok (.aload_n 0, 1) := by decide +kernel
theorem dX3_moveInText_15 : decode cX3_moveInText 15 = .ok (.getfield 21, 3) := by decide +kernel
theorem dX3_moveInText_18 : decode cX3_moveInText 18 = .ok (.iload_n 1, 1) := by decide +kernel
theorem dX3_moveInText_19 : decode cX3_moveInText 19 = .ok (.iload_n 2, 1) := by decide +kernel
theorem dX3_moveInText_20 : decode cX3_moveInText 20 = .ok (.iconst 1, 1) := by decide +kernel
theorem dX3_moveInText_21 : decode cX3_moveInText 21 = .ok (.iadd, 1) := by decide +kernel
theorem dX3_moveInText_22 : decode cX3_moveInText 22 = .ok (.iastore, 1) := by decide +kernel
theorem dX3_moveInText_23 : decode cX3_moveInText 23 = .ok (.aload_n 0, 1) := by decide +kernel
theorem dX3_moveInText_24 : decode cX3_moveInText 24 = .ok (.aload_n 0, 1) := by decide +kernel
theorem dX3_moveInText_25 : decode cX3_moveInText 25 = .ok (.getfield 42, 3) := by decide +kernel
theorem dX3_moveInText_28 : decode cX3_moveInText 28 = .ok (.getfield 158, 3) := by decide +kernel
theorem dX3_moveInText_31 : decode cX3_moveInText 31 = .ok (.iload_n 2, 1) := by decide +kernel
theorem dX3_moveInText_32 : decode cX3_moveInText 32 = .ok (.iaload, 1) := by decide +kernel
theorem dX3_moveInText_33 : decode cX3_moveInText 33 = .ok (.invokevirtual 161, 3) := by decide +kernel
theorem dX3_moveInText_36 : decode cX3_moveInText 36 = .ok (.ifCond .ne 4, 3) := by decide +kernel
theorem dX3_moveInText_39 : decode cX3_moveInText 39 = .ok (.return_, 1) := by decide +kernel
theorem dX3_moveInText_40 : decode cX3_moveInText 40 = .ok (.aload_n 0, 1) := by decide +kernel
theorem dX3_moveInText_41 : decode cX3_moveInText 41 = .ok (.getfield 42, 3) := by decide +kernel
theorem dX3_moveInText_44 : decode cX3_moveInText 44 = .ok (.getfield 165, 3) := by decide +kernel
theorem dX3_moveInText_47 : decode cX3_moveInText 47 = .ok (.iload_n 2, 1) := by decide +kernel
theorem dX3_moveInText_48 : decode cX3_moveInText 48 = .ok (.iaload, 1) := by decide +kernel
theorem dX3_moveInText_49 : decode cX3_moveInText 49 = .ok (.istore_n 3, 1) := by decide +kernel
theorem dX3_moveInText_50 : decode cX3_moveInText 50 = .ok (.iload_n 3, 1) := by decide +kernel
theorem dX3_moveInText_51 : decode cX3_moveInText 51 = .ok (.invokestatic 168, 3) := by decide +kernel
theorem dX3_moveInText_54 : decode cX3_moveInText 54 = .ok (.ifCond .eq 31, 3) := by decide +kernel
theorem dX3_moveInText_57 : decode cX3_moveInText 57 = .ok (.aload_n 0, 1) := by decide +kernel
theorem dX3_moveInText_58 : decode cX3_moveInText 58 = .ok (.invokevirtual 140, 3) := by decide +kernel
theorem dX3_moveInText_61 : decode cX3_moveInText 61 = .ok (.istore 4, 2) := by decide +kernel
theorem dX3_moveInText_63 : decode cX3_moveInText 63 = .ok (.aload_n 0, 1) := by decide +kernel
theorem dX3_moveInText_64 : decode cX3_moveInText 64 = .ok (.invokevirtual 140, 3) := by decide +kernel
theorem dX3_moveInText_67 : decode cX3_moveInText 67 = .ok (.istore 5, 2) := by decide +kernel
theorem dX3_moveInText_69 : decode cX3_moveInText 69 = .ok (.aload_n 0, 1) := by decide +kernel
theorem dX3_moveInText_70 : decode cX3_moveInText 70 = .ok (.aload_n 0, 1) := by decide +kernel
theorem dX3_moveInText_71 : decode cX3_moveInText 71 = .ok (.iload_n 3, 1) := by decide +kernel
theorem dX3_moveInText_72 : decode cX3_moveInText 72 = .ok (.iload 5, 2) := by decide +kernel
theorem dX3_moveInText_74 : decode cX3_moveInText 74 = .ok (.iload 4, 2) := by decide +kernel
theorem dX3_moveInText_76 : decode cX3_moveInText 76 = .ok (.invokevirtual 171, 3) := by decide +kernel
theorem dX3_moveInText_79 : decode cX3_moveInText 79 = .ok (.invokevirtual 99, 3) := by decide +kernel
theorem dX3_moveInText_82 : decode cX3_moveInText 82 = .ok (.goto 48, 3) := by decide +kernel
theorem dX3_moveInText_85 : decode cX3_moveInText 85 = .ok (.iload_n 3, 1) := by decide +kernel
theorem dX3_moveInText_86 : decode cX3_moveInText 86 = .ok (.bipush 30, 2) := by decide +kernel
theorem dX3_moveInText_88 : decode cX3_moveInText 88 = .ok (.if_icmp .ge 9, 3) := by decide +kernel
theorem dX3_moveInText_91 : decode cX3_moveInText 91 = .ok (.iload_n 3, 1) := by decide +kernel
theorem dX3_moveInText_92 : decode cX3_moveInText 92 = .ok (.bipush 22, 2) := by decide +kernel
theorem dX3_moveInText_94 : decode cX3_moveInText 94 = .ok (.if_icmp .ne 21, 3) := by decide +kernel
theorem dX3_moveInText_97 : decode cX3_moveInText 97 = .ok (.aload_n 0, 1) := by decide +kernel
theorem dX3_moveInText_98 : decode cX3_moveInText 98 = .ok (.iload_n 1, 1) := by decide +kernel
theorem dX3_moveInText_99 : decode cX3_moveInText 99 = .ok (.iload_n 3, 1) := by decide +kernel
theorem dX3_moveInText_100 : decode cX3_moveInText 100 = .ok (.aload_n 0, 1) := by decide +kernel
theorem dX3_moveInText_101 : decode cX3_moveInText 101 = .ok (.getfield 42, 3) := by decide +kernel
theorem dX3_moveInText_104 : decode cX3_moveInText 104 = .ok (.getfield 174, 3) := by decide +kernel
theorem dX3_moveInText_107 : decode cX3_moveInText 107 = .ok (.iload_n 2, 1) := by decide +kernel
theorem dX3_moveInText_108 : decode cX3_moveInText 108 = .ok (.iaload, 1) := by decide +kernel
theorem dX3_moveInText_109 : decode cX3_moveInText 109 = .ok (.invokevirtual 177, 3) := by decide +kernel
theorem dX3_moveInText_112 : decode cX3_moveInText 112 = .ok (.goto 18, 3) := by decide +kernel
theorem dX3_moveInText_115 : decode cX3_moveInText 115 = .ok (.aload_n 0, 1) := by decide +kernel
theorem dX3_moveInText_116 : decode cX3_moveInText 116 = .ok (.iload_n 1, 1) := by decide +kernel
theorem dX3_moveInText_117 : decode cX3_moveInText 117 = .ok (.iload_n 3, 1) := by decide +kernel
theorem dX3_moveInText_118 : decode cX3_moveInText 118 = .ok (.aload_n 0, 1) := by decide +kernel
theorem dX3_moveInText_119 : decode cX3_moveInText 119 = .ok (.getfield 42, 3) := by decide +kernel
theorem dX3_moveInText_122 : decode cX3_moveInText 122 = .ok (.getfield 174, 3) := by decide +kernel
theorem dX3_moveInText_125 : decode cX3_moveInText 125 = .ok (.iload_n 2, 1) := by decide +kernel
theorem dX3_moveInText_126 : decode cX3_moveInText 126 = .ok (.iaload, 1) := by decide +kernel
theorem dX3_moveInText_127 : decode cX3_moveInText 127 = .ok (.invokevirtual 181, 3) := by decide +kernel
theorem dX3_moveInText_130 : decode cX3_moveInText 130 = .ok (.return_, 1) := by decide +kernel
theorem dX3_moveLine_0 : decode cX3_moveLine 0 = .ok (.aload_n 1, 1) := by decide +kernel
theorem dX3_moveLine_1 : decode cX3_moveLine 1 = .ok (.getfield 254, 3) := by decide +kernel
theorem dX3_moveLine_4 : decode cX3_moveLine 4 = .ok (.iload_n 3, 1) := by decide +kernel
theorem dX3_moveLine_5 : decode cX3_moveLine 5 = .ok (.iaload, 1) := by decide +kernel
theorem dX3_moveLine_6 : decode cX3_moveLine 6 = .ok (.bipush 20, 2) := by decide +kernel
theorem dX3_moveLine_8 : decode cX3_moveLine 8 = .ok (.if_icmp .ne 17, 3) := by decide +kernel
theorem dX3_moveLine_11 : decode cX3_moveLine 11 = .ok (.aload_n 0, 1) := by decide +kernel
theorem dX3_moveLine_12 : decode cX3_moveLine 12 = .ok (.iconst 2, 1) := by decide +kernel
theorem dX3_moveLine_13 : decode cX3_moveLine 13 = .ok (.aload_n 1, 1) := by decide +kernel
theorem dX3_moveLine_14 : decode cX3_moveLine 14 = .ok (.getfield 257, 3) := by decide +kernel
theorem dX3_moveLine_17 : decode cX3_moveLine 17 = .ok (.iload_n 3, 1) := by decide +kernel
theorem dX3_moveLine_18 : decode cX3_moveLine 18 = .ok (.iaload, 1) := by decide +kernel
theorem dX3_moveLine_19 : decode cX3_moveLine 19 = .ok (.invokevirtual 102, 3) := by decide +kernel
theorem dX3_moveLine_22 : decode cX3_moveLine 22 = .ok (.goto 10, 3) := by decide +kernel
theorem dX3_moveLine_25 : decode cX3_moveLine 25 = .ok (.aload_n 0, 1) := by decide +kernel
theorem dX3_moveLine_26 : decode cX3_moveLine 26 = .ok (.aload_n 1, 1) := by decide +kernel
theorem dX3_moveLine_27 : decode cX3_moveLine 27 = .ok (.iload_n 2, 1) := by decide +kernel
theorem dX3_moveLine_28 : decode cX3_moveLine 28 = .ok (.iload_n 3, 1) := by decide +kernel
theorem dX3_moveLine_29 : decode cX3_moveLine 29 = .ok (.invokevirtual 217, 3) := by decide +kernel
theorem dX3_moveLine_32 : decode cX3_moveLine 32 = .ok (.return_, 1) := by decide +kernel
theorem dX3_moveStep_0 : decode cX3_moveStep 0 = .ok (.iload_n 2, 1) := by decide +kernel
theorem dX3_moveStep_1 : decode cX3_moveStep 1 = .ok (.sipush 320, 3) := by decide +kernel
theorem dX3_moveStep_4 : decode cX3_moveStep 4 = .ok (.imul, 1) := by decide +kernel
theorem dX3_moveStep_5 : decode cX3_moveStep 5 = .ok (.istore 4, 2) := by decide +kernel
theorem dX3_moveStep_7 : decode cX3_moveStep 7 = .ok (.aload_n 1, 1) := by decide +kernel
theorem dX3_moveStep_8 : decode cX3_moveStep 8 = .ok (.getfield 254, 3) := by decide +kernel
theorem dX3_moveStep_11 : decode cX3_moveStep 11 = .ok (.iload_n 3, 1) := by decide +kernel
theorem dX3_moveStep_12 : decode cX3_moveStep 12 = .ok (.iaload, 1) := by decide +kernel
theorem dX3_moveStep_13 : decode cX3_moveStep 13 = .ok (.istore 5, 2) := by decide +kernel
theorem dX3_moveStep_15 : decode cX3_moveStep 15 = .ok (.aload_n 1, 1) := by decide +kernel
theorem dX3_moveStep_16 : decode cX3_moveStep 16 = .ok (.getfield 257, 3) := by decide +kernel
theorem dX3_moveStep_19 : decode cX3_moveStep 19 = .ok (.iload_n 3, 1) := by decide +kernel
theorem dX3_moveStep_20 : decode cX3_moveStep 20 = .ok (.iaload, 1) := by decide +kernel
theorem dX3_moveStep_21 : decode cX3_moveStep 21 = .ok (.istore 6, 2) := by decide +kernel
theorem dX3_moveStep_23 : decode cX3_moveStep 23 = .ok (.iload 5, 2) := by decide +kernel
theorem dX3_moveStep_25 : decode cX3_moveStep 25 = .ok (.ifCond .ne 22, 3) := by decide +kernel
theorem dX3_moveStep_28 : decode cX3_moveStep 28 = .ok (.aload_n 0, 1) := by decide +kernel
theorem dX3_moveStep_29 : decode cX3_moveStep 29 = .ok (.getfield 33, 3) := by decide +kernel
theorem dX3_moveStep_32 : decode cX3_moveStep 32 = .ok (.iload 4, 2) := by decide +kernel
theorem dX3_moveStep_34 : decode cX3_moveStep 34 = .ok (.aload_n 1, 1) := by decide +kernel
theorem dX3_moveStep_35 : decode cX3_moveStep 35 = .ok (.getfield 251, 3) := by decide +kernel
theorem dX3_moveStep_38 : decode cX3_moveStep 38 = .ok (.iload_n 3, 1) := by decide +kernel
theorem dX3_moveStep_39 : decode cX3_moveStep 39 = .ok (.iaload, 1) := by decide +kernel
theorem dX3_moveStep_40 : decode cX3_moveStep 40 = .ok (.iadd, 1) := by decide +kernel
theorem dX3_moveStep_41 : decode cX3_moveStep 41 = .ok (.iload 6, 2) := by decide +kernel
theorem dX3_moveStep_43 : decode cX3_moveStep 43 = .ok (.iastore, 1) := by decide +kernel
theorem dX3_moveStep_44 : decode cX3_moveStep 44 = .ok (.goto 195, 3) := by decide +kernel
theorem dX3_moveStep_47 : decode cX3_moveStep 47 = .ok (.iload 5, 2) := by decide +kernel
theorem dX3_moveStep_49 : decode cX3_moveStep 49 = .ok (.bipush 21, 2) := by decide +kernel
theorem dX3_moveStep_51 : decode cX3_moveStep 51 = .ok (.if_icmp .ne 27, 3) := by decide +kernel
theorem dX3_moveStep_54 : decode cX3_moveStep 54 = .ok (.aload_n 0, 1) := by decide +kernel
theorem dX3_moveStep_55 : decode cX3_moveStep 55 = .ok (.getfield 33, 3) := by decide +kernel
theorem dX3_moveStep_58 : decode cX3_moveStep 58 = .ok (.iload 4, 2) := by decide +kernel
theorem dX3_moveStep_60 : decode cX3_moveStep 60 = .ok (.aload_n 1, 1) := by decide +kernel
theorem dX3_moveStep_61 : decode cX3_moveStep 61 = .ok (.getfield 251, 3) := by decide +kernel
theorem dX3_moveStep_64 : decode cX3_moveStep 64 = .ok (.iload_n 3, 1) := by decide +kernel
theorem dX3_moveStep_65 : decode cX3_moveStep 65 = .ok (.iaload, 1) := by decide +kernel
theorem dX3_moveStep_66 : decode cX3_moveStep 66 = .ok (.iadd, 1) := by decide +kernel
theorem dX3_moveStep_67 : decode cX3_moveStep 67 = .ok (.aload_n 0, 1) := by decide +kernel
theorem dX3_moveStep_68 : decode cX3_moveStep 68 = .ok (.iload_n 2, 1) := by decide +kernel
theorem dX3_moveStep_69 : decode cX3_moveStep 69 = .ok (.iload 6, 2) := by decide +kernel
theorem dX3_moveStep_71 : decode cX3_moveStep 71 = .ok (.invokevirtual 194, 3) := by decide +kernel
theorem dX3_moveStep_74 : decode cX3_moveStep 74 = .ok (.iastore, 1) := by decide +kernel
theorem dX3_moveStep_75 : decode cX3_moveStep 75 = .ok (.goto 164, 3) := by decide +kernel
theorem dX3_moveStep_78 : decode cX3_moveStep 78 = .ok (.iload 5, 2) := by decide +kernel
theorem dX3_moveStep_80 : decode cX3_moveStep 80 = .ok (.bipush 20, 2) := by decide +kernel
theorem dX3_moveStep_82 : decode cX3_moveStep 82 = .ok (.if_icmp .ne 13, 3) := by decide +kernel
theorem dX3_moveStep_85 : decode cX3_moveStep 85 = .ok (.aload_n 0, 1) := by decide +kernel
theorem dX3_moveStep_86 : decode cX3_moveStep 86 = .ok (.iconst 1, 1) := by decide +kernel
theorem dX3_moveStep_87 : decode cX3_moveStep 87 = .ok (.iload 6, 2) := by decide +kernel
theorem dX3_moveStep_89 : decode cX3_moveStep 89 = .ok (.invokevirtual 102, 3) := by decide +kernel
theorem dX3_moveStep_92 : decode cX3_moveStep 92 = .ok (.goto 147, 3) := by decide +kernel
theorem dX3_moveStep_95 : decode cX3_moveStep 95 = .ok (.iload 5, 2) := by decide +kernel
theorem dX3_moveStep_97 : decode cX3_moveStep 97 = .ok (.bipush 17, 2) := by decide +kernel
theorem dX3_moveStep_99 : decode cX3_moveStep 99 = .ok (.if_icmp .ne 34, 3) := by decide +kernel
theorem dX3_moveStep_102 : decode cX3_moveStep 102 = .ok (.aload_n 0, 1) := by decide +kernel
theorem dX3_moveStep_103 : decode cX3_moveStep 103 = .ok (.getfield 33, 3) := by decide +kernel
theorem dX3_moveStep_106 : decode cX3_moveStep 106 = .ok (.iload 4, 2) := by decide +kernel
theorem dX3_moveStep_108 : decode cX3_moveStep 108 = .ok (.aload_n 1, 1) := by decide +kernel
theorem dX3_moveStep_109 : decode cX3_moveStep 109 = .ok (.getfield 251, 3) := by decide +kernel
theorem dX3_moveStep_112 : decode cX3_moveStep 112 = .ok (.iload_n 3, 1) := by decide +kernel
theorem dX3_moveStep_113 : decode cX3_moveStep 113 = .ok (.iaload, 1) := by decide +kernel
theorem dX3_moveStep_114 : decode cX3_moveStep 114 = .ok (.iadd, 1) := by decide +kernel
theorem dX3_moveStep_115 : decode cX3_moveStep 115 = .ok (.aload_n 0, 1) := by decide +kernel
theorem dX3_moveStep_116 : decode cX3_moveStep 116 = .ok (.aload_n 0, 1) := by decide +kernel
theorem dX3_moveStep_117 : decode cX3_moveStep 117 = .ok (.getfield 33, 3) := by decide +kernel
theorem dX3_moveStep_120 : decode cX3_moveStep 120 = .ok (.iload 4, 2) := by decide +kernel
theorem dX3_moveStep_122 : decode cX3_moveStep 122 = .ok (.iload 6, 2) := by decide +kernel
theorem dX3_moveStep_124 : decode cX3_moveStep 124 = .ok (.iadd, 1) := by decide +kernel
theorem dX3_moveStep_125 : decode cX3_moveStep 125 = .ok (.iaload, 1) := by decide +kernel
theorem dX3_moveStep_126 : decode cX3_moveStep 126 = .ok (.invokevirtual 187, 3) := by decide +kernel
theorem dX3_moveStep_129 : decode cX3_moveStep 129 = .ok (.iastore, 1) := by decide +kernel
theorem dX3_moveStep_130 : decode cX3_moveStep 130 = .ok (.goto 109, 3) := by decide +kernel
theorem dX3_moveStep_133 : decode cX3_moveStep 133 = .ok (.iload 5, 2) := by decide +kernel
theorem dX3_moveStep_135 : decode cX3_moveStep 135 = .ok (.bipush 18, 2) := by decide +kernel
theorem dX3_moveStep_137 : decode cX3_moveStep 137 = .ok (.if_icmp .ne 34, 3) := by decide +kernel
theorem dX3_moveStep_140 : decode cX3_moveStep 140 = .ok (.aload_n 0, 1) := by decide +kernel
theorem dX3_moveStep_141 : decode cX3_moveStep 141 = .ok (.aload_n 0, 1) := by decide +kernel
theorem dX3_moveStep_142 : decode cX3_moveStep 142 = .ok (.getfield 33, 3) := by decide +kernel
theorem dX3_moveStep_145 : decode cX3_moveStep 145 = .ok (.iload 4, 2) := by decide +kernel
theorem dX3_moveStep_147 : decode cX3_moveStep 147 = .ok (.iload 6, 2) := by decide +kernel
theorem dX3_moveStep_149 : decode cX3_moveStep 149 = .ok (.iadd, 1) := by decide +kernel
theorem dX3_moveStep_150 : decode cX3_moveStep 150 = .ok (.iaload, 1) := by decide +kernel
theorem dX3_moveStep_151 : decode cX3_moveStep 151 = .ok (.aload_n 0, 1) := by decide +kernel
theorem dX3_moveStep_152 : decode cX3_moveStep 152 = .ok (.getfield 33, 3) := by decide +kernel
theorem dX3_moveStep_155 : decode cX3_moveStep 155 = .ok (.iload 4, 2) := by decide +kernel
theorem dX3_moveStep_157 : decode cX3_moveStep 157 = .ok (.aload_n 1, 1) := by decide +kernel
theorem dX3_moveStep_158 : decode cX3_moveStep 158 = .ok (.getfield 260, 3) := by decide +kernel
theorem dX3_moveStep_161 : decode cX3_moveStep 161 = .ok (.iload_n 3, 1) := by decide +kernel
theorem dX3_moveStep_162 : decode cX3_moveStep 162 = .ok (.iaload, 1) := by decide +kernel
theorem dX3_moveStep_163 : decode cX3_moveStep 163 = .ok (.iadd, 1) := by decide +kernel
theorem dX3_moveStep_164 : decode cX3_moveStep 164 = .ok (.iaload, 1) := by decide +kernel
theorem dX3_moveStep_165 : decode cX3_moveStep 165 = .ok (.invokevirtual 191, 3) := by decide +kernel
theorem dX3_moveStep_168 : decode cX3_moveStep 168 = .ok (.goto 71, 3) := by decide +kernel
theorem dX3_moveStep_171 : decode cX3_moveStep 171 = .ok (.iload 5, 2) := by decide +kernel
theorem dX3_moveStep_173 : decode cX3_moveStep 173 = .ok (.bipush 19, 2) := by decide +kernel
theorem dX3_moveStep_175 : decode cX3_moveStep 175 = .ok (.if_icmp .ne 20, 3) := by decide +kernel
theorem dX3_moveStep_178 : decode cX3_moveStep 178 = .ok (.aload_n 0, 1) := by decide +kernel
theorem dX3_moveStep_179 : decode cX3_moveStep 179 = .ok (.aload_n 0, 1) := by decide +kernel
theorem dX3_moveStep_180 : decode cX3_moveStep 180 = .ok (.getfield 33, 3) := by decide +kernel
theorem dX3_moveStep_183 : decode cX3_moveStep 183 = .ok (.iload 4, 2) := by decide +kernel
theorem dX3_moveStep_185 : decode cX3_moveStep 185 = .ok (.iload 6, 2) := by decide +kernel
theorem dX3_moveStep_187 : decode cX3_moveStep 187 = .ok (.iadd, 1) := by decide +kernel
theorem dX3_moveStep_188 : decode cX3_moveStep 188 = .ok (.iaload, 1) := by decide +kernel
theorem dX3_moveStep_189 : decode cX3_moveStep 189 = .ok (.invokevirtual 99, 3) := by decide +kernel
theorem dX3_moveStep_192 : decode cX3_moveStep 192 = .ok (.goto 47, 3) := by decide +kernel
theorem dX3_moveStep_195 : decode cX3_moveStep 195 = .ok (.aload_n 0, 1) := by decide +kernel
theorem dX3_moveStep_196 : decode cX3_moveStep 196 = .ok (.getfield 33, 3) := by decide +kernel
theorem dX3_moveStep_199 : decode cX3_moveStep 199 = .ok (.iload 4, 2) := by decide +kernel
theorem dX3_moveStep_201 : decode cX3_moveStep 201 = .ok (.aload_n 1, 1) := by decide +kernel
theorem dX3_moveStep_202 : decode cX3_moveStep 202 = .ok (.getfield 251, 3) := by decide +kernel
theorem dX3_moveStep_205 : decode cX3_moveStep 205 = .ok (.iload_n 3, 1) := by decide +kernel
theorem dX3_moveStep_206 : decode cX3_moveStep 206 = .ok (.iaload, 1) := by decide +kernel
theorem dX3_moveStep_207 : decode cX3_moveStep 207 = .ok (.iadd, 1) := by decide +kernel
theorem dX3_moveStep_208 : decode cX3_moveStep 208 = .ok (.aload_n 0, 1) := by decide +kernel
theorem dX3_moveStep_209 : decode cX3_moveStep 209 = .ok (.iload 5, 2) := by decide +kernel
theorem dX3_moveStep_211 : decode cX3_moveStep 211 = .ok (.aload_n 0, 1) := by decide +kernel
theorem dX3_moveStep_212 : decode cX3_moveStep 212 = .ok (.getfield 33, 3) := by decide +kernel
theorem dX3_moveStep_215 : decode cX3_moveStep 215 = .ok (.iload 4, 2) := by decide +kernel
theorem dX3_moveStep_217 : decode cX3_moveStep 217 = .ok (.iload 6, 2) := by decide +kernel
theorem dX3_moveStep_219 : decode cX3_moveStep 219 = .ok (.iadd, 1) := by decide +kernel
theorem dX3_moveStep_220 : decode cX3_moveStep 220 = .ok (.iaload, 1) := by decide +kernel
theorem dX3_moveStep_221 : decode cX3_moveStep 221 = .ok (.aload_n 0, 1) := by decide +kernel
theorem dX3_moveStep_222 : decode cX3_moveStep 222 = .ok (.getfield 33, 3) := by decide +kernel
theorem dX3_moveStep_225 : decode cX3_moveStep 225 = .ok (.iload 4, 2) := by decide +kernel
theorem dX3_moveStep_227 : decode cX3_moveStep 227 = .ok (.aload_n 1, 1) := by decide +kernel
theorem dX3_moveStep_228 : decode cX3_moveStep 228 = .ok (.getfield 260, 3) := by decide +kernel
theorem dX3_moveStep_231 : decode cX3_moveStep 231 = .ok (.iload_n 3, 1) := by decide +kernel
theorem dX3_moveStep_232 : decode cX3_moveStep 232 = .ok (.iaload, 1) := by decide +kernel
theorem dX3_moveStep_233 : decode cX3_moveStep 233 = .ok (.iadd, 1) := by decide +kernel
theorem dX3_moveStep_234 : decode cX3_moveStep 234 = .ok (.iaload, 1) := by decide +kernel
theorem dX3_moveStep_235 : decode cX3_moveStep 235 = .ok (.invokevirtual 171, 3) := by decide +kernel
theorem dX3_moveStep_238 : decode cX3_moveStep 238 = .ok (.iastore, 1) := by decide +kernel
theorem dX3_moveStep_239 : decode cX3_moveStep 239 = .ok (.return_, 1) := by decide +kernel
theorem dX3_save_0 : decode cX3_save 0 = .ok (.aload_n 1, 1) := by decide +kernel
theorem dX3_save_1 : decode cX3_save 1 = .ok (.iconst 0, 1) := by decide +kernel
theorem dX3_save_2 : decode cX3_save 2 = .ok (.aload_n 0, 1) := by decide +kernel
theorem dX3_save_3 : decode cX3_save 3 = .ok (.getfield 54, 3) := by decide +kernel
theorem dX3_save_6 : decode cX3_save 6 = .ok (.iastore, 1) := by decide +kernel
theorem dX3_save_7 : decode cX3_save 7 = .ok (.aload_n 1, 1) := by decide +kernel
theorem dX3_save_8 : decode cX3_save 8 = .ok (.iconst 1, 1) := by decide +kernel
theorem dX3_save_9 : decode cX3_save 9 = .ok (.aload_n 0, 1) := by decide +kernel
theorem dX3_save_10 : decode cX3_save 10 = .ok (.getfield 58, 3) := by decide +kernel
theorem dX3_save_13 : decode cX3_save 13 = .ok (.iastore, 1) := by decide +kernel
theorem dX3_save_14 : decode cX3_save 14 = .ok (.aload_n 1, 1) := by decide +kernel
theorem dX3_save_15 : decode cX3_save 15 = .ok (.iconst 2, 1) := by decide +kernel
theorem dX3_save_16 : decode cX3_save 16 = .ok (.aload_n 0, 1) := by decide +kernel
theorem dX3_save_17 : decode cX3_save 17 = .ok (.getfield 61, 3) := by decide +kernel
theorem dX3_save_20 : decode cX3_save 20 = .ok (.iastore, 1) := by decide +kernel
theorem dX3_save_21 : decode cX3_save 21 = .ok (.aload_n 0, 1) := by decide +kernel
theorem dX3_save_22 : decode cX3_save 22 = .ok (.getfield 9, 3) := by decide +kernel
theorem dX3_save_25 : decode cX3_save 25 = .ok (.iconst 0, 1) := by decide +kernel
theorem dX3_save_26 : decode cX3_save 26 = .ok (.aload_n 1, 1) := by decide +kernel
theorem dX3_save_27 : decode cX3_save 27 = .ok (.iconst 3, 1) := by decide +kernel
theorem dX3_save_28 : decode cX3_save 28 = .ok (.bipush 16, 2) := by decide +kernel
theorem dX3_save_30 : decode cX3_save 30 = .ok (.invokestatic 70, 3) := by decide +kernel
theorem dX3_save_33 : decode cX3_save 33 = .ok (.return_, 1) := by decide +kernel
theorem dX3_tell_0 : decode cX3_tell 0 = .ok (.aload_n 0, 1) := by decide +kernel
theorem dX3_tell_1 : decode cX3_tell 1 = .ok (.getfield 15, 3) := by decide +kernel
theorem dX3_tell_4 : decode cX3_tell 4 = .ok (.iconst 0, 1) := by decide +kernel
theorem dX3_tell_5 : decode cX3_tell 5 = .ok (.iload_n 1, 1) := by decide +kernel
theorem dX3_tell_6 : decode cX3_tell 6 = .ok (.iastore, 1) := by decide +kernel
theorem dX3_tell_7 : decode cX3_tell 7 = .ok (.aload_n 0, 1) := by decide +kernel
theorem dX3_tell_8 : decode cX3_tell 8 = .ok (.getfield 15, 3) := by decide +kernel
theorem dX3_tell_11 : decode cX3_tell 11 = .ok (.iconst 1, 1) := by decide +kernel
theorem dX3_tell_12 : decode cX3_tell 12 = .ok (.iload_n 2, 1) := by decide +kernel
theorem dX3_tell_13 : decode cX3_tell 13 = .ok (.iastore, 1) := by decide +kernel
theorem dX3_tell_14 : decode cX3_tell 14 = .ok (.aload_n 0, 1) := by decide +kernel
theorem dX3_tell_15 : decode cX3_tell 15 = .ok (.getfield 15, 3) := by decide +kernel
theorem dX3_tell_18 : decode cX3_tell 18 = .ok (.iconst 2, 1) := by decide +kernel
theorem dX3_tell_19 : decode cX3_tell 19 = .ok (.iload_n 3, 1) := by decide +kernel
theorem dX3_tell_20 : decode cX3_tell 20 = .ok (.iastore, 1) := by decide +kernel
theorem dX3_tell_21 : decode cX3_tell 21 = .ok (.aload_n 0, 1) := by decide +kernel
theorem dX3_tell_22 : decode cX3_tell 22 = .ok (.getfield 15, 3) := by decide +kernel
theorem dX3_tell_25 : decode cX3_tell 25 = .ok (.iconst 3, 1) := by decide +kernel
theorem dX3_tell_26 : decode cX3_tell 26 = .ok (.iload 4, 2) := by decide +kernel
theorem dX3_tell_28 : decode cX3_tell 28 = .ok (.iastore, 1) := by decide +kernel
theorem dX3_tell_29 : decode cX3_tell 29 = .ok (.return_, 1) := by decide +kernel
theorem qw8 : Cond.initialized RX10 ∈ gw := mq_1 (i := 17) rfl rfl
theorem qw764 : Cond.fieldLink RX3 158 "Gearbox$Program" "ticks" "[I" ∈ gw := mq_3 (i := 185) rfl rfl
theorem qw765 : Cond.fieldLink RX3 165 "Gearbox$Program" "op" "[I" ∈ gw := mq_3 (i := 179) rfl rfl
theorem qw766 : Cond.fieldLink RX3 174 "Gearbox$Program" "argument" "[I" ∈ gw := mq_3 (i := 183) rfl rfl
theorem qw772 : Cond.code yX3_moveVariable cX3_moveVariable 5 (Option.none : Option Jvm.ClassFile.FieldType) ∈ gw := mq_9 (i := 216) rfl rfl
theorem qw773 : Cond.methodLink RX3 177 yX3_moveVariable ∈ gw := mq_9 (i := 213) rfl rfl
theorem qw774 : Cond.instanceMethod yX3_moveVariable ∈ gw := mq_9 (i := 215) rfl rfl
theorem qw775 : Cond.selects RX3 yX3_moveVariable yX3_moveVariable ∈ gw := mk_s (i := 74) rfl rfl
theorem qw792 : Cond.code yX3_moveWord cX3_moveWord 6 (Option.none : Option Jvm.ClassFile.FieldType) ∈ gw := mq_9 (i := 220) rfl rfl
theorem qw793 : Cond.methodLink RX3 181 yX3_moveWord ∈ gw := mq_9 (i := 217) rfl rfl
theorem qw794 : Cond.instanceMethod yX3_moveWord ∈ gw := mq_9 (i := 219) rfl rfl
theorem qw795 : Cond.selects RX3 yX3_moveWord yX3_moveWord ∈ gw := mk_s (i := 79) rfl rfl
theorem qw796 : Cond.code yX3_operate cX3_operate 4 (Option.some Jvm.ClassFile.FieldType.int) ∈ gw := mq_9 (i := 210) rfl rfl
theorem qw797 : Cond.methodLink RX3 171 yX3_operate ∈ gw := mq_9 (i := 207) rfl rfl
theorem qw798 : Cond.instanceMethod yX3_operate ∈ gw := mq_9 (i := 209) rfl rfl
theorem qw799 : Cond.selects RX3 yX3_operate yX3_operate ∈ gw := mk_s (i := 80) rfl rfl
theorem qw800 : Cond.fieldLink RX3 254 "Gearbox$Steps" "kind" "[I" ∈ gw := mq_1 (i := 166) rfl rfl
theorem qw801 : Cond.fieldLink RX3 257 "Gearbox$Steps" "left" "[I" ∈ gw := mq_1 (i := 180) rfl rfl
theorem qw802 : Cond.fieldLink RX3 260 "Gearbox$Steps" "right" "[I" ∈ gw := mq_1 (i := 187) rfl rfl
theorem qw803 : Cond.code yX3_moveStep cX3_moveStep 7 (Option.none : Option Jvm.ClassFile.FieldType) ∈ gw := mq_10 (i := 17) rfl rfl
theorem qw804 : Cond.methodLink RX3 217 yX3_moveStep ∈ gw := mq_10 (i := 14) rfl rfl
theorem qw805 : Cond.instanceMethod yX3_moveStep ∈ gw := mq_10 (i := 16) rfl rfl
theorem qw806 : Cond.selects RX3 yX3_moveStep yX3_moveStep ∈ gw := mk_s (i := 81) rfl rfl
theorem qw807 : Cond.fieldLink RX3 15 "Gearbox$Machine" "told" "[I" ∈ gw := mq_3 (i := 233) rfl rfl
theorem qw808 : Cond.fieldLink RX11 61 "Gearbox" "program" "LGearbox$Program;" ∈ gw := mq_4 (i := 57) rfl rfl
theorem qw809 : Cond.fieldLink RX11 112 "Gearbox$Program" "functions" "I" ∈ gw := mq_3 (i := 153) rfl rfl
theorem qw810 : Cond.fieldLink RX11 54 "Gearbox" "allocator" "LGearbox$Allocator;" ∈ gw := mq_4 (i := 54) rfl rfl
theorem qw812 : Cond.code yX11_needFunction cX11_needFunction 2 (Option.none : Option Jvm.ClassFile.FieldType) ∈ gw := mq_9 (i := 142) rfl rfl
theorem qw813 : Cond.methodLink RX11 142 yX11_needFunction ∈ gw := mq_9 (i := 139) rfl rfl
theorem qw814 : Cond.instanceMethod yX11_needFunction ∈ gw := mq_9 (i := 141) rfl rfl
theorem qw815 : Cond.selects RX11 yX11_needFunction yX11_needFunction ∈ gw := mk_s (i := 82) rfl rfl
theorem qw816 : Cond.fieldLink RX11 138 "Gearbox$Allocator" "hasCode" "Z" ∈ gw := mq_3 (i := 98) rfl rfl
theorem qw819 : Cond.fieldLink RX11 73 "Gearbox" "machine" "LGearbox$Machine;" ∈ gw := mq_4 (i := 55) rfl rfl
theorem qw826 : Cond.constantLong RX11 323 (31) ∈ gw := mq_10 (i := 66) rfl rfl
theorem qw829 : Cond.fieldLink RX11 298 "Gearbox$Machine" "result" "I" ∈ gw := mq_3 (i := 225) rfl rfl
theorem qw831 : Cond.fieldLink RX11 303 "Gearbox$Machine" "memory" "[I" ∈ gw := mq_3 (i := 229) rfl rfl
theorem qw832 : Cond.fieldLink RX11 159 "Gearbox$Flow" "dominator" "[I" ∈ gw := mq_2 (i := 39) rfl rfl
theorem qw833 : Cond.fieldLink RX11 162 "Gearbox$Flow" "depth" "[I" ∈ gw := mq_2 (i := 43) rfl rfl
theorem qw834 : Cond.methodLink RX11 188 yX1_countPhis ∈ gw := mq_10 (i := 79) rfl rfl
theorem qw835 : Cond.code yX1_countSteps cX1_countSteps 4 (Option.some Jvm.ClassFile.FieldType.int) ∈ gw := mq_10 (i := 83) rfl rfl
theorem qw836 : Cond.methodLink RX11 203 yX1_countSteps ∈ gw := mq_10 (i := 80) rfl rfl
theorem qw837 : Cond.instanceMethod yX1_countSteps ∈ gw := mq_10 (i := 81) rfl rfl
theorem qw838 : Cond.selects RX1 yX1_countSteps yX1_countSteps ∈ gw := mq_10 (i := 82) rfl rfl
theorem qw839 : Cond.fieldLink RX11 176 "Gearbox$Flow" "end" "[I" ∈ gw := mq_2 (i := 10) rfl rfl
theorem qw840 : Cond.fieldLink RX11 185 "Gearbox$Flow" "endValue" "[I" ∈ gw := mq_2 (i := 18) rfl rfl
theorem qw841 : Cond.fieldLink RX11 182 "Gearbox$Flow" "first" "[I" ∈ gw := mq_2 (i := 26) rfl rfl
theorem qw842 : Cond.fieldLink RX11 179 "Gearbox$Flow" "second" "[I" ∈ gw := mq_2 (i := 34) rfl rfl
theorem qw843 : Cond.methodLink RX11 165 yX1_waysTo ∈ gw := mq_10 (i := 84) rfl rfl
theorem qw844 : Cond.methodLink RX11 172 yX1_wayFrom ∈ gw := mq_10 (i := 85) rfl rfl
theorem qw845 : Cond.fieldLink RX11 365 "Gearbox$Flow" "firstPhi" "[I" ∈ gw := mq_2 (i := 1) rfl rfl
theorem qw846 : Cond.fieldLink RX11 197 "Gearbox$Flow" "phiGives" "[I" ∈ gw := mq_2 (i := 62) rfl rfl
theorem qw847 : Cond.methodLink RX11 200 yX1_take ∈ gw := mq_10 (i := 89) rfl rfl
theorem qw848 : Cond.fieldLink RX11 368 "Gearbox$Flow" "phiNext" "[I" ∈ gw := mq_2 (i := 69) rfl rfl
theorem qw849 : Cond.fieldLink RX11 214 "Gearbox$Steps" "kind" "[I" ∈ gw := mq_1 (i := 167) rfl rfl
theorem qw850 : Cond.fieldLink RX11 219 "Gearbox$Steps" "gives" "[I" ∈ gw := mq_1 (i := 174) rfl rfl
theorem qw851 : Cond.fieldLink RX11 222 "Gearbox$Steps" "left" "[I" ∈ gw := mq_1 (i := 181) rfl rfl
theorem qw852 : Cond.fieldLink RX11 225 "Gearbox$Steps" "right" "[I" ∈ gw := mq_1 (i := 188) rfl rfl
theorem qw853 : Cond.fieldLink RX11 371 "Gearbox$Flow" "firstStep" "[I" ∈ gw := mq_1 (i := 232) rfl rfl
theorem qw854 : Cond.fieldLink RX11 210 "Gearbox$Flow" "steps" "LGearbox$Steps;" ∈ gw := mq_1 (i := 225) rfl rfl
theorem qw855 : Cond.code yX11_digestStep cX11_digestStep 6 (Option.some Jvm.ClassFile.FieldType.long) ∈ gw := mq_10 (i := 95) rfl rfl
theorem qw856 : Cond.methodLink RX11 361 yX11_digestStep ∈ gw := mq_10 (i := 93) rfl rfl
theorem qw857 : Cond.static yX11_digestStep ∈ gw := mq_10 (i := 94) rfl rfl
theorem qw858 : Cond.fieldLink RX11 374 "Gearbox$Steps" "next" "[I" ∈ gw := mq_1 (i := 195) rfl rfl
theorem qw860 : Cond.fieldLink RX11 10 "Gearbox" "tokens" "LGearbox$Tokens;" ∈ gw := mq_4 (i := 49) rfl rfl
theorem qw861 : Cond.fieldLink RX11 86 "Gearbox$Tokens" "length" "I" ∈ gw := mq_1 (i := 51) rfl rfl
theorem qw862 : Cond.code yX10_append cX10_append 3 (Option.none : Option Jvm.ClassFile.FieldType) ∈ gw := mq_11 (i := 55) rfl rfl
theorem qw863 : Cond.methodLink RX11 96 yX10_append ∈ gw := mq_11 (i := 52) rfl rfl
theorem qw864 : Cond.instanceMethod yX10_append ∈ gw := mq_11 (i := 53) rfl rfl
theorem qw865 : Cond.selects RX10 yX10_append yX10_append ∈ gw := mq_11 (i := 54) rfl rfl
theorem qw869 : Cond.fieldLink RX11 281 "Gearbox$Allocator" "roundCounts" "[I" ∈ gw := mq_3 (i := 96) rfl rfl
theorem qw871 : Cond.fieldLink RX11 275 "Gearbox$Allocator" "slotCounts" "[I" ∈ gw := mq_3 (i := 92) rfl rfl
theorem qw872 : Cond.code yX11_needPlace cX11_needPlace 3 (Option.none : Option Jvm.ClassFile.FieldType) ∈ gw := mq_10 (i := 37) rfl rfl
theorem qw873 : Cond.methodLink RX11 168 yX11_needPlace ∈ gw := mq_10 (i := 34) rfl rfl
theorem qw874 : Cond.instanceMethod yX11_needPlace ∈ gw := mq_10 (i := 36) rfl rfl
theorem qw875 : Cond.selects RX11 yX11_needPlace yX11_needPlace ∈ gw := mk_s (i := 83) rfl rfl
def fX3_moveInText_J130 (p0w_130 : ST) : Option ST := some p0w_130
def fX3_moveInText_J97 (p0w : ST) (p0_4w : ST) (o_5 : Int32 × ST) : Option ST := (if ixb (p0w 12 (nn ((p0w 0 9) - 1))) 3200 = true then ((fX3_moveVariable (o_5.2) ((p0w 0 9) - 1) (p0_4w 9 (nn (p0w 12 (nn ((p0w 0 9) - 1))))) (p0_4w 10 (nn (p0w 12 (nn ((p0w 0 9) - 1))))) p0_4w).bind fun (o_13 : ST) => (fX3_moveInText_J130 o_13)) else none)
def fX3_moveInText (p0n : Nat → Nat) (p0w : ST) (p0_4w : ST) : Option ST := (if ixb ((p0w 0 9) - 1) 8 = true then (if ixb ((p0w 0 9) - 1) 8 = true then (lt9 (upw p0w 12 (nn ((p0w 0 9) - 1)) ((p0w 12 (nn ((p0w 0 9) - 1))) + 1)) fun (w3 : ST) => (if ixb (p0w 12 (nn ((p0w 0 9) - 1))) 3200 = true then ((fX3_tick w3 (p0_4w 11 (nn (p0w 12 (nn ((p0w 0 9) - 1)))))).bind fun (o_5 : Int32 × ST) => (if (o_5.1) = 0 then some (o_5.2) else (if ixb (p0w 12 (nn ((p0w 0 9) - 1))) 3200 = true then ((fX11_isOperator (p0_4w 9 (nn (p0w 12 (nn ((p0w 0 9) - 1)))))).bind fun (o_9 : Int32) => (if o_9 = 0 then (if 30 ≤ (p0_4w 9 (nn (p0w 12 (nn ((p0w 0 9) - 1))))) then (fX3_moveInText_J97 p0w p0_4w o_5) else (if (p0_4w 9 (nn (p0w 12 (nn ((p0w 0 9) - 1))))) = 22 then (fX3_moveInText_J97 p0w p0_4w o_5) else (if ixb (p0w 12 (nn ((p0w 0 9) - 1))) 3200 = true then ((fX3_moveWord p0n (o_5.2) ((p0w 0 9) - 1) (p0_4w 9 (nn (p0w 12 (nn ((p0w 0 9) - 1))))) (p0_4w 10 (nn (p0w 12 (nn ((p0w 0 9) - 1))))) p0_4w).bind fun (o_17 : ST) => (fX3_moveInText_J130 o_17)) else none))) else ((fX3_pop (o_5.2)).bind fun (o_18 : Int32 × ST) => ((fX3_pop (o_18.2)).bind fun (o_20 : Int32 × ST) => ((fX3_operate (o_20.2) (p0_4w 9 (nn (p0w 12 (nn ((p0w 0 9) - 1))))) (o_20.1) (o_18.1)).bind fun (o_22 : Int32 × ST) => ((fX3_push (o_22.2) (o_22.1)).bind fun (o_24 : ST) => (fX3_moveInText_J130 o_24))))))) else none))) else none)) else none) else none)
set_option maxHeartbeats 16000000 in
set_option maxRecDepth 100000 in
theorem kX3_moveInText {zs : Nat × Nat} (l : Launch) (dC : Nat → ClassId) (dI : Nat → Nat → Nat) (p0a : Nat → Nat) (p0k : Nat → ClassId) (p0n : Nat → Nat) (p0w : ST) (p0_4a : Nat → Nat) (p0_4k : Nat → ClassId) (p0_4w : ST) (p0_4l : SL) (sz : Nat) (o : ST) (hrun : fX3_moveInText p0n p0w p0_4w = some o) : Met l yX3_moveInText (wz yX3_moveInText cX3_moveInText 6 (Option.none : Option Jvm.ClassFile.FieldType)) ({ frames := 4, cells := 0, slots := 0, locals := 96 } : Room) (va_Pc [.ref (p0a 0)] (PRE zs dC dI ((oX3 (p0a 0) p0a p0k p0n p0w) ++ (oX6 (p0a 5) p0_4a p0_4k p0_4w p0_4l)) ((tX3 p0k) ++ (tX6 p0_4k)) sz)) (va_Qv (fun (_ : Unit) => True) (fun _ t => POST dC dI ((oX3 (p0a 0) p0a p0k p0n o) ++ (oX6 (p0a 5) p0_4a p0_4k p0_4w p0_4l)) ((tX3 p0k) ++ (tX6 p0_4k)) (va_A ((oX3 (p0a 0) p0a p0k p0n p0w) ++ (oX6 (p0a 5) p0_4a p0_4k p0_4w p0_4l)) sz) t) (va_A ((oX3 (p0a 0) p0a p0k p0n p0w) ++ (oX6 (p0a 5) p0_4a p0_4k p0_4w p0_4l)) sz)) 0 0 (va_A ((oX3 (p0a 0) p0a p0k p0n p0w) ++ (oX6 (p0a 5) p0_4a p0_4k p0_4w p0_4l)) sz) := by
  refine Met.ofW (cc := cX3_moveInText) (maxL := 6) (ret := (Option.none : Option Jvm.ClassFile.FieldType)) (by decide) rfl ?_
  intro p e s m args below meth c s₁ B hml hv
  obtain ⟨rfl, hsz, hP, hK, hD0, hE⟩ := hv
  have hx := B.exec
  have hb := B.bytes
  have hr := B.returns
  have hts0 := atoms_spec (ws := wz yX3_moveInText cX3_moveInText 6 (Option.none : Option Jvm.ClassFile.FieldType)) B.pre
  have hts : ∀ w ∈ gw, w.before _ s = true := fun w h => hts0 w (List.mem_cons_of_mem _ h)
  have hown : s.vm.findClass RX3 = some m.cls := findClass_of_methodNamed B.named
  have hlocks := B.notSynchronized
  subst hsz
  have hD := hD0.self (sz := s.heap.size)
  refine gQ9 ?_
  intro Q hQ
  generalize hAe : va_A ((oX3 (p0a 0) p0a p0k p0n p0w) ++ (oX6 (p0a 5) p0_4a p0_4k p0_4w p0_4l)) s.heap.size = A at hD hE hQ
  have hA : ∀ q : Nat, s.heap.size ≤ q → A q := fun q h => by rw [← hAe]; exact Or.inr h
  have hS : va_S A s.heap s.heap [] := va_S.rf
  have hP : va_P (dC, dI) cls ((oX3 (p0a 0) p0a p0k p0n p0w) ++ (oX6 (p0a 5) p0_4a p0_4k p0_4w p0_4l)) s.heap := hP
  have hl := lv_entry ([.ref (p0a 0)]) (n := 6) (Nat.le_of_ble_eq_true rfl)
  rw [lg_entry_eq]
  generalize (lg_sl ([.ref (p0a 0)]) ++ List.replicate (6 - (lg_sl ([.ref (p0a 0)])).length) Slot.unset).toArray = ls at hl ⊢
  have hl : lv_has ls 6 [(0, .ref (p0a 0))] := hl
  obtain ⟨H, hHe⟩ : ∃ H, H = s.heap := ⟨_, rfl⟩
  obtain ⟨locs, hle⟩ : ∃ locs : List Loc, locs = [] := ⟨_, rfl⟩
  rw [← hHe] at hP
  have hS : va_S A s.heap H locs := by rw [hHe, hle]; exact hS
  show W p l e ({ frames := 4, cells := 0, slots := 0, locals := 96 } : Room) s m ([.ref (p0a 0)] : List Value).toArray below meth c s.heap [] 0 0 Q (F0 m 0 ls [])
  rw [← hle]
  refine wH9 hHe ?_
  unfold fX3_moveInText at hrun
  refine lv_aload_n hx hb dX3_moveInText_0 rfl (lv_at hl 0 rfl) ?_
  refine va_get (D := (dC, dI)) (ci := 10) (v := .int (p0w 0 9)) (C := RX3) (T := TX3) (N := 20) hx hb hts i_X3 hown hK hP 0 rfl rfl 9 (by decide) (hts _ qw716) (fun _ h9 => h9) rfl dX3_moveInText_1 ?_
  refine lv_iconst (v := 1) hx hb dX3_moveInText_4 (by decide) ?_
  refine lv_isub hx hb dX3_moveInText_5 ?_
  refine lv_istore_n (lv' := [(1, .int ((p0w 0 9) - 1)), (0, .ref (p0a 0))]) hx hb dX3_moveInText_6 rfl hl (by decide) rfl (fun ls hl => ?_)
  refine lv_aload_n hx hb dX3_moveInText_7 rfl (lv_at hl 1 rfl) ?_
  refine va_get (D := (dC, dI)) (ci := 10) (v := .ref (p0a 12)) (C := RX3) (T := TX3) (N := 20) hx hb hts i_X3 hown hK hP 0 rfl rfl 11 (by decide) (hts _ qw742) (fun _ h9 => h9) rfl dX3_moveInText_8 ?_
  refine lv_iload_n hx hb dX3_moveInText_11 rfl (lv_at hl 0 rfl) ?_
  obtain ⟨hq1, hrun⟩ := chk9 hrun
  refine va_iald hx hb hK hP 4 3 rfl rfl (ixb_in hq1) dX3_moveInText_12 ?_
  refine lv_istore_n (lv' := [(2, .int (p0w 12 (nn ((p0w 0 9) - 1)))), (1, .int ((p0w 0 9) - 1)), (0, .ref (p0a 0))]) hx hb dX3_moveInText_13 rfl hl (by decide) rfl (fun ls hl => ?_)
  refine lv_aload_n hx hb dX3_moveInText_14 rfl (lv_at hl 2 rfl) ?_
  refine va_get (D := (dC, dI)) (ci := 10) (v := .ref (p0a 12)) (C := RX3) (T := TX3) (N := 20) hx hb hts i_X3 hown hK hP 0 rfl rfl 11 (by decide) (hts _ qw742) (fun _ h9 => h9) rfl dX3_moveInText_15 ?_
  refine lv_iload_n hx hb dX3_moveInText_18 rfl (lv_at hl 1 rfl) ?_
  refine lv_iload_n hx hb dX3_moveInText_19 rfl (lv_at hl 0 rfl) ?_
  refine lv_iconst (v := 1) hx hb dX3_moveInText_20 (by decide) ?_
  refine lv_iadd hx hb dX3_moveInText_21 ?_
  obtain ⟨hq2, hrun⟩ := chk9 hrun
  refine va_iast hx hb hK hP hD hS 4 3 rfl rfl (ixb_in hq2) dX3_moveInText_22 (fun H locs hP hD hS => ?_)
  have hP : va_P (dC, dI) cls ((oX3 (p0a 0) p0a p0k p0n (upw p0w 12 (nn ((p0w 0 9) - 1)) ((p0w 12 (nn ((p0w 0 9) - 1))) + 1))) ++ (oX6 (p0a 5) p0_4a p0_4k p0_4w p0_4l)) H := hP
  have hD : va_D A ((oX3 (p0a 0) p0a p0k p0n (upw p0w 12 (nn ((p0w 0 9) - 1)) ((p0w 12 (nn ((p0w 0 9) - 1))) + 1))) ++ (oX6 (p0a 5) p0_4a p0_4k p0_4w p0_4l)) := hD
  obtain ⟨w3, ew3, hrun⟩ := let9 hrun
  rw [← ew3] at hP hD
  refine lv_aload_n hx hb dX3_moveInText_23 rfl (lv_at hl 2 rfl) ?_
  refine lv_aload_n hx hb dX3_moveInText_24 rfl (lv_at hl 2 rfl) ?_
  refine va_get (D := (dC, dI)) (ci := 10) (v := .ref (p0a 5)) (C := RX3) (T := TX3) (N := 20) hx hb hts i_X3 hown hK hP 0 rfl rfl 4 (by decide) (hts _ qw733) (fun _ h9 => h9) rfl dX3_moveInText_25 ?_
  refine va_get (D := (dC, dI)) (ci := 2) (v := .ref (p0_4a 11)) (C := RX6) (T := TX6) (N := 13) hx hb hts i_X6 hown hK hP 11 rfl rfl 10 (by decide) (hts _ qw764) (fun _ h9 => h9) rfl dX3_moveInText_28 ?_
  refine lv_iload_n hx hb dX3_moveInText_31 rfl (lv_at hl 0 rfl) ?_
  obtain ⟨hq4, hrun⟩ := chk9 hrun
  refine va_iald hx hb hK hP 20 18 rfl rfl (ixb_in hq4) dX3_moveInText_32 ?_
  obtain ⟨o_5, hc_5, hrun⟩ := bnd9 hrun
  have hPc := hP.sub (ws' := (oX3 (p0a 0) p0a p0k p0n w3)) [0, 1, 2, 3, 4, 5, 6, 7, 8, 9, 10] rfl
  have hDc := hD.sub (ws' := (oX3 (p0a 0) p0a p0k p0n w3)) [0, 1, 2, 3, 4, 5, 6, 7, 8, 9, 10] (by decide) rfl
  have hKc := hK.sub (tys' := (tX3 p0k)) [0, 1, 2, 3, 4, 5, 6, 7, 8, 9] rfl
  have hFc := va_free (wc := (oX3 (p0a 0) p0a p0k p0n w3)) hD hS hA [0, 1, 2, 3, 4, 5, 6, 7, 8, 9, 10] rfl
  refine va_calli (va_runV (As := [.int (p0_4w 11 (nn (p0w 12 (nn ((p0w 0 9) - 1)))))]) (rest := []) ⟨hx, hb, hml, hown, hts⟩ (kX3_tick l dC dI (p0a := (st0 (p0a 0) p0a)) (p0k := p0k) (p0n := p0n) (p0w := w3) (p1 := (p0_4w 11 (nn (p0w 12 (nn ((p0w 0 9) - 1)))))) (sz := _) (o := o_5) (hrun := hc_5)) (cwV 1 hts (gi_V qw749 qw750 qw751 qw722 (gi_z qw748)) rfl rfl rfl (by decide +kernel) ⟨Nat.le_of_ble_eq_true rfl, Nat.le_of_ble_eq_true rfl⟩) ⟨PRE.blind, va_recv hKc hPc (ci := 10) (q0 := 0) rfl rfl, PRE.of hE hS hFc hPc hKc hDc⟩ rfl rfl hl.1 rfl (lv_room (Nat.le_of_ble_eq_true rfl)) dX3_moveInText_33 ⟨Nat.le_of_ble_eq_true rfl, Nat.le_of_ble_eq_true rfl⟩) hS (fun q _ h => hFc q h) hFc (fun r6 u t H locs ht hvm hw hB hz1 hk1 hS => ?_)
  obtain ⟨hP, hD, hK⟩ := JOIN (wr := (oX6 (p0a 5) p0_4a p0_4k p0_4w p0_4l)) hP hD hK [0, 1, 2, 3, 4, 5, 6, 7, 8, 9, 10] [11, 12, 13, 14, 15, 16, 17, 18, 19, 20, 21] [10, 11, 12, 13, 14, 15, 16, 17, 18, 19] rfl rfl (by decide) (by decide) rfl hk1 hFc ht hvm hB
  have hP : va_P (dC, dI) cls ((oX3 (p0a 0) p0a p0k p0n (o_5.2)) ++ (oX6 (p0a 5) p0_4a p0_4k p0_4w p0_4l)) H := hP.sub [11, 12, 13, 14, 15, 16, 17, 18, 19, 20, 21, 0, 1, 2, 3, 4, 5, 6, 7, 8, 9, 10] rfl
  have hD : va_D A ((oX3 (p0a 0) p0a p0k p0n (o_5.2)) ++ (oX6 (p0a 5) p0_4a p0_4k p0_4w p0_4l)) := hD.sub [11, 12, 13, 14, 15, 16, 17, 18, 19, 20, 21, 0, 1, 2, 3, 4, 5, 6, 7, 8, 9, 10] (by decide) rfl
  have hK : va_K (dC, dI) cls ((tX3 p0k) ++ (tX6 p0_4k)) s := hK.sub [10, 11, 12, 13, 14, 15, 16, 17, 18, 19, 0, 1, 2, 3, 4, 5, 6, 7, 8, 9] rfl
  obtain rfl : r6 = (o_5.1) := hw
  rcases br9 hrun with ⟨hc7, hrun⟩ | ⟨hc7, hrun⟩
  · refine lv_if_ne (tgt := 40) hx hb dX3_moveInText_36 (by decide) (fun c => absurd hc7 c) (fun _ => ?_)
    have ho9 : (o_5.2) = o := Option.some.inj hrun
    have hP9 : va_P (dC, dI) cls ((oX3 (p0a 0) p0a p0k p0n o) ++ (oX6 (p0a 5) p0_4a p0_4k p0_4w p0_4l)) H := by first | exact hP | (rw [← ho9]; exact hP)
    have hD9 : va_D A ((oX3 (p0a 0) p0a p0k p0n o) ++ (oX6 (p0a 5) p0_4a p0_4k p0_4w p0_4l)) := by first | exact hD | (rw [← ho9]; exact hD)
    subst hQ
    exact W.vret hx hb hr (fun t ht hW => ⟨⟨(), rfl, trivial, ⟨by rw [ht]; exact hP9, va_K.moved hW.alike hK, hD9⟩⟩, hS.F ht⟩) hS.2.2 dX3_moveInText_39
  · refine lv_if_ne (tgt := 40) hx hb dX3_moveInText_36 (by decide) (fun _ => ?_) (fun c => absurd c hc7)
    refine lv_aload_n hx hb dX3_moveInText_40 rfl (lv_at hl 2 rfl) ?_
    refine va_get (D := (dC, dI)) (ci := 10) (v := .ref (p0a 5)) (C := RX3) (T := TX3) (N := 20) hx hb hts i_X3 hown hK hP 0 rfl rfl 4 (by decide) (hts _ qw733) (fun _ h9 => h9) rfl dX3_moveInText_41 ?_
    refine va_get (D := (dC, dI)) (ci := 2) (v := .ref (p0_4a 9)) (C := RX6) (T := TX6) (N := 13) hx hb hts i_X6 hown hK hP 11 rfl rfl 8 (by decide) (hts _ qw765) (fun _ h9 => h9) rfl dX3_moveInText_44 ?_
    refine lv_iload_n hx hb dX3_moveInText_47 rfl (lv_at hl 0 rfl) ?_
    obtain ⟨hq8, hrun⟩ := chk9 hrun
    refine va_iald hx hb hK hP 18 16 rfl rfl (ixb_in hq8) dX3_moveInText_48 ?_
    refine lv_istore_n (lv' := [(3, .int (p0_4w 9 (nn (p0w 12 (nn ((p0w 0 9) - 1)))))), (2, .int (p0w 12 (nn ((p0w 0 9) - 1)))), (1, .int ((p0w 0 9) - 1)), (0, .ref (p0a 0))]) hx hb dX3_moveInText_49 rfl hl (by decide) rfl (fun ls hl => ?_)
    refine lv_iload_n hx hb dX3_moveInText_50 rfl (lv_at hl 0 rfl) ?_
    obtain ⟨o_9, hc_9, hrun⟩ := bnd9 hrun
    have hPc := hP.sub (ws' := ([] : va_W)) [] rfl
    have hDc := hD.sub (ws' := ([] : va_W)) [] (by decide) rfl
    have hKc := hK.sub (tys' := ([] : List (ClassId × FieldType))) [] rfl
    have hFc := va_free (wc := ([] : va_W)) hD hS hA [] rfl
    refine va_calli (va_runSN (As := [.int (p0_4w 9 (nn (p0w 12 (nn ((p0w 0 9) - 1)))))]) (rest := []) ⟨hx, hb, hml, hown, hts⟩ (kX11_isOperator l dC dI (p0 := (p0_4w 9 (nn (p0w 12 (nn ((p0w 0 9) - 1)))))) (sz := _) (o := o_9) (hrun := hc_9)) ⟨(va_cnB 1 hts (gi_z qw311) rfl rfl rfl (hE.nw (List.mem_append_right _ (tbl_9 (i := 206) rfl)) rfl) (hts _ qw159) (by decide +kernel) ⟨Nat.le_of_ble_eq_true rfl, Nat.le_of_ble_eq_true rfl⟩), (hts _ qw313), trivial⟩ ⟨PRE.blind, PRE.of hE hS hFc hPc hKc hDc⟩ rfl rfl hl.1 rfl (lv_room (Nat.le_of_ble_eq_true rfl)) dX3_moveInText_51 ⟨Nat.le_of_ble_eq_true rfl, Nat.le_of_ble_eq_true rfl⟩) hS (fun q _ h => hFc q h) hFc (fun r10 u t H locs ht hvm hw hB hz1 hk1 hS => ?_)
    obtain ⟨hP, hD, hK⟩ := JOIN (wr := ((oX3 (p0a 0) p0a p0k p0n (o_5.2)) ++ (oX6 (p0a 5) p0_4a p0_4k p0_4w p0_4l))) hP hD hK [] [0, 1, 2, 3, 4, 5, 6, 7, 8, 9, 10, 11, 12, 13, 14, 15, 16, 17, 18, 19, 20, 21] [0, 1, 2, 3, 4, 5, 6, 7, 8, 9, 10, 11, 12, 13, 14, 15, 16, 17, 18, 19] rfl rfl (by decide) (by decide) rfl hk1 hFc ht hvm hB
    have hP : va_P (dC, dI) cls ((oX3 (p0a 0) p0a p0k p0n (o_5.2)) ++ (oX6 (p0a 5) p0_4a p0_4k p0_4w p0_4l)) H := hP.sub [0, 1, 2, 3, 4, 5, 6, 7, 8, 9, 10, 11, 12, 13, 14, 15, 16, 17, 18, 19, 20, 21] rfl
    have hD : va_D A ((oX3 (p0a 0) p0a p0k p0n (o_5.2)) ++ (oX6 (p0a 5) p0_4a p0_4k p0_4w p0_4l)) := hD.sub [0, 1, 2, 3, 4, 5, 6, 7, 8, 9, 10, 11, 12, 13, 14, 15, 16, 17, 18, 19, 20, 21] (by decide) rfl
    have hK : va_K (dC, dI) cls ((tX3 p0k) ++ (tX6 p0_4k)) s := hK.sub [0, 1, 2, 3, 4, 5, 6, 7, 8, 9, 10, 11, 12, 13, 14, 15, 16, 17, 18, 19] rfl
    obtain rfl : o_9 = r10 := hw.symm
    have J130 : ∀ (p0w_130 : ST) (H : Heap) (locs : List Loc) (ls : Array Slot), (fX3_moveInText_J130 p0w_130) = some o → va_P (dC, dI) cls ((oX3 (p0a 0) p0a p0k p0n p0w_130) ++ (oX6 (p0a 5) p0_4a p0_4k p0_4w p0_4l)) H → va_D A ((oX3 (p0a 0) p0a p0k p0n p0w_130) ++ (oX6 (p0a 5) p0_4a p0_4k p0_4w p0_4l)) → va_S A s.heap H locs → lv_has ls 6 [] → W p l e ({ frames := 4, cells := 0, slots := 0, locals := 96 } : Room) s m ([.ref (p0a 0)] : List Value).toArray below meth c H locs 0 0 Q (F0 m 130 ls []) := by
      intro p0w_130 H locs ls hrun hP hD hS hl
      unfold fX3_moveInText_J130 at hrun
      have ho9 : p0w_130 = o := Option.some.inj hrun
      have hP9 : va_P (dC, dI) cls ((oX3 (p0a 0) p0a p0k p0n o) ++ (oX6 (p0a 5) p0_4a p0_4k p0_4w p0_4l)) H := by first | exact hP | (rw [← ho9]; exact hP)
      have hD9 : va_D A ((oX3 (p0a 0) p0a p0k p0n o) ++ (oX6 (p0a 5) p0_4a p0_4k p0_4w p0_4l)) := by first | exact hD | (rw [← ho9]; exact hD)
      subst hQ
      exact W.vret hx hb hr (fun t ht hW => ⟨⟨(), rfl, trivial, ⟨by rw [ht]; exact hP9, va_K.moved hW.alike hK, hD9⟩⟩, hS.F ht⟩) hS.2.2 dX3_moveInText_130
    rcases br9 hrun with ⟨hc11, hrun⟩ | ⟨hc11, hrun⟩
    · refine lv_if_eq (tgt := 85) hx hb dX3_moveInText_54 (by decide) (fun _ => ?_) (fun c => absurd hc11 c)
      refine lv_iload_n hx hb dX3_moveInText_85 rfl (lv_at hl 0 rfl) ?_
      refine lv_bipush (v := 30) hx hb dX3_moveInText_86 (by decide) ?_
      have J97 : ∀ (H : Heap) (locs : List Loc) (ls : Array Slot), (fX3_moveInText_J97 p0w p0_4w o_5) = some o → va_P (dC, dI) cls ((oX3 (p0a 0) p0a p0k p0n (o_5.2)) ++ (oX6 (p0a 5) p0_4a p0_4k p0_4w p0_4l)) H → va_D A ((oX3 (p0a 0) p0a p0k p0n (o_5.2)) ++ (oX6 (p0a 5) p0_4a p0_4k p0_4w p0_4l)) → va_S A s.heap H locs → lv_has ls 6 [(0, .ref (p0a 0)), (1, .int ((p0w 0 9) - 1)), (2, .int (p0w 12 (nn ((p0w 0 9) - 1)))), (3, .int (p0_4w 9 (nn (p0w 12 (nn ((p0w 0 9) - 1))))))] → W p l e ({ frames := 4, cells := 0, slots := 0, locals := 96 } : Room) s m ([.ref (p0a 0)] : List Value).toArray below meth c H locs 0 0 Q (F0 m 97 ls []) := by
        intro  H locs ls hrun hP hD hS hl
        unfold fX3_moveInText_J97 at hrun
        refine lv_aload_n hx hb dX3_moveInText_97 rfl (lv_at hl 0 rfl) ?_
        refine lv_iload_n hx hb dX3_moveInText_98 rfl (lv_at hl 1 rfl) ?_
        refine lv_iload_n hx hb dX3_moveInText_99 rfl (lv_at hl 3 rfl) ?_
        refine lv_aload_n hx hb dX3_moveInText_100 rfl (lv_at hl 0 rfl) ?_
        refine va_get (D := (dC, dI)) (ci := 10) (v := .ref (p0a 5)) (C := RX3) (T := TX3) (N := 20) hx hb hts i_X3 hown hK hP 0 rfl rfl 4 (by decide) (hts _ qw733) (fun _ h9 => h9) rfl dX3_moveInText_101 ?_
        refine va_get (D := (dC, dI)) (ci := 2) (v := .ref (p0_4a 10)) (C := RX6) (T := TX6) (N := 13) hx hb hts i_X6 hown hK hP 11 rfl rfl 9 (by decide) (hts _ qw766) (fun _ h9 => h9) rfl dX3_moveInText_104 ?_
        refine lv_iload_n hx hb dX3_moveInText_107 rfl (lv_at hl 2 rfl) ?_
        obtain ⟨hq12, hrun⟩ := chk9 hrun
        refine va_iald hx hb hK hP 19 17 rfl rfl (ixb_in hq12) dX3_moveInText_108 ?_
        obtain ⟨o_13, hc_13, hrun⟩ := bnd9 hrun
        have hPc := hP.sub (ws' := ((oX3 (p0a 0) p0a p0k p0n (o_5.2)) ++ (oX6 (p0a 5) p0_4a p0_4k p0_4w p0_4l))) [0, 1, 2, 3, 4, 5, 6, 7, 8, 9, 10, 11, 12, 13, 14, 15, 16, 17, 18, 19, 20, 21] rfl
        have hDc := hD.sub (ws' := ((oX3 (p0a 0) p0a p0k p0n (o_5.2)) ++ (oX6 (p0a 5) p0_4a p0_4k p0_4w p0_4l))) [0, 1, 2, 3, 4, 5, 6, 7, 8, 9, 10, 11, 12, 13, 14, 15, 16, 17, 18, 19, 20, 21] (by decide) rfl
        have hKc := hK.sub (tys' := ((tX3 p0k) ++ (tX6 p0_4k))) [0, 1, 2, 3, 4, 5, 6, 7, 8, 9, 10, 11, 12, 13, 14, 15, 16, 17, 18, 19] rfl
        have hFc := va_free (wc := ((oX3 (p0a 0) p0a p0k p0n (o_5.2)) ++ (oX6 (p0a 5) p0_4a p0_4k p0_4w p0_4l))) hD hS hA [0, 1, 2, 3, 4, 5, 6, 7, 8, 9, 10, 11, 12, 13, 14, 15, 16, 17, 18, 19, 20, 21] rfl
        refine va_callv (va_runV (As := [.int ((p0w 0 9) - 1), .int (p0_4w 9 (nn (p0w 12 (nn ((p0w 0 9) - 1))))), .int (p0_4w 10 (nn (p0w 12 (nn ((p0w 0 9) - 1)))))]) (rest := []) ⟨hx, hb, hml, hown, hts⟩ (kX3_moveVariable l dC dI (p0a := (st0 (p0a 0) p0a)) (p0k := p0k) (p0n := p0n) (p0w := (o_5.2)) (p1 := ((p0w 0 9) - 1)) (p2 := (p0_4w 9 (nn (p0w 12 (nn ((p0w 0 9) - 1)))))) (p3 := (p0_4w 10 (nn (p0w 12 (nn ((p0w 0 9) - 1)))))) (p0_4a := p0_4a) (p0_4k := p0_4k) (p0_4w := p0_4w) (p0_4l := p0_4l) (sz := _) (o := o_13) (hrun := hc_13)) (cwV 3 hts (gi_V qw773 qw774 qw775 qw722 (gi_z qw772)) rfl rfl rfl (by decide +kernel) ⟨Nat.le_of_ble_eq_true rfl, Nat.le_of_ble_eq_true rfl⟩) ⟨PRE.blind, va_recv hKc hPc (ci := 10) (q0 := 0) rfl rfl, PRE.of hE hS hFc hPc hKc hDc⟩ rfl rfl hl.1 rfl (lv_room (Nat.le_of_ble_eq_true rfl)) dX3_moveInText_109 ⟨Nat.le_of_ble_eq_true rfl, Nat.le_of_ble_eq_true rfl⟩) hS (fun q _ h => hFc q h) hFc (fun u t H locs ht hvm hw hB hz1 hk1 hS => ?_)
        obtain ⟨hP, hD, hK⟩ := JOIN (wr := ([] : va_W)) hP hD hK [0, 1, 2, 3, 4, 5, 6, 7, 8, 9, 10, 11, 12, 13, 14, 15, 16, 17, 18, 19, 20, 21] [] [] rfl rfl (by decide) (by decide) rfl hk1 hFc ht hvm hB
        have hP : va_P (dC, dI) cls ((oX3 (p0a 0) p0a p0k p0n o_13) ++ (oX6 (p0a 5) p0_4a p0_4k p0_4w p0_4l)) H := hP.sub [0, 1, 2, 3, 4, 5, 6, 7, 8, 9, 10, 11, 12, 13, 14, 15, 16, 17, 18, 19, 20, 21] rfl
        have hD : va_D A ((oX3 (p0a 0) p0a p0k p0n o_13) ++ (oX6 (p0a 5) p0_4a p0_4k p0_4w p0_4l)) := hD.sub [0, 1, 2, 3, 4, 5, 6, 7, 8, 9, 10, 11, 12, 13, 14, 15, 16, 17, 18, 19, 20, 21] (by decide) rfl
        have hK : va_K (dC, dI) cls ((tX3 p0k) ++ (tX6 p0_4k)) s := hK.sub [0, 1, 2, 3, 4, 5, 6, 7, 8, 9, 10, 11, 12, 13, 14, 15, 16, 17, 18, 19] rfl
        refine lv_goto (tgt := 130) hx hb dX3_moveInText_112 (by decide) ?_
        exact J130 o_13 _ _ _ hrun hP hD hS (lv_sub hl [] rfl)
      rcases br9 hrun with ⟨hc14, hrun⟩ | ⟨hc14, hrun⟩
      · refine lv_icmp_ge (tgt := 97) hx hb dX3_moveInText_88 (by decide) (fun _ => ?_) (fun c => absurd hc14 c)
        exact J97 _ _ _ hrun hP hD hS (lv_sub hl [3, 2, 1, 0] rfl)
      · refine lv_icmp_ge (tgt := 97) hx hb dX3_moveInText_88 (by decide) (fun c => absurd c hc14) (fun _ => ?_)
        refine lv_iload_n hx hb dX3_moveInText_91 rfl (lv_at hl 0 rfl) ?_
        refine lv_bipush (v := 22) hx hb dX3_moveInText_92 (by decide) ?_
        rcases br9 hrun with ⟨hc15, hrun⟩ | ⟨hc15, hrun⟩
        · refine lv_icmp_ne (tgt := 115) hx hb dX3_moveInText_94 (by decide) (fun c => absurd hc15 c) (fun _ => ?_)
          exact J97 _ _ _ hrun hP hD hS (lv_sub hl [3, 2, 1, 0] rfl)
        · refine lv_icmp_ne (tgt := 115) hx hb dX3_moveInText_94 (by decide) (fun _ => ?_) (fun c => absurd c hc15)
          refine lv_aload_n hx hb dX3_moveInText_115 rfl (lv_at hl 3 rfl) ?_
          refine lv_iload_n hx hb dX3_moveInText_116 rfl (lv_at hl 2 rfl) ?_
          refine lv_iload_n hx hb dX3_moveInText_117 rfl (lv_at hl 0 rfl) ?_
          refine lv_aload_n hx hb dX3_moveInText_118 rfl (lv_at hl 3 rfl) ?_
          refine va_get (D := (dC, dI)) (ci := 10) (v := .ref (p0a 5)) (C := RX3) (T := TX3) (N := 20) hx hb hts i_X3 hown hK hP 0 rfl rfl 4 (by decide) (hts _ qw733) (fun _ h9 => h9) rfl dX3_moveInText_119 ?_
          refine va_get (D := (dC, dI)) (ci := 2) (v := .ref (p0_4a 10)) (C := RX6) (T := TX6) (N := 13) hx hb hts i_X6 hown hK hP 11 rfl rfl 9 (by decide) (hts _ qw766) (fun _ h9 => h9) rfl dX3_moveInText_122 ?_
          refine lv_iload_n hx hb dX3_moveInText_125 rfl (lv_at hl 1 rfl) ?_
          obtain ⟨hq16, hrun⟩ := chk9 hrun
          refine va_iald hx hb hK hP 19 17 rfl rfl (ixb_in hq16) dX3_moveInText_126 ?_
          obtain ⟨o_17, hc_17, hrun⟩ := bnd9 hrun
          have hPc := hP.sub (ws' := ((oX3 (p0a 0) p0a p0k p0n (o_5.2)) ++ (oX6 (p0a 5) p0_4a p0_4k p0_4w p0_4l))) [0, 1, 2, 3, 4, 5, 6, 7, 8, 9, 10, 11, 12, 13, 14, 15, 16, 17, 18, 19, 20, 21] rfl
          have hDc := hD.sub (ws' := ((oX3 (p0a 0) p0a p0k p0n (o_5.2)) ++ (oX6 (p0a 5) p0_4a p0_4k p0_4w p0_4l))) [0, 1, 2, 3, 4, 5, 6, 7, 8, 9, 10, 11, 12, 13, 14, 15, 16, 17, 18, 19, 20, 21] (by decide) rfl
          have hKc := hK.sub (tys' := ((tX3 p0k) ++ (tX6 p0_4k))) [0, 1, 2, 3, 4, 5, 6, 7, 8, 9, 10, 11, 12, 13, 14, 15, 16, 17, 18, 19] rfl
          have hFc := va_free (wc := ((oX3 (p0a 0) p0a p0k p0n (o_5.2)) ++ (oX6 (p0a 5) p0_4a p0_4k p0_4w p0_4l))) hD hS hA [0, 1, 2, 3, 4, 5, 6, 7, 8, 9, 10, 11, 12, 13, 14, 15, 16, 17, 18, 19, 20, 21] rfl
          refine va_callv (va_runV (As := [.int ((p0w 0 9) - 1), .int (p0_4w 9 (nn (p0w 12 (nn ((p0w 0 9) - 1))))), .int (p0_4w 10 (nn (p0w 12 (nn ((p0w 0 9) - 1)))))]) (rest := []) ⟨hx, hb, hml, hown, hts⟩ (kX3_moveWord l dC dI (p0a := (st0 (p0a 0) p0a)) (p0k := p0k) (p0n := p0n) (p0w := (o_5.2)) (p1 := ((p0w 0 9) - 1)) (p2 := (p0_4w 9 (nn (p0w 12 (nn ((p0w 0 9) - 1)))))) (p3 := (p0_4w 10 (nn (p0w 12 (nn ((p0w 0 9) - 1)))))) (p0_4a := p0_4a) (p0_4k := p0_4k) (p0_4w := p0_4w) (p0_4l := p0_4l) (sz := _) (o := o_17) (hrun := hc_17)) (cwV 3 hts (gi_V qw793 qw794 qw795 qw722 (gi_z qw792)) rfl rfl rfl (by decide +kernel) ⟨Nat.le_of_ble_eq_true rfl, Nat.le_of_ble_eq_true rfl⟩) ⟨PRE.blind, va_recv hKc hPc (ci := 10) (q0 := 0) rfl rfl, PRE.of hE hS hFc hPc hKc hDc⟩ rfl rfl hl.1 rfl (lv_room (Nat.le_of_ble_eq_true rfl)) dX3_moveInText_127 ⟨Nat.le_of_ble_eq_true rfl, Nat.le_of_ble_eq_true rfl⟩) hS (fun q _ h => hFc q h) hFc (fun u t H locs ht hvm hw hB hz1 hk1 hS => ?_)
          obtain ⟨hP, hD, hK⟩ := JOIN (wr := ([] : va_W)) hP hD hK [0, 1, 2, 3, 4, 5, 6, 7, 8, 9, 10, 11, 12, 13, 14, 15, 16, 17, 18, 19, 20, 21] [] [] rfl rfl (by decide) (by decide) rfl hk1 hFc ht hvm hB
          have hP : va_P (dC, dI) cls ((oX3 (p0a 0) p0a p0k p0n o_17) ++ (oX6 (p0a 5) p0_4a p0_4k p0_4w p0_4l)) H := hP.sub [0, 1, 2, 3, 4, 5, 6, 7, 8, 9, 10, 11, 12, 13, 14, 15, 16, 17, 18, 19, 20, 21] rfl
          have hD : va_D A ((oX3 (p0a 0) p0a p0k p0n o_17) ++ (oX6 (p0a 5) p0_4a p0_4k p0_4w p0_4l)) := hD.sub [0, 1, 2, 3, 4, 5, 6, 7, 8, 9, 10, 11, 12, 13, 14, 15, 16, 17, 18, 19, 20, 21] (by decide) rfl
          have hK : va_K (dC, dI) cls ((tX3 p0k) ++ (tX6 p0_4k)) s := hK.sub [0, 1, 2, 3, 4, 5, 6, 7, 8, 9, 10, 11, 12, 13, 14, 15, 16, 17, 18, 19] rfl
          exact J130 o_17 _ _ _ hrun hP hD hS (lv_sub hl [] rfl)
    · refine lv_if_eq (tgt := 85) hx hb dX3_moveInText_54 (by decide) (fun c => absurd c hc11) (fun _ => ?_)
      refine lv_aload_n hx hb dX3_moveInText_57 rfl (lv_at hl 3 rfl) ?_
      obtain ⟨o_18, hc_18, hrun⟩ := bnd9 hrun
      have hPc := hP.sub (ws' := (oX3 (p0a 0) p0a p0k p0n (o_5.2))) [0, 1, 2, 3, 4, 5, 6, 7, 8, 9, 10] rfl
      have hDc := hD.sub (ws' := (oX3 (p0a 0) p0a p0k p0n (o_5.2))) [0, 1, 2, 3, 4, 5, 6, 7, 8, 9, 10] (by decide) rfl
      have hKc := hK.sub (tys' := (tX3 p0k)) [0, 1, 2, 3, 4, 5, 6, 7, 8, 9] rfl
      have hFc := va_free (wc := (oX3 (p0a 0) p0a p0k p0n (o_5.2))) hD hS hA [0, 1, 2, 3, 4, 5, 6, 7, 8, 9, 10] rfl
      refine va_calli (va_runV (As := []) (rest := []) ⟨hx, hb, hml, hown, hts⟩ (kX3_pop l dC dI (p0a := (st0 (p0a 0) p0a)) (p0k := p0k) (p0n := p0n) (p0w := (o_5.2)) (sz := _) (o := o_18) (hrun := hc_18)) (cwV 0 hts (gi_V qw738 qw739 qw740 qw722 (gi_z qw737)) rfl rfl rfl (by decide +kernel) ⟨Nat.le_of_ble_eq_true rfl, Nat.le_of_ble_eq_true rfl⟩) ⟨PRE.blind, va_recv hKc hPc (ci := 10) (q0 := 0) rfl rfl, PRE.of hE hS hFc hPc hKc hDc⟩ rfl rfl hl.1 rfl (lv_room (Nat.le_of_ble_eq_true rfl)) dX3_moveInText_58 ⟨Nat.le_of_ble_eq_true rfl, Nat.le_of_ble_eq_true rfl⟩) hS (fun q _ h => hFc q h) hFc (fun r19 u t H locs ht hvm hw hB hz1 hk1 hS => ?_)
      obtain ⟨hP, hD, hK⟩ := JOIN (wr := (oX6 (p0a 5) p0_4a p0_4k p0_4w p0_4l)) hP hD hK [0, 1, 2, 3, 4, 5, 6, 7, 8, 9, 10] [11, 12, 13, 14, 15, 16, 17, 18, 19, 20, 21] [10, 11, 12, 13, 14, 15, 16, 17, 18, 19] rfl rfl (by decide) (by decide) rfl hk1 hFc ht hvm hB
      have hP : va_P (dC, dI) cls ((oX3 (p0a 0) p0a p0k p0n (o_18.2)) ++ (oX6 (p0a 5) p0_4a p0_4k p0_4w p0_4l)) H := hP.sub [11, 12, 13, 14, 15, 16, 17, 18, 19, 20, 21, 0, 1, 2, 3, 4, 5, 6, 7, 8, 9, 10] rfl
      have hD : va_D A ((oX3 (p0a 0) p0a p0k p0n (o_18.2)) ++ (oX6 (p0a 5) p0_4a p0_4k p0_4w p0_4l)) := hD.sub [11, 12, 13, 14, 15, 16, 17, 18, 19, 20, 21, 0, 1, 2, 3, 4, 5, 6, 7, 8, 9, 10] (by decide) rfl
      have hK : va_K (dC, dI) cls ((tX3 p0k) ++ (tX6 p0_4k)) s := hK.sub [10, 11, 12, 13, 14, 15, 16, 17, 18, 19, 0, 1, 2, 3, 4, 5, 6, 7, 8, 9] rfl
      obtain rfl : r19 = (o_18.1) := hw
      refine lv_istore (lv' := [(4, .int (o_18.1)), (3, .int (p0_4w 9 (nn (p0w 12 (nn ((p0w 0 9) - 1)))))), (2, .int (p0w 12 (nn ((p0w 0 9) - 1)))), (1, .int ((p0w 0 9) - 1)), (0, .ref (p0a 0))]) hx hb dX3_moveInText_61 hl (by decide) rfl (fun ls hl => ?_)
      refine lv_aload_n hx hb dX3_moveInText_63 rfl (lv_at hl 4 rfl) ?_
      obtain ⟨o_20, hc_20, hrun⟩ := bnd9 hrun
      have hPc := hP.sub (ws' := (oX3 (p0a 0) p0a p0k p0n (o_18.2))) [0, 1, 2, 3, 4, 5, 6, 7, 8, 9, 10] rfl
      have hDc := hD.sub (ws' := (oX3 (p0a 0) p0a p0k p0n (o_18.2))) [0, 1, 2, 3, 4, 5, 6, 7, 8, 9, 10] (by decide) rfl
      have hKc := hK.sub (tys' := (tX3 p0k)) [0, 1, 2, 3, 4, 5, 6, 7, 8, 9] rfl
      have hFc := va_free (wc := (oX3 (p0a 0) p0a p0k p0n (o_18.2))) hD hS hA [0, 1, 2, 3, 4, 5, 6, 7, 8, 9, 10] rfl
      refine va_calli (va_runV (As := []) (rest := []) ⟨hx, hb, hml, hown, hts⟩ (kX3_pop l dC dI (p0a := (st0 (p0a 0) p0a)) (p0k := p0k) (p0n := p0n) (p0w := (o_18.2)) (sz := _) (o := o_20) (hrun := hc_20)) (cwV 0 hts (gi_V qw738 qw739 qw740 qw722 (gi_z qw737)) rfl rfl rfl (by decide +kernel) ⟨Nat.le_of_ble_eq_true rfl, Nat.le_of_ble_eq_true rfl⟩) ⟨PRE.blind, va_recv hKc hPc (ci := 10) (q0 := 0) rfl rfl, PRE.of hE hS hFc hPc hKc hDc⟩ rfl rfl hl.1 rfl (lv_room (Nat.le_of_ble_eq_true rfl)) dX3_moveInText_64 ⟨Nat.le_of_ble_eq_true rfl, Nat.le_of_ble_eq_true rfl⟩) hS (fun q _ h => hFc q h) hFc (fun r21 u t H locs ht hvm hw hB hz1 hk1 hS => ?_)
      obtain ⟨hP, hD, hK⟩ := JOIN (wr := (oX6 (p0a 5) p0_4a p0_4k p0_4w p0_4l)) hP hD hK [0, 1, 2, 3, 4, 5, 6, 7, 8, 9, 10] [11, 12, 13, 14, 15, 16, 17, 18, 19, 20, 21] [10, 11, 12, 13, 14, 15, 16, 17, 18, 19] rfl rfl (by decide) (by decide) rfl hk1 hFc ht hvm hB
      have hP : va_P (dC, dI) cls ((oX3 (p0a 0) p0a p0k p0n (o_20.2)) ++ (oX6 (p0a 5) p0_4a p0_4k p0_4w p0_4l)) H := hP.sub [11, 12, 13, 14, 15, 16, 17, 18, 19, 20, 21, 0, 1, 2, 3, 4, 5, 6, 7, 8, 9, 10] rfl
      have hD : va_D A ((oX3 (p0a 0) p0a p0k p0n (o_20.2)) ++ (oX6 (p0a 5) p0_4a p0_4k p0_4w p0_4l)) := hD.sub [11, 12, 13, 14, 15, 16, 17, 18, 19, 20, 21, 0, 1, 2, 3, 4, 5, 6, 7, 8, 9, 10] (by decide) rfl
      have hK : va_K (dC, dI) cls ((tX3 p0k) ++ (tX6 p0_4k)) s := hK.sub [10, 11, 12, 13, 14, 15, 16, 17, 18, 19, 0, 1, 2, 3, 4, 5, 6, 7, 8, 9] rfl
      obtain rfl : r21 = (o_20.1) := hw
      refine lv_istore (lv' := [(5, .int (o_20.1)), (4, .int (o_18.1)), (3, .int (p0_4w 9 (nn (p0w 12 (nn ((p0w 0 9) - 1)))))), (2, .int (p0w 12 (nn ((p0w 0 9) - 1)))), (1, .int ((p0w 0 9) - 1)), (0, .ref (p0a 0))]) hx hb dX3_moveInText_67 hl (by decide) rfl (fun ls hl => ?_)
      refine lv_aload_n hx hb dX3_moveInText_69 rfl (lv_at hl 5 rfl) ?_
      refine lv_aload_n hx hb dX3_moveInText_70 rfl (lv_at hl 5 rfl) ?_
      refine lv_iload_n hx hb dX3_moveInText_71 rfl (lv_at hl 2 rfl) ?_
      refine lv_iload hx hb dX3_moveInText_72 (lv_at hl 0 rfl) ?_
      refine lv_iload hx hb dX3_moveInText_74 (lv_at hl 1 rfl) ?_
      obtain ⟨o_22, hc_22, hrun⟩ := bnd9 hrun
      have hPc := hP.sub (ws' := (oX3 (p0a 0) p0a p0k p0n (o_20.2))) [0, 1, 2, 3, 4, 5, 6, 7, 8, 9, 10] rfl
      have hDc := hD.sub (ws' := (oX3 (p0a 0) p0a p0k p0n (o_20.2))) [0, 1, 2, 3, 4, 5, 6, 7, 8, 9, 10] (by decide) rfl
      have hKc := hK.sub (tys' := (tX3 p0k)) [0, 1, 2, 3, 4, 5, 6, 7, 8, 9] rfl
      have hFc := va_free (wc := (oX3 (p0a 0) p0a p0k p0n (o_20.2))) hD hS hA [0, 1, 2, 3, 4, 5, 6, 7, 8, 9, 10] rfl
      refine va_calli (va_runV (As := [.int (p0_4w 9 (nn (p0w 12 (nn ((p0w 0 9) - 1))))), .int (o_20.1), .int (o_18.1)]) (rest := [.ref (p0a 0)]) ⟨hx, hb, hml, hown, hts⟩ (kX3_operate l dC dI (p0a := (st0 (p0a 0) p0a)) (p0k := p0k) (p0n := p0n) (p0w := (o_20.2)) (p1 := (p0_4w 9 (nn (p0w 12 (nn ((p0w 0 9) - 1)))))) (p2 := (o_20.1)) (p3 := (o_18.1)) (sz := _) (o := o_22) (hrun := hc_22)) (cwV 3 hts (gi_V qw797 qw798 qw799 qw722 (gi_z qw796)) rfl rfl rfl (by decide +kernel) ⟨Nat.le_of_ble_eq_true rfl, Nat.le_of_ble_eq_true rfl⟩) ⟨PRE.blind, va_recv hKc hPc (ci := 10) (q0 := 0) rfl rfl, PRE.of hE hS hFc hPc hKc hDc⟩ rfl rfl hl.1 rfl (lv_room (Nat.le_of_ble_eq_true rfl)) dX3_moveInText_76 ⟨Nat.le_of_ble_eq_true rfl, Nat.le_of_ble_eq_true rfl⟩) hS (fun q _ h => hFc q h) hFc (fun r23 u t H locs ht hvm hw hB hz1 hk1 hS => ?_)
      obtain ⟨hP, hD, hK⟩ := JOIN (wr := (oX6 (p0a 5) p0_4a p0_4k p0_4w p0_4l)) hP hD hK [0, 1, 2, 3, 4, 5, 6, 7, 8, 9, 10] [11, 12, 13, 14, 15, 16, 17, 18, 19, 20, 21] [10, 11, 12, 13, 14, 15, 16, 17, 18, 19] rfl rfl (by decide) (by decide) rfl hk1 hFc ht hvm hB
      have hP : va_P (dC, dI) cls ((oX3 (p0a 0) p0a p0k p0n (o_22.2)) ++ (oX6 (p0a 5) p0_4a p0_4k p0_4w p0_4l)) H := hP.sub [11, 12, 13, 14, 15, 16, 17, 18, 19, 20, 21, 0, 1, 2, 3, 4, 5, 6, 7, 8, 9, 10] rfl
      have hD : va_D A ((oX3 (p0a 0) p0a p0k p0n (o_22.2)) ++ (oX6 (p0a 5) p0_4a p0_4k p0_4w p0_4l)) := hD.sub [11, 12, 13, 14, 15, 16, 17, 18, 19, 20, 21, 0, 1, 2, 3, 4, 5, 6, 7, 8, 9, 10] (by decide) rfl
      have hK : va_K (dC, dI) cls ((tX3 p0k) ++ (tX6 p0_4k)) s := hK.sub [10, 11, 12, 13, 14, 15, 16, 17, 18, 19, 0, 1, 2, 3, 4, 5, 6, 7, 8, 9] rfl
      obtain rfl : r23 = (o_22.1) := hw
      obtain ⟨o_24, hc_24, hrun⟩ := bnd9 hrun
      have hPc := hP.sub (ws' := (oX3 (p0a 0) p0a p0k p0n (o_22.2))) [0, 1, 2, 3, 4, 5, 6, 7, 8, 9, 10] rfl
      have hDc := hD.sub (ws' := (oX3 (p0a 0) p0a p0k p0n (o_22.2))) [0, 1, 2, 3, 4, 5, 6, 7, 8, 9, 10] (by decide) rfl
      have hKc := hK.sub (tys' := (tX3 p0k)) [0, 1, 2, 3, 4, 5, 6, 7, 8, 9] rfl
      have hFc := va_free (wc := (oX3 (p0a 0) p0a p0k p0n (o_22.2))) hD hS hA [0, 1, 2, 3, 4, 5, 6, 7, 8, 9, 10] rfl
      refine va_callv (va_runV (As := [.int (o_22.1)]) (rest := []) ⟨hx, hb, hml, hown, hts⟩ (kX3_push l dC dI (p0a := (st0 (p0a 0) p0a)) (p0k := p0k) (p0n := p0n) (p0w := (o_22.2)) (p1 := (o_22.1)) (sz := _) (o := o_24) (hrun := hc_24)) (cwV 1 hts (gi_V qw769 qw770 qw771 qw722 (gi_z qw768)) rfl rfl rfl (by decide +kernel) ⟨Nat.le_of_ble_eq_true rfl, Nat.le_of_ble_eq_true rfl⟩) ⟨PRE.blind, va_recv hKc hPc (ci := 10) (q0 := 0) rfl rfl, PRE.of hE hS hFc hPc hKc hDc⟩ rfl rfl hl.1 rfl (lv_room (Nat.le_of_ble_eq_true rfl)) dX3_moveInText_79 ⟨Nat.le_of_ble_eq_true rfl, Nat.le_of_ble_eq_true rfl⟩) hS (fun q _ h => hFc q h) hFc (fun u t H locs ht hvm hw hB hz1 hk1 hS => ?_)
      obtain ⟨hP, hD, hK⟩ := JOIN (wr := (oX6 (p0a 5) p0_4a p0_4k p0_4w p0_4l)) hP hD hK [0, 1, 2, 3, 4, 5, 6, 7, 8, 9, 10] [11, 12, 13, 14, 15, 16, 17, 18, 19, 20, 21] [10, 11, 12, 13, 14, 15, 16, 17, 18, 19] rfl rfl (by decide) (by decide) rfl hk1 hFc ht hvm hB
      have hP : va_P (dC, dI) cls ((oX3 (p0a 0) p0a p0k p0n o_24) ++ (oX6 (p0a 5) p0_4a p0_4k p0_4w p0_4l)) H := hP.sub [11, 12, 13, 14, 15, 16, 17, 18, 19, 20, 21, 0, 1, 2, 3, 4, 5, 6, 7, 8, 9, 10] rfl
      have hD : va_D A ((oX3 (p0a 0) p0a p0k p0n o_24) ++ (oX6 (p0a 5) p0_4a p0_4k p0_4w p0_4l)) := hD.sub [11, 12, 13, 14, 15, 16, 17, 18, 19, 20, 21, 0, 1, 2, 3, 4, 5, 6, 7, 8, 9, 10] (by decide) rfl
      have hK : va_K (dC, dI) cls ((tX3 p0k) ++ (tX6 p0_4k)) s := hK.sub [10, 11, 12, 13, 14, 15, 16, 17, 18, 19, 0, 1, 2, 3, 4, 5, 6, 7, 8, 9] rfl
      refine lv_goto (tgt := 130) hx hb dX3_moveInText_82 (by decide) ?_
      exact J130 o_24 _ _ _ hrun hP hD hS (lv_sub hl [] rfl)
def fX3_moveStep_J239 (p0w_239 : ST) : Option ST := some p0w_239
def fX3_moveStep (p0n : Nat → Nat) (p0w : ST) (p1n : Nat → Nat) (p1w : ST) (p2 : Int32) (p3 : Int32) (p0_4w : ST) : Option ST := (if ixb p3 (p1n 2) = true then (if ixb p3 (p1n 4) = true then (if (p1w 2 (nn p3)) = 0 then (if ixb p3 (p1n 3) = true then (if ixb ((p2 * 320) + (p1w 3 (nn p3))) 2560 = true then (lt9 (upw p0w 16 (nn ((p2 * 320) + (p1w 3 (nn p3)))) (p1w 4 (nn p3))) fun (w6 : ST) => (fX3_moveStep_J239 w6)) else none) else none) else (if (p1w 2 (nn p3)) = 21 then (if ixb p3 (p1n 3) = true then ((fX3_argumentOf p0w p2 (p1w 4 (nn p3))).bind fun (o_9 : Int32) => (if ixb ((p2 * 320) + (p1w 3 (nn p3))) 2560 = true then (lt9 (upw p0w 16 (nn ((p2 * 320) + (p1w 3 (nn p3)))) o_9) fun (w12 : ST) => (fX3_moveStep_J239 w12)) else none)) else none) else (if (p1w 2 (nn p3)) = 20 then ((fX3_enter p0n p0w 1 (p1w 4 (nn p3)) p0_4w).bind fun (o_14 : ST) => (fX3_moveStep_J239 o_14)) else (if (p1w 2 (nn p3)) = 17 then (if ixb p3 (p1n 3) = true then (if ixb ((p2 * 320) + (p1w 4 (nn p3))) 2560 = true then ((fX3_readWord p0w (p0w 16 (nn ((p2 * 320) + (p1w 4 (nn p3)))))).bind fun (o_18 : Int32) => (if ixb ((p2 * 320) + (p1w 3 (nn p3))) 2560 = true then (lt9 (upw p0w 16 (nn ((p2 * 320) + (p1w 3 (nn p3)))) o_18) fun (w21 : ST) => (fX3_moveStep_J239 w21)) else none)) else none) else none) else (if (p1w 2 (nn p3)) = 18 then (if ixb ((p2 * 320) + (p1w 4 (nn p3))) 2560 = true then (if ixb p3 (p1n 5) = true then (if ixb ((p2 * 320) + (p1w 5 (nn p3))) 2560 = true then ((fX3_writeWord p0w (p0w 16 (nn ((p2 * 320) + (p1w 4 (nn p3))))) (p0w 16 (nn ((p2 * 320) + (p1w 5 (nn p3)))))).bind fun (o_26 : ST) => (fX3_moveStep_J239 o_26)) else none) else none) else none) else (if (p1w 2 (nn p3)) = 19 then (if ixb ((p2 * 320) + (p1w 4 (nn p3))) 2560 = true then ((fX3_push p0w (p0w 16 (nn ((p2 * 320) + (p1w 4 (nn p3)))))).bind fun (o_29 : ST) => (fX3_moveStep_J239 o_29)) else none) else (if ixb p3 (p1n 3) = true then (if ixb ((p2 * 320) + (p1w 4 (nn p3))) 2560 = true then (if ixb p3 (p1n 5) = true then (if ixb ((p2 * 320) + (p1w 5 (nn p3))) 2560 = true then ((fX3_operate p0w (p1w 2 (nn p3)) (p0w 16 (nn ((p2 * 320) + (p1w 4 (nn p3))))) (p0w 16 (nn ((p2 * 320) + (p1w 5 (nn p3)))))).bind fun (o_34 : Int32 × ST) => (if ixb ((p2 * 320) + (p1w 3 (nn p3))) 2560 = true then (lt9 (upw (o_34.2) 16 (nn ((p2 * 320) + (p1w 3 (nn p3)))) (o_34.1)) fun (w37 : ST) => (fX3_moveStep_J239 w37)) else none)) else none) else none) else none) else none))))))) else none) else none)
set_option maxHeartbeats 16000000 in
set_option maxRecDepth 100000 in
theorem kX3_moveStep {zs : Nat × Nat} (l : Launch) (dC : Nat → ClassId) (dI : Nat → Nat → Nat) (p0a : Nat → Nat) (p0k : Nat → ClassId) (p0n : Nat → Nat) (p0w : ST) (p1a : Nat → Nat) (p1k : Nat → ClassId) (p1n : Nat → Nat) (p1w : ST) (p2 : Int32) (p3 : Int32) (p0_4a : Nat → Nat) (p0_4k : Nat → ClassId) (p0_4w : ST) (p0_4l : SL) (sz : Nat) (o : ST) (hrun : fX3_moveStep p0n p0w p1n p1w p2 p3 p0_4w = some o) : Met l yX3_moveStep (wz yX3_moveStep cX3_moveStep 7 (Option.none : Option Jvm.ClassFile.FieldType)) ({ frames := 3, cells := 0, slots := 0, locals := 71 } : Room) (va_Pc [.ref (p0a 0), .ref (p1a 0), .int p2, .int p3] (PRE zs dC dI ((oX3 (p0a 0) p0a p0k p0n p0w) ++ (oX9 (p1a 0) p1a p1k p1n p1w) ++ (oX6 (p0a 5) p0_4a p0_4k p0_4w p0_4l)) ((tX3 p0k) ++ (tX9 p1k) ++ (tX6 p0_4k)) sz)) (va_Qv (fun (_ : Unit) => True) (fun _ t => POST dC dI ((oX3 (p0a 0) p0a p0k p0n o) ++ (oX9 (p1a 0) p1a p1k p1n p1w) ++ (oX6 (p0a 5) p0_4a p0_4k p0_4w p0_4l)) ((tX3 p0k) ++ (tX9 p1k) ++ (tX6 p0_4k)) (va_A ((oX3 (p0a 0) p0a p0k p0n p0w) ++ (oX9 (p1a 0) p1a p1k p1n p1w) ++ (oX6 (p0a 5) p0_4a p0_4k p0_4w p0_4l)) sz) t) (va_A ((oX3 (p0a 0) p0a p0k p0n p0w) ++ (oX9 (p1a 0) p1a p1k p1n p1w) ++ (oX6 (p0a 5) p0_4a p0_4k p0_4w p0_4l)) sz)) 0 0 (va_A ((oX3 (p0a 0) p0a p0k p0n p0w) ++ (oX9 (p1a 0) p1a p1k p1n p1w) ++ (oX6 (p0a 5) p0_4a p0_4k p0_4w p0_4l)) sz) := by
  refine Met.ofW (cc := cX3_moveStep) (maxL := 7) (ret := (Option.none : Option Jvm.ClassFile.FieldType)) (by decide) rfl ?_
  intro p e s m args below meth c s₁ B hml hv
  obtain ⟨rfl, hsz, hP, hK, hD0, hE⟩ := hv
  have hx := B.exec
  have hb := B.bytes
  have hr := B.returns
  have hts0 := atoms_spec (ws := wz yX3_moveStep cX3_moveStep 7 (Option.none : Option Jvm.ClassFile.FieldType)) B.pre
  have hts : ∀ w ∈ gw, w.before _ s = true := fun w h => hts0 w (List.mem_cons_of_mem _ h)
  have hown : s.vm.findClass RX3 = some m.cls := findClass_of_methodNamed B.named
  have hlocks := B.notSynchronized
  subst hsz
  have hD := hD0.self (sz := s.heap.size)
  refine gQ9 ?_
  intro Q hQ
  generalize hAe : va_A ((oX3 (p0a 0) p0a p0k p0n p0w) ++ (oX9 (p1a 0) p1a p1k p1n p1w) ++ (oX6 (p0a 5) p0_4a p0_4k p0_4w p0_4l)) s.heap.size = A at hD hE hQ
  have hA : ∀ q : Nat, s.heap.size ≤ q → A q := fun q h => by rw [← hAe]; exact Or.inr h
  have hS : va_S A s.heap s.heap [] := va_S.rf
  have hP : va_P (dC, dI) cls ((oX3 (p0a 0) p0a p0k p0n p0w) ++ (oX9 (p1a 0) p1a p1k p1n p1w) ++ (oX6 (p0a 5) p0_4a p0_4k p0_4w p0_4l)) s.heap := hP
  have hl := lv_entry ([.ref (p0a 0), .ref (p1a 0), .int p2, .int p3]) (n := 7) (Nat.le_of_ble_eq_true rfl)
  rw [lg_entry_eq]
  generalize (lg_sl ([.ref (p0a 0), .ref (p1a 0), .int p2, .int p3]) ++ List.replicate (7 - (lg_sl ([.ref (p0a 0), .ref (p1a 0), .int p2, .int p3])).length) Slot.unset).toArray = ls at hl ⊢
  have hl : lv_has ls 7 [(0, .ref (p0a 0)), (1, .ref (p1a 0)), (2, .int p2), (3, .int p3)] := hl
  obtain ⟨H, hHe⟩ : ∃ H, H = s.heap := ⟨_, rfl⟩
  obtain ⟨locs, hle⟩ : ∃ locs : List Loc, locs = [] := ⟨_, rfl⟩
  rw [← hHe] at hP
  have hS : va_S A s.heap H locs := by rw [hHe, hle]; exact hS
  show W p l e ({ frames := 3, cells := 0, slots := 0, locals := 71 } : Room) s m ([.ref (p0a 0), .ref (p1a 0), .int p2, .int p3] : List Value).toArray below meth c s.heap [] 0 0 Q (F0 m 0 ls [])
  rw [← hle]
  refine wH9 hHe ?_
  unfold fX3_moveStep at hrun
  refine lv_iload_n hx hb dX3_moveStep_0 rfl (lv_at hl 2 rfl) ?_
  refine lv_sipush (v := 320) hx hb dX3_moveStep_1 (by decide) ?_
  refine lv_imul hx hb dX3_moveStep_4 ?_
  refine lv_istore (lv' := [(4, .int (p2 * 320)), (0, .ref (p0a 0)), (1, .ref (p1a 0)), (2, .int p2), (3, .int p3)]) hx hb dX3_moveStep_5 hl (by decide) rfl (fun ls hl => ?_)
  refine lv_aload_n hx hb dX3_moveStep_7 rfl (lv_at hl 2 rfl) ?_
  refine va_get (D := (dC, dI)) (ci := 3) (v := .ref (p1a 2)) (C := RX9) (T := TX9) (N := 6) hx hb hts i_X9 hown hK hP 11 rfl rfl 1 (by decide) (hts _ qw800) (fun _ h9 => h9) rfl dX3_moveStep_8 ?_
  refine lv_iload_n hx hb dX3_moveStep_11 rfl (lv_at hl 4 rfl) ?_
  obtain ⟨hq1, hrun⟩ := chk9 hrun
  refine va_iald hx hb hK hP 12 10 rfl rfl (ixb_in hq1) dX3_moveStep_12 ?_
  refine lv_istore (lv' := [(5, .int (p1w 2 (nn p3))), (4, .int (p2 * 320)), (0, .ref (p0a 0)), (1, .ref (p1a 0)), (2, .int p2), (3, .int p3)]) hx hb dX3_moveStep_13 hl (by decide) rfl (fun ls hl => ?_)
  refine lv_aload_n hx hb dX3_moveStep_15 rfl (lv_at hl 3 rfl) ?_
  refine va_get (D := (dC, dI)) (ci := 3) (v := .ref (p1a 4)) (C := RX9) (T := TX9) (N := 6) hx hb hts i_X9 hown hK hP 11 rfl rfl 3 (by decide) (hts _ qw801) (fun _ h9 => h9) rfl dX3_moveStep_16 ?_
  refine lv_iload_n hx hb dX3_moveStep_19 rfl (lv_at hl 5 rfl) ?_
  obtain ⟨hq2, hrun⟩ := chk9 hrun
  refine va_iald hx hb hK hP 14 12 rfl rfl (ixb_in hq2) dX3_moveStep_20 ?_
  refine lv_istore (lv' := [(6, .int (p1w 4 (nn p3))), (5, .int (p1w 2 (nn p3))), (4, .int (p2 * 320)), (0, .ref (p0a 0)), (1, .ref (p1a 0)), (2, .int p2), (3, .int p3)]) hx hb dX3_moveStep_21 hl (by decide) rfl (fun ls hl => ?_)
  refine lv_iload hx hb dX3_moveStep_23 (lv_at hl 1 rfl) ?_
  have J239 : ∀ (p0w_239 : ST) (H : Heap) (locs : List Loc) (ls : Array Slot), (fX3_moveStep_J239 p0w_239) = some o → va_P (dC, dI) cls ((oX3 (p0a 0) p0a p0k p0n p0w_239) ++ (oX9 (p1a 0) p1a p1k p1n p1w) ++ (oX6 (p0a 5) p0_4a p0_4k p0_4w p0_4l)) H → va_D A ((oX3 (p0a 0) p0a p0k p0n p0w_239) ++ (oX9 (p1a 0) p1a p1k p1n p1w) ++ (oX6 (p0a 5) p0_4a p0_4k p0_4w p0_4l)) → va_S A s.heap H locs → lv_has ls 7 [] → W p l e ({ frames := 3, cells := 0, slots := 0, locals := 71 } : Room) s m ([.ref (p0a 0), .ref (p1a 0), .int p2, .int p3] : List Value).toArray below meth c H locs 0 0 Q (F0 m 239 ls []) := by
    intro p0w_239 H locs ls hrun hP hD hS hl
    unfold fX3_moveStep_J239 at hrun
    have ho9 : p0w_239 = o := Option.some.inj hrun
    have hP9 : va_P (dC, dI) cls ((oX3 (p0a 0) p0a p0k p0n o) ++ (oX9 (p1a 0) p1a p1k p1n p1w) ++ (oX6 (p0a 5) p0_4a p0_4k p0_4w p0_4l)) H := by first | exact hP | (rw [← ho9]; exact hP)
    have hD9 : va_D A ((oX3 (p0a 0) p0a p0k p0n o) ++ (oX9 (p1a 0) p1a p1k p1n p1w) ++ (oX6 (p0a 5) p0_4a p0_4k p0_4w p0_4l)) := by first | exact hD | (rw [← ho9]; exact hD)
    subst hQ
    exact W.vret hx hb hr (fun t ht hW => ⟨⟨(), rfl, trivial, ⟨by rw [ht]; exact hP9, va_K.moved hW.alike hK, hD9⟩⟩, hS.F ht⟩) hS.2.2 dX3_moveStep_239
  rcases br9 hrun with ⟨hc3, hrun⟩ | ⟨hc3, hrun⟩
  · refine lv_if_ne (tgt := 47) hx hb dX3_moveStep_25 (by decide) (fun c => absurd hc3 c) (fun _ => ?_)
    refine lv_aload_n hx hb dX3_moveStep_28 rfl (lv_at hl 3 rfl) ?_
    refine va_get (D := (dC, dI)) (ci := 10) (v := .ref (p0a 16)) (C := RX3) (T := TX3) (N := 20) hx hb hts i_X3 hown hK hP 0 rfl rfl 15 (by decide) (hts _ qw725) (fun _ h9 => h9) rfl dX3_moveStep_29 ?_
    refine lv_iload hx hb dX3_moveStep_32 (lv_at hl 2 rfl) ?_
    refine lv_aload_n hx hb dX3_moveStep_34 rfl (lv_at hl 4 rfl) ?_
    refine va_get (D := (dC, dI)) (ci := 3) (v := .ref (p1a 3)) (C := RX9) (T := TX9) (N := 6) hx hb hts i_X9 hown hK hP 11 rfl rfl 2 (by decide) (hts _ qw758) (fun _ h9 => h9) rfl dX3_moveStep_35 ?_
    refine lv_iload_n hx hb dX3_moveStep_38 rfl (lv_at hl 6 rfl) ?_
    obtain ⟨hq4, hrun⟩ := chk9 hrun
    refine va_iald hx hb hK hP 13 11 rfl rfl (ixb_in hq4) dX3_moveStep_39 ?_
    refine lv_iadd hx hb dX3_moveStep_40 ?_
    refine lv_iload hx hb dX3_moveStep_41 (lv_at hl 0 rfl) ?_
    obtain ⟨hq5, hrun⟩ := chk9 hrun
    refine va_iast hx hb hK hP hD hS 8 7 rfl rfl (ixb_in hq5) dX3_moveStep_43 (fun H locs hP hD hS => ?_)
    have hP : va_P (dC, dI) cls ((oX3 (p0a 0) p0a p0k p0n (upw p0w 16 (nn ((p2 * 320) + (p1w 3 (nn p3)))) (p1w 4 (nn p3)))) ++ (oX9 (p1a 0) p1a p1k p1n p1w) ++ (oX6 (p0a 5) p0_4a p0_4k p0_4w p0_4l)) H := hP
    have hD : va_D A ((oX3 (p0a 0) p0a p0k p0n (upw p0w 16 (nn ((p2 * 320) + (p1w 3 (nn p3)))) (p1w 4 (nn p3)))) ++ (oX9 (p1a 0) p1a p1k p1n p1w) ++ (oX6 (p0a 5) p0_4a p0_4k p0_4w p0_4l)) := hD
    obtain ⟨w6, ew6, hrun⟩ := let9 hrun
    rw [← ew6] at hP hD
    refine lv_goto (tgt := 239) hx hb dX3_moveStep_44 (by decide) ?_
    exact J239 w6 _ _ _ hrun hP hD hS (lv_sub hl [] rfl)
  · refine lv_if_ne (tgt := 47) hx hb dX3_moveStep_25 (by decide) (fun _ => ?_) (fun c => absurd c hc3)
    refine lv_iload hx hb dX3_moveStep_47 (lv_at hl 1 rfl) ?_
    refine lv_bipush (v := 21) hx hb dX3_moveStep_49 (by decide) ?_
    rcases br9 hrun with ⟨hc7, hrun⟩ | ⟨hc7, hrun⟩
    · refine lv_icmp_ne (tgt := 78) hx hb dX3_moveStep_51 (by decide) (fun c => absurd hc7 c) (fun _ => ?_)
      refine lv_aload_n hx hb dX3_moveStep_54 rfl (lv_at hl 3 rfl) ?_
      refine va_get (D := (dC, dI)) (ci := 10) (v := .ref (p0a 16)) (C := RX3) (T := TX3) (N := 20) hx hb hts i_X3 hown hK hP 0 rfl rfl 15 (by decide) (hts _ qw725) (fun _ h9 => h9) rfl dX3_moveStep_55 ?_
      refine lv_iload hx hb dX3_moveStep_58 (lv_at hl 2 rfl) ?_
      refine lv_aload_n hx hb dX3_moveStep_60 rfl (lv_at hl 4 rfl) ?_
      refine va_get (D := (dC, dI)) (ci := 3) (v := .ref (p1a 3)) (C := RX9) (T := TX9) (N := 6) hx hb hts i_X9 hown hK hP 11 rfl rfl 2 (by decide) (hts _ qw758) (fun _ h9 => h9) rfl dX3_moveStep_61 ?_
      refine lv_iload_n hx hb dX3_moveStep_64 rfl (lv_at hl 6 rfl) ?_
      obtain ⟨hq8, hrun⟩ := chk9 hrun
      refine va_iald hx hb hK hP 13 11 rfl rfl (ixb_in hq8) dX3_moveStep_65 ?_
      refine lv_iadd hx hb dX3_moveStep_66 ?_
      refine lv_aload_n hx hb dX3_moveStep_67 rfl (lv_at hl 3 rfl) ?_
      refine lv_iload_n hx hb dX3_moveStep_68 rfl (lv_at hl 5 rfl) ?_
      refine lv_iload hx hb dX3_moveStep_69 (lv_at hl 0 rfl) ?_
      obtain ⟨o_9, hc_9, hrun⟩ := bnd9 hrun
      have hPc := hP.sub (ws' := (oX3 (p0a 0) p0a p0k p0n p0w)) [0, 1, 2, 3, 4, 5, 6, 7, 8, 9, 10] rfl
      have hDc := hD.sub (ws' := (oX3 (p0a 0) p0a p0k p0n p0w)) [0, 1, 2, 3, 4, 5, 6, 7, 8, 9, 10] (by decide) rfl
      have hKc := hK.sub (tys' := (tX3 p0k)) [0, 1, 2, 3, 4, 5, 6, 7, 8, 9] rfl
      have hFc := va_free (wc := (oX3 (p0a 0) p0a p0k p0n p0w)) hD hS hA [0, 1, 2, 3, 4, 5, 6, 7, 8, 9, 10] rfl
      refine va_calli (va_runV (As := [.int p2, .int (p1w 4 (nn p3))]) (rest := [.int ((p2 * 320) + (p1w 3 (nn p3))), .ref (p0a 16)]) ⟨hx, hb, hml, hown, hts⟩ (kX3_argumentOf l dC dI (p0a := (st0 (p0a 0) p0a)) (p0k := p0k) (p0n := p0n) (p0w := p0w) (p1 := p2) (p2 := (p1w 4 (nn p3))) (sz := _) (o := o_9) (hrun := hc_9)) (cwV 2 hts (gi_V qw789 qw790 qw791 qw722 (gi_z qw788)) rfl rfl rfl (by decide +kernel) ⟨Nat.le_of_ble_eq_true rfl, Nat.le_of_ble_eq_true rfl⟩) ⟨PRE.blind, va_recv hKc hPc (ci := 10) (q0 := 0) rfl rfl, PRE.of hE hS hFc hPc hKc hDc⟩ rfl rfl hl.1 rfl (lv_room (Nat.le_of_ble_eq_true rfl)) dX3_moveStep_71 ⟨Nat.le_of_ble_eq_true rfl, Nat.le_of_ble_eq_true rfl⟩) hS (fun q _ h => hFc q h) hFc (fun r10 u t H locs ht hvm hw hB hz1 hk1 hS => ?_)
      obtain ⟨hP, hD, hK⟩ := JOIN (wr := ((oX9 (p1a 0) p1a p1k p1n p1w) ++ (oX6 (p0a 5) p0_4a p0_4k p0_4w p0_4l))) hP hD hK [0, 1, 2, 3, 4, 5, 6, 7, 8, 9, 10] [11, 12, 13, 14, 15, 16, 17, 18, 19, 20, 21, 22, 23, 24, 25, 26, 27] [10, 11, 12, 13, 14, 15, 16, 17, 18, 19, 20, 21, 22, 23, 24] rfl rfl (by decide) (by decide) rfl hk1 hFc ht hvm hB
      have hP : va_P (dC, dI) cls ((oX3 (p0a 0) p0a p0k p0n p0w) ++ (oX9 (p1a 0) p1a p1k p1n p1w) ++ (oX6 (p0a 5) p0_4a p0_4k p0_4w p0_4l)) H := hP.sub [17, 18, 19, 20, 21, 22, 23, 24, 25, 26, 27, 0, 1, 2, 3, 4, 5, 6, 7, 8, 9, 10, 11, 12, 13, 14, 15, 16] rfl
      have hD : va_D A ((oX3 (p0a 0) p0a p0k p0n p0w) ++ (oX9 (p1a 0) p1a p1k p1n p1w) ++ (oX6 (p0a 5) p0_4a p0_4k p0_4w p0_4l)) := hD.sub [17, 18, 19, 20, 21, 22, 23, 24, 25, 26, 27, 0, 1, 2, 3, 4, 5, 6, 7, 8, 9, 10, 11, 12, 13, 14, 15, 16] (by decide) rfl
      have hK : va_K (dC, dI) cls ((tX3 p0k) ++ (tX9 p1k) ++ (tX6 p0_4k)) s := hK.sub [15, 16, 17, 18, 19, 20, 21, 22, 23, 24, 0, 1, 2, 3, 4, 5, 6, 7, 8, 9, 10, 11, 12, 13, 14] rfl
      obtain rfl : o_9 = r10 := hw.symm
      obtain ⟨hq11, hrun⟩ := chk9 hrun
      refine va_iast hx hb hK hP hD hS 8 7 rfl rfl (ixb_in hq11) dX3_moveStep_74 (fun H locs hP hD hS => ?_)
      have hP : va_P (dC, dI) cls ((oX3 (p0a 0) p0a p0k p0n (upw p0w 16 (nn ((p2 * 320) + (p1w 3 (nn p3)))) o_9)) ++ (oX9 (p1a 0) p1a p1k p1n p1w) ++ (oX6 (p0a 5) p0_4a p0_4k p0_4w p0_4l)) H := hP
      have hD : va_D A ((oX3 (p0a 0) p0a p0k p0n (upw p0w 16 (nn ((p2 * 320) + (p1w 3 (nn p3)))) o_9)) ++ (oX9 (p1a 0) p1a p1k p1n p1w) ++ (oX6 (p0a 5) p0_4a p0_4k p0_4w p0_4l)) := hD
      obtain ⟨w12, ew12, hrun⟩ := let9 hrun
      rw [← ew12] at hP hD
      refine lv_goto (tgt := 239) hx hb dX3_moveStep_75 (by decide) ?_
      exact J239 w12 _ _ _ hrun hP hD hS (lv_sub hl [] rfl)
    · refine lv_icmp_ne (tgt := 78) hx hb dX3_moveStep_51 (by decide) (fun _ => ?_) (fun c => absurd c hc7)
      refine lv_iload hx hb dX3_moveStep_78 (lv_at hl 1 rfl) ?_
      refine lv_bipush (v := 20) hx hb dX3_moveStep_80 (by decide) ?_
      rcases br9 hrun with ⟨hc13, hrun⟩ | ⟨hc13, hrun⟩
      · refine lv_icmp_ne (tgt := 95) hx hb dX3_moveStep_82 (by decide) (fun c => absurd hc13 c) (fun _ => ?_)
        refine lv_aload_n hx hb dX3_moveStep_85 rfl (lv_at hl 3 rfl) ?_
        refine lv_iconst (v := 1) hx hb dX3_moveStep_86 (by decide) ?_
        refine lv_iload hx hb dX3_moveStep_87 (lv_at hl 0 rfl) ?_
        obtain ⟨o_14, hc_14, hrun⟩ := bnd9 hrun
        have hPc := hP.sub (ws' := ((oX3 (p0a 0) p0a p0k p0n p0w) ++ (oX6 (p0a 5) p0_4a p0_4k p0_4w p0_4l))) [0, 1, 2, 3, 4, 5, 6, 7, 8, 9, 10, 17, 18, 19, 20, 21, 22, 23, 24, 25, 26, 27] rfl
        have hDc := hD.sub (ws' := ((oX3 (p0a 0) p0a p0k p0n p0w) ++ (oX6 (p0a 5) p0_4a p0_4k p0_4w p0_4l))) [0, 1, 2, 3, 4, 5, 6, 7, 8, 9, 10, 17, 18, 19, 20, 21, 22, 23, 24, 25, 26, 27] (by decide) rfl
        have hKc := hK.sub (tys' := ((tX3 p0k) ++ (tX6 p0_4k))) [0, 1, 2, 3, 4, 5, 6, 7, 8, 9, 15, 16, 17, 18, 19, 20, 21, 22, 23, 24] rfl
        have hFc := va_free (wc := ((oX3 (p0a 0) p0a p0k p0n p0w) ++ (oX6 (p0a 5) p0_4a p0_4k p0_4w p0_4l))) hD hS hA [0, 1, 2, 3, 4, 5, 6, 7, 8, 9, 10, 17, 18, 19, 20, 21, 22, 23, 24, 25, 26, 27] rfl
        refine va_callv (va_runV (As := [.int 1, .int (p1w 4 (nn p3))]) (rest := []) ⟨hx, hb, hml, hown, hts⟩ (kX3_enter l dC dI (p0a := (st0 (p0a 0) p0a)) (p0k := p0k) (p0n := p0n) (p0w := p0w) (p1 := 1) (p2 := (p1w 4 (nn p3))) (p0_4a := p0_4a) (p0_4k := p0_4k) (p0_4w := p0_4w) (p0_4l := p0_4l) (sz := _) (o := o_14) (hrun := hc_14)) (cwV 2 hts (gi_V qw785 qw786 qw787 qw722 (gi_z qw784)) rfl rfl rfl (by decide +kernel) ⟨Nat.le_of_ble_eq_true rfl, Nat.le_of_ble_eq_true rfl⟩) ⟨PRE.blind, va_recv hKc hPc (ci := 10) (q0 := 0) rfl rfl, PRE.of hE hS hFc hPc hKc hDc⟩ rfl rfl hl.1 rfl (lv_room (Nat.le_of_ble_eq_true rfl)) dX3_moveStep_89 ⟨Nat.le_of_ble_eq_true rfl, Nat.le_of_ble_eq_true rfl⟩) hS (fun q _ h => hFc q h) hFc (fun u t H locs ht hvm hw hB hz1 hk1 hS => ?_)
        obtain ⟨hP, hD, hK⟩ := JOIN (wr := (oX9 (p1a 0) p1a p1k p1n p1w)) hP hD hK [0, 1, 2, 3, 4, 5, 6, 7, 8, 9, 10, 17, 18, 19, 20, 21, 22, 23, 24, 25, 26, 27] [11, 12, 13, 14, 15, 16] [10, 11, 12, 13, 14] rfl rfl (by decide) (by decide) rfl hk1 hFc ht hvm hB
        have hP : va_P (dC, dI) cls ((oX3 (p0a 0) p0a p0k p0n o_14) ++ (oX9 (p1a 0) p1a p1k p1n p1w) ++ (oX6 (p0a 5) p0_4a p0_4k p0_4w p0_4l)) H := hP.sub [6, 7, 8, 9, 10, 11, 12, 13, 14, 15, 16, 0, 1, 2, 3, 4, 5, 17, 18, 19, 20, 21, 22, 23, 24, 25, 26, 27] rfl
        have hD : va_D A ((oX3 (p0a 0) p0a p0k p0n o_14) ++ (oX9 (p1a 0) p1a p1k p1n p1w) ++ (oX6 (p0a 5) p0_4a p0_4k p0_4w p0_4l)) := hD.sub [6, 7, 8, 9, 10, 11, 12, 13, 14, 15, 16, 0, 1, 2, 3, 4, 5, 17, 18, 19, 20, 21, 22, 23, 24, 25, 26, 27] (by decide) rfl
        have hK : va_K (dC, dI) cls ((tX3 p0k) ++ (tX9 p1k) ++ (tX6 p0_4k)) s := hK.sub [5, 6, 7, 8, 9, 10, 11, 12, 13, 14, 0, 1, 2, 3, 4, 15, 16, 17, 18, 19, 20, 21, 22, 23, 24] rfl
        refine lv_goto (tgt := 239) hx hb dX3_moveStep_92 (by decide) ?_
        exact J239 o_14 _ _ _ hrun hP hD hS (lv_sub hl [] rfl)
      · refine lv_icmp_ne (tgt := 95) hx hb dX3_moveStep_82 (by decide) (fun _ => ?_) (fun c => absurd c hc13)
        refine lv_iload hx hb dX3_moveStep_95 (lv_at hl 1 rfl) ?_
        refine lv_bipush (v := 17) hx hb dX3_moveStep_97 (by decide) ?_
        rcases br9 hrun with ⟨hc15, hrun⟩ | ⟨hc15, hrun⟩
        · refine lv_icmp_ne (tgt := 133) hx hb dX3_moveStep_99 (by decide) (fun c => absurd hc15 c) (fun _ => ?_)
          refine lv_aload_n hx hb dX3_moveStep_102 rfl (lv_at hl 3 rfl) ?_
          refine va_get (D := (dC, dI)) (ci := 10) (v := .ref (p0a 16)) (C := RX3) (T := TX3) (N := 20) hx hb hts i_X3 hown hK hP 0 rfl rfl 15 (by decide) (hts _ qw725) (fun _ h9 => h9) rfl dX3_moveStep_103 ?_
          refine lv_iload hx hb dX3_moveStep_106 (lv_at hl 2 rfl) ?_
          refine lv_aload_n hx hb dX3_moveStep_108 rfl (lv_at hl 4 rfl) ?_
          refine va_get (D := (dC, dI)) (ci := 3) (v := .ref (p1a 3)) (C := RX9) (T := TX9) (N := 6) hx hb hts i_X9 hown hK hP 11 rfl rfl 2 (by decide) (hts _ qw758) (fun _ h9 => h9) rfl dX3_moveStep_109 ?_
          refine lv_iload_n hx hb dX3_moveStep_112 rfl (lv_at hl 6 rfl) ?_
          obtain ⟨hq16, hrun⟩ := chk9 hrun
          refine va_iald hx hb hK hP 13 11 rfl rfl (ixb_in hq16) dX3_moveStep_113 ?_
          refine lv_iadd hx hb dX3_moveStep_114 ?_
          refine lv_aload_n hx hb dX3_moveStep_115 rfl (lv_at hl 3 rfl) ?_
          refine lv_aload_n hx hb dX3_moveStep_116 rfl (lv_at hl 3 rfl) ?_
          refine va_get (D := (dC, dI)) (ci := 10) (v := .ref (p0a 16)) (C := RX3) (T := TX3) (N := 20) hx hb hts i_X3 hown hK hP 0 rfl rfl 15 (by decide) (hts _ qw725) (fun _ h9 => h9) rfl dX3_moveStep_117 ?_
          refine lv_iload hx hb dX3_moveStep_120 (lv_at hl 2 rfl) ?_
          refine lv_iload hx hb dX3_moveStep_122 (lv_at hl 0 rfl) ?_
          refine lv_iadd hx hb dX3_moveStep_124 ?_
          obtain ⟨hq17, hrun⟩ := chk9 hrun
          refine va_iald hx hb hK hP 8 7 rfl rfl (ixb_in hq17) dX3_moveStep_125 ?_
          obtain ⟨o_18, hc_18, hrun⟩ := bnd9 hrun
          have hPc := hP.sub (ws' := (oX3 (p0a 0) p0a p0k p0n p0w)) [0, 1, 2, 3, 4, 5, 6, 7, 8, 9, 10] rfl
          have hDc := hD.sub (ws' := (oX3 (p0a 0) p0a p0k p0n p0w)) [0, 1, 2, 3, 4, 5, 6, 7, 8, 9, 10] (by decide) rfl
          have hKc := hK.sub (tys' := (tX3 p0k)) [0, 1, 2, 3, 4, 5, 6, 7, 8, 9] rfl
          have hFc := va_free (wc := (oX3 (p0a 0) p0a p0k p0n p0w)) hD hS hA [0, 1, 2, 3, 4, 5, 6, 7, 8, 9, 10] rfl
          refine va_calli (va_runV (As := [.int (p0w 16 (nn ((p2 * 320) + (p1w 4 (nn p3)))))]) (rest := [.int ((p2 * 320) + (p1w 3 (nn p3))), .ref (p0a 16)]) ⟨hx, hb, hml, hown, hts⟩ (kX3_readWord l dC dI (p0a := (st0 (p0a 0) p0a)) (p0k := p0k) (p0n := p0n) (p0w := p0w) (p1 := (p0w 16 (nn ((p2 * 320) + (p1w 4 (nn p3)))))) (sz := _) (o := o_18) (hrun := hc_18)) (cwV 1 hts (gi_V qw777 qw778 qw779 qw722 (gi_z qw776)) rfl rfl rfl (by decide +kernel) ⟨Nat.le_of_ble_eq_true rfl, Nat.le_of_ble_eq_true rfl⟩) ⟨PRE.blind, va_recv hKc hPc (ci := 10) (q0 := 0) rfl rfl, PRE.of hE hS hFc hPc hKc hDc⟩ rfl rfl hl.1 rfl (lv_room (Nat.le_of_ble_eq_true rfl)) dX3_moveStep_126 ⟨Nat.le_of_ble_eq_true rfl, Nat.le_of_ble_eq_true rfl⟩) hS (fun q _ h => hFc q h) hFc (fun r19 u t H locs ht hvm hw hB hz1 hk1 hS => ?_)
          obtain ⟨hP, hD, hK⟩ := JOIN (wr := ((oX9 (p1a 0) p1a p1k p1n p1w) ++ (oX6 (p0a 5) p0_4a p0_4k p0_4w p0_4l))) hP hD hK [0, 1, 2, 3, 4, 5, 6, 7, 8, 9, 10] [11, 12, 13, 14, 15, 16, 17, 18, 19, 20, 21, 22, 23, 24, 25, 26, 27] [10, 11, 12, 13, 14, 15, 16, 17, 18, 19, 20, 21, 22, 23, 24] rfl rfl (by decide) (by decide) rfl hk1 hFc ht hvm hB
          have hP : va_P (dC, dI) cls ((oX3 (p0a 0) p0a p0k p0n p0w) ++ (oX9 (p1a 0) p1a p1k p1n p1w) ++ (oX6 (p0a 5) p0_4a p0_4k p0_4w p0_4l)) H := hP.sub [17, 18, 19, 20, 21, 22, 23, 24, 25, 26, 27, 0, 1, 2, 3, 4, 5, 6, 7, 8, 9, 10, 11, 12, 13, 14, 15, 16] rfl
          have hD : va_D A ((oX3 (p0a 0) p0a p0k p0n p0w) ++ (oX9 (p1a 0) p1a p1k p1n p1w) ++ (oX6 (p0a 5) p0_4a p0_4k p0_4w p0_4l)) := hD.sub [17, 18, 19, 20, 21, 22, 23, 24, 25, 26, 27, 0, 1, 2, 3, 4, 5, 6, 7, 8, 9, 10, 11, 12, 13, 14, 15, 16] (by decide) rfl
          have hK : va_K (dC, dI) cls ((tX3 p0k) ++ (tX9 p1k) ++ (tX6 p0_4k)) s := hK.sub [15, 16, 17, 18, 19, 20, 21, 22, 23, 24, 0, 1, 2, 3, 4, 5, 6, 7, 8, 9, 10, 11, 12, 13, 14] rfl
          obtain rfl : o_18 = r19 := hw.symm
          obtain ⟨hq20, hrun⟩ := chk9 hrun
          refine va_iast hx hb hK hP hD hS 8 7 rfl rfl (ixb_in hq20) dX3_moveStep_129 (fun H locs hP hD hS => ?_)
          have hP : va_P (dC, dI) cls ((oX3 (p0a 0) p0a p0k p0n (upw p0w 16 (nn ((p2 * 320) + (p1w 3 (nn p3)))) o_18)) ++ (oX9 (p1a 0) p1a p1k p1n p1w) ++ (oX6 (p0a 5) p0_4a p0_4k p0_4w p0_4l)) H := hP
          have hD : va_D A ((oX3 (p0a 0) p0a p0k p0n (upw p0w 16 (nn ((p2 * 320) + (p1w 3 (nn p3)))) o_18)) ++ (oX9 (p1a 0) p1a p1k p1n p1w) ++ (oX6 (p0a 5) p0_4a p0_4k p0_4w p0_4l)) := hD
          obtain ⟨w21, ew21, hrun⟩ := let9 hrun
          rw [← ew21] at hP hD
          refine lv_goto (tgt := 239) hx hb dX3_moveStep_130 (by decide) ?_
          exact J239 w21 _ _ _ hrun hP hD hS (lv_sub hl [] rfl)
        · refine lv_icmp_ne (tgt := 133) hx hb dX3_moveStep_99 (by decide) (fun _ => ?_) (fun c => absurd c hc15)
          refine lv_iload hx hb dX3_moveStep_133 (lv_at hl 1 rfl) ?_
          refine lv_bipush (v := 18) hx hb dX3_moveStep_135 (by decide) ?_
          rcases br9 hrun with ⟨hc22, hrun⟩ | ⟨hc22, hrun⟩
          · refine lv_icmp_ne (tgt := 171) hx hb dX3_moveStep_137 (by decide) (fun c => absurd hc22 c) (fun _ => ?_)
            refine lv_aload_n hx hb dX3_moveStep_140 rfl (lv_at hl 3 rfl) ?_
            refine lv_aload_n hx hb dX3_moveStep_141 rfl (lv_at hl 3 rfl) ?_
            refine va_get (D := (dC, dI)) (ci := 10) (v := .ref (p0a 16)) (C := RX3) (T := TX3) (N := 20) hx hb hts i_X3 hown hK hP 0 rfl rfl 15 (by decide) (hts _ qw725) (fun _ h9 => h9) rfl dX3_moveStep_142 ?_
            refine lv_iload hx hb dX3_moveStep_145 (lv_at hl 2 rfl) ?_
            refine lv_iload hx hb dX3_moveStep_147 (lv_at hl 0 rfl) ?_
            refine lv_iadd hx hb dX3_moveStep_149 ?_
            obtain ⟨hq23, hrun⟩ := chk9 hrun
            refine va_iald hx hb hK hP 8 7 rfl rfl (ixb_in hq23) dX3_moveStep_150 ?_
            refine lv_aload_n hx hb dX3_moveStep_151 rfl (lv_at hl 3 rfl) ?_
            refine va_get (D := (dC, dI)) (ci := 10) (v := .ref (p0a 16)) (C := RX3) (T := TX3) (N := 20) hx hb hts i_X3 hown hK hP 0 rfl rfl 15 (by decide) (hts _ qw725) (fun _ h9 => h9) rfl dX3_moveStep_152 ?_
            refine lv_iload hx hb dX3_moveStep_155 (lv_at hl 2 rfl) ?_
            refine lv_aload_n hx hb dX3_moveStep_157 rfl (lv_at hl 4 rfl) ?_
            refine va_get (D := (dC, dI)) (ci := 3) (v := .ref (p1a 5)) (C := RX9) (T := TX9) (N := 6) hx hb hts i_X9 hown hK hP 11 rfl rfl 4 (by decide) (hts _ qw802) (fun _ h9 => h9) rfl dX3_moveStep_158 ?_
            refine lv_iload_n hx hb dX3_moveStep_161 rfl (lv_at hl 6 rfl) ?_
            obtain ⟨hq24, hrun⟩ := chk9 hrun
            refine va_iald hx hb hK hP 15 13 rfl rfl (ixb_in hq24) dX3_moveStep_162 ?_
            refine lv_iadd hx hb dX3_moveStep_163 ?_
            obtain ⟨hq25, hrun⟩ := chk9 hrun
            refine va_iald hx hb hK hP 8 7 rfl rfl (ixb_in hq25) dX3_moveStep_164 ?_
            obtain ⟨o_26, hc_26, hrun⟩ := bnd9 hrun
            have hPc := hP.sub (ws' := (oX3 (p0a 0) p0a p0k p0n p0w)) [0, 1, 2, 3, 4, 5, 6, 7, 8, 9, 10] rfl
            have hDc := hD.sub (ws' := (oX3 (p0a 0) p0a p0k p0n p0w)) [0, 1, 2, 3, 4, 5, 6, 7, 8, 9, 10] (by decide) rfl
            have hKc := hK.sub (tys' := (tX3 p0k)) [0, 1, 2, 3, 4, 5, 6, 7, 8, 9] rfl
            have hFc := va_free (wc := (oX3 (p0a 0) p0a p0k p0n p0w)) hD hS hA [0, 1, 2, 3, 4, 5, 6, 7, 8, 9, 10] rfl
            refine va_callv (va_runV (As := [.int (p0w 16 (nn ((p2 * 320) + (p1w 4 (nn p3))))), .int (p0w 16 (nn ((p2 * 320) + (p1w 5 (nn p3)))))]) (rest := []) ⟨hx, hb, hml, hown, hts⟩ (kX3_writeWord l dC dI (p0a := (st0 (p0a 0) p0a)) (p0k := p0k) (p0n := p0n) (p0w := p0w) (p1 := (p0w 16 (nn ((p2 * 320) + (p1w 4 (nn p3)))))) (p2 := (p0w 16 (nn ((p2 * 320) + (p1w 5 (nn p3)))))) (sz := _) (o := o_26) (hrun := hc_26)) (cwV 2 hts (gi_V qw781 qw782 qw783 qw722 (gi_z qw780)) rfl rfl rfl (by decide +kernel) ⟨Nat.le_of_ble_eq_true rfl, Nat.le_of_ble_eq_true rfl⟩) ⟨PRE.blind, va_recv hKc hPc (ci := 10) (q0 := 0) rfl rfl, PRE.of hE hS hFc hPc hKc hDc⟩ rfl rfl hl.1 rfl (lv_room (Nat.le_of_ble_eq_true rfl)) dX3_moveStep_165 ⟨Nat.le_of_ble_eq_true rfl, Nat.le_of_ble_eq_true rfl⟩) hS (fun q _ h => hFc q h) hFc (fun u t H locs ht hvm hw hB hz1 hk1 hS => ?_)
            obtain ⟨hP, hD, hK⟩ := JOIN (wr := ((oX9 (p1a 0) p1a p1k p1n p1w) ++ (oX6 (p0a 5) p0_4a p0_4k p0_4w p0_4l))) hP hD hK [0, 1, 2, 3, 4, 5, 6, 7, 8, 9, 10] [11, 12, 13, 14, 15, 16, 17, 18, 19, 20, 21, 22, 23, 24, 25, 26, 27] [10, 11, 12, 13, 14, 15, 16, 17, 18, 19, 20, 21, 22, 23, 24] rfl rfl (by decide) (by decide) rfl hk1 hFc ht hvm hB
            have hP : va_P (dC, dI) cls ((oX3 (p0a 0) p0a p0k p0n o_26) ++ (oX9 (p1a 0) p1a p1k p1n p1w) ++ (oX6 (p0a 5) p0_4a p0_4k p0_4w p0_4l)) H := hP.sub [17, 18, 19, 20, 21, 22, 23, 24, 25, 26, 27, 0, 1, 2, 3, 4, 5, 6, 7, 8, 9, 10, 11, 12, 13, 14, 15, 16] rfl
            have hD : va_D A ((oX3 (p0a 0) p0a p0k p0n o_26) ++ (oX9 (p1a 0) p1a p1k p1n p1w) ++ (oX6 (p0a 5) p0_4a p0_4k p0_4w p0_4l)) := hD.sub [17, 18, 19, 20, 21, 22, 23, 24, 25, 26, 27, 0, 1, 2, 3, 4, 5, 6, 7, 8, 9, 10, 11, 12, 13, 14, 15, 16] (by decide) rfl
            have hK : va_K (dC, dI) cls ((tX3 p0k) ++ (tX9 p1k) ++ (tX6 p0_4k)) s := hK.sub [15, 16, 17, 18, 19, 20, 21, 22, 23, 24, 0, 1, 2, 3, 4, 5, 6, 7, 8, 9, 10, 11, 12, 13, 14] rfl
            refine lv_goto (tgt := 239) hx hb dX3_moveStep_168 (by decide) ?_
            exact J239 o_26 _ _ _ hrun hP hD hS (lv_sub hl [] rfl)
          · refine lv_icmp_ne (tgt := 171) hx hb dX3_moveStep_137 (by decide) (fun _ => ?_) (fun c => absurd c hc22)
            refine lv_iload hx hb dX3_moveStep_171 (lv_at hl 1 rfl) ?_
            refine lv_bipush (v := 19) hx hb dX3_moveStep_173 (by decide) ?_
            rcases br9 hrun with ⟨hc27, hrun⟩ | ⟨hc27, hrun⟩
            · refine lv_icmp_ne (tgt := 195) hx hb dX3_moveStep_175 (by decide) (fun c => absurd hc27 c) (fun _ => ?_)
              refine lv_aload_n hx hb dX3_moveStep_178 rfl (lv_at hl 3 rfl) ?_
              refine lv_aload_n hx hb dX3_moveStep_179 rfl (lv_at hl 3 rfl) ?_
              refine va_get (D := (dC, dI)) (ci := 10) (v := .ref (p0a 16)) (C := RX3) (T := TX3) (N := 20) hx hb hts i_X3 hown hK hP 0 rfl rfl 15 (by decide) (hts _ qw725) (fun _ h9 => h9) rfl dX3_moveStep_180 ?_
              refine lv_iload hx hb dX3_moveStep_183 (lv_at hl 2 rfl) ?_
              refine lv_iload hx hb dX3_moveStep_185 (lv_at hl 0 rfl) ?_
              refine lv_iadd hx hb dX3_moveStep_187 ?_
              obtain ⟨hq28, hrun⟩ := chk9 hrun
              refine va_iald hx hb hK hP 8 7 rfl rfl (ixb_in hq28) dX3_moveStep_188 ?_
              obtain ⟨o_29, hc_29, hrun⟩ := bnd9 hrun
              have hPc := hP.sub (ws' := (oX3 (p0a 0) p0a p0k p0n p0w)) [0, 1, 2, 3, 4, 5, 6, 7, 8, 9, 10] rfl
              have hDc := hD.sub (ws' := (oX3 (p0a 0) p0a p0k p0n p0w)) [0, 1, 2, 3, 4, 5, 6, 7, 8, 9, 10] (by decide) rfl
              have hKc := hK.sub (tys' := (tX3 p0k)) [0, 1, 2, 3, 4, 5, 6, 7, 8, 9] rfl
              have hFc := va_free (wc := (oX3 (p0a 0) p0a p0k p0n p0w)) hD hS hA [0, 1, 2, 3, 4, 5, 6, 7, 8, 9, 10] rfl
              refine va_callv (va_runV (As := [.int (p0w 16 (nn ((p2 * 320) + (p1w 4 (nn p3)))))]) (rest := []) ⟨hx, hb, hml, hown, hts⟩ (kX3_push l dC dI (p0a := (st0 (p0a 0) p0a)) (p0k := p0k) (p0n := p0n) (p0w := p0w) (p1 := (p0w 16 (nn ((p2 * 320) + (p1w 4 (nn p3)))))) (sz := _) (o := o_29) (hrun := hc_29)) (cwV 1 hts (gi_V qw769 qw770 qw771 qw722 (gi_z qw768)) rfl rfl rfl (by decide +kernel) ⟨Nat.le_of_ble_eq_true rfl, Nat.le_of_ble_eq_true rfl⟩) ⟨PRE.blind, va_recv hKc hPc (ci := 10) (q0 := 0) rfl rfl, PRE.of hE hS hFc hPc hKc hDc⟩ rfl rfl hl.1 rfl (lv_room (Nat.le_of_ble_eq_true rfl)) dX3_moveStep_189 ⟨Nat.le_of_ble_eq_true rfl, Nat.le_of_ble_eq_true rfl⟩) hS (fun q _ h => hFc q h) hFc (fun u t H locs ht hvm hw hB hz1 hk1 hS => ?_)
              obtain ⟨hP, hD, hK⟩ := JOIN (wr := ((oX9 (p1a 0) p1a p1k p1n p1w) ++ (oX6 (p0a 5) p0_4a p0_4k p0_4w p0_4l))) hP hD hK [0, 1, 2, 3, 4, 5, 6, 7, 8, 9, 10] [11, 12, 13, 14, 15, 16, 17, 18, 19, 20, 21, 22, 23, 24, 25, 26, 27] [10, 11, 12, 13, 14, 15, 16, 17, 18, 19, 20, 21, 22, 23, 24] rfl rfl (by decide) (by decide) rfl hk1 hFc ht hvm hB
              have hP : va_P (dC, dI) cls ((oX3 (p0a 0) p0a p0k p0n o_29) ++ (oX9 (p1a 0) p1a p1k p1n p1w) ++ (oX6 (p0a 5) p0_4a p0_4k p0_4w p0_4l)) H := hP.sub [17, 18, 19, 20, 21, 22, 23, 24, 25, 26, 27, 0, 1, 2, 3, 4, 5, 6, 7, 8, 9, 10, 11, 12, 13, 14, 15, 16] rfl
              have hD : va_D A ((oX3 (p0a 0) p0a p0k p0n o_29) ++ (oX9 (p1a 0) p1a p1k p1n p1w) ++ (oX6 (p0a 5) p0_4a p0_4k p0_4w p0_4l)) := hD.sub [17, 18, 19, 20, 21, 22, 23, 24, 25, 26, 27, 0, 1, 2, 3, 4, 5, 6, 7, 8, 9, 10, 11, 12, 13, 14, 15, 16] (by decide) rfl
              have hK : va_K (dC, dI) cls ((tX3 p0k) ++ (tX9 p1k) ++ (tX6 p0_4k)) s := hK.sub [15, 16, 17, 18, 19, 20, 21, 22, 23, 24, 0, 1, 2, 3, 4, 5, 6, 7, 8, 9, 10, 11, 12, 13, 14] rfl
              refine lv_goto (tgt := 239) hx hb dX3_moveStep_192 (by decide) ?_
              exact J239 o_29 _ _ _ hrun hP hD hS (lv_sub hl [] rfl)
            · refine lv_icmp_ne (tgt := 195) hx hb dX3_moveStep_175 (by decide) (fun _ => ?_) (fun c => absurd c hc27)
              refine lv_aload_n hx hb dX3_moveStep_195 rfl (lv_at hl 3 rfl) ?_
              refine va_get (D := (dC, dI)) (ci := 10) (v := .ref (p0a 16)) (C := RX3) (T := TX3) (N := 20) hx hb hts i_X3 hown hK hP 0 rfl rfl 15 (by decide) (hts _ qw725) (fun _ h9 => h9) rfl dX3_moveStep_196 ?_
              refine lv_iload hx hb dX3_moveStep_199 (lv_at hl 2 rfl) ?_
              refine lv_aload_n hx hb dX3_moveStep_201 rfl (lv_at hl 4 rfl) ?_
              refine va_get (D := (dC, dI)) (ci := 3) (v := .ref (p1a 3)) (C := RX9) (T := TX9) (N := 6) hx hb hts i_X9 hown hK hP 11 rfl rfl 2 (by decide) (hts _ qw758) (fun _ h9 => h9) rfl dX3_moveStep_202 ?_
              refine lv_iload_n hx hb dX3_moveStep_205 rfl (lv_at hl 6 rfl) ?_
              obtain ⟨hq30, hrun⟩ := chk9 hrun
              refine va_iald hx hb hK hP 13 11 rfl rfl (ixb_in hq30) dX3_moveStep_206 ?_
              refine lv_iadd hx hb dX3_moveStep_207 ?_
              refine lv_aload_n hx hb dX3_moveStep_208 rfl (lv_at hl 3 rfl) ?_
              refine lv_iload hx hb dX3_moveStep_209 (lv_at hl 1 rfl) ?_
              refine lv_aload_n hx hb dX3_moveStep_211 rfl (lv_at hl 3 rfl) ?_
              refine va_get (D := (dC, dI)) (ci := 10) (v := .ref (p0a 16)) (C := RX3) (T := TX3) (N := 20) hx hb hts i_X3 hown hK hP 0 rfl rfl 15 (by decide) (hts _ qw725) (fun _ h9 => h9) rfl dX3_moveStep_212 ?_
              refine lv_iload hx hb dX3_moveStep_215 (lv_at hl 2 rfl) ?_
              refine lv_iload hx hb dX3_moveStep_217 (lv_at hl 0 rfl) ?_
              refine lv_iadd hx hb dX3_moveStep_219 ?_
              obtain ⟨hq31, hrun⟩ := chk9 hrun
              refine va_iald hx hb hK hP 8 7 rfl rfl (ixb_in hq31) dX3_moveStep_220 ?_
              refine lv_aload_n hx hb dX3_moveStep_221 rfl (lv_at hl 3 rfl) ?_
              refine va_get (D := (dC, dI)) (ci := 10) (v := .ref (p0a 16)) (C := RX3) (T := TX3) (N := 20) hx hb hts i_X3 hown hK hP 0 rfl rfl 15 (by decide) (hts _ qw725) (fun _ h9 => h9) rfl dX3_moveStep_222 ?_
              refine lv_iload hx hb dX3_moveStep_225 (lv_at hl 2 rfl) ?_
              refine lv_aload_n hx hb dX3_moveStep_227 rfl (lv_at hl 4 rfl) ?_
              refine va_get (D := (dC, dI)) (ci := 3) (v := .ref (p1a 5)) (C := RX9) (T := TX9) (N := 6) hx hb hts i_X9 hown hK hP 11 rfl rfl 4 (by decide) (hts _ qw802) (fun _ h9 => h9) rfl dX3_moveStep_228 ?_
              refine lv_iload_n hx hb dX3_moveStep_231 rfl (lv_at hl 6 rfl) ?_
              obtain ⟨hq32, hrun⟩ := chk9 hrun
              refine va_iald hx hb hK hP 15 13 rfl rfl (ixb_in hq32) dX3_moveStep_232 ?_
              refine lv_iadd hx hb dX3_moveStep_233 ?_
              obtain ⟨hq33, hrun⟩ := chk9 hrun
              refine va_iald hx hb hK hP 8 7 rfl rfl (ixb_in hq33) dX3_moveStep_234 ?_
              obtain ⟨o_34, hc_34, hrun⟩ := bnd9 hrun
              have hPc := hP.sub (ws' := (oX3 (p0a 0) p0a p0k p0n p0w)) [0, 1, 2, 3, 4, 5, 6, 7, 8, 9, 10] rfl
              have hDc := hD.sub (ws' := (oX3 (p0a 0) p0a p0k p0n p0w)) [0, 1, 2, 3, 4, 5, 6, 7, 8, 9, 10] (by decide) rfl
              have hKc := hK.sub (tys' := (tX3 p0k)) [0, 1, 2, 3, 4, 5, 6, 7, 8, 9] rfl
              have hFc := va_free (wc := (oX3 (p0a 0) p0a p0k p0n p0w)) hD hS hA [0, 1, 2, 3, 4, 5, 6, 7, 8, 9, 10] rfl
              refine va_calli (va_runV (As := [.int (p1w 2 (nn p3)), .int (p0w 16 (nn ((p2 * 320) + (p1w 4 (nn p3))))), .int (p0w 16 (nn ((p2 * 320) + (p1w 5 (nn p3)))))]) (rest := [.int ((p2 * 320) + (p1w 3 (nn p3))), .ref (p0a 16)]) ⟨hx, hb, hml, hown, hts⟩ (kX3_operate l dC dI (p0a := (st0 (p0a 0) p0a)) (p0k := p0k) (p0n := p0n) (p0w := p0w) (p1 := (p1w 2 (nn p3))) (p2 := (p0w 16 (nn ((p2 * 320) + (p1w 4 (nn p3)))))) (p3 := (p0w 16 (nn ((p2 * 320) + (p1w 5 (nn p3)))))) (sz := _) (o := o_34) (hrun := hc_34)) (cwV 3 hts (gi_V qw797 qw798 qw799 qw722 (gi_z qw796)) rfl rfl rfl (by decide +kernel) ⟨Nat.le_of_ble_eq_true rfl, Nat.le_of_ble_eq_true rfl⟩) ⟨PRE.blind, va_recv hKc hPc (ci := 10) (q0 := 0) rfl rfl, PRE.of hE hS hFc hPc hKc hDc⟩ rfl rfl hl.1 rfl (lv_room (Nat.le_of_ble_eq_true rfl)) dX3_moveStep_235 ⟨Nat.le_of_ble_eq_true rfl, Nat.le_of_ble_eq_true rfl⟩) hS (fun q _ h => hFc q h) hFc (fun r35 u t H locs ht hvm hw hB hz1 hk1 hS => ?_)
              obtain ⟨hP, hD, hK⟩ := JOIN (wr := ((oX9 (p1a 0) p1a p1k p1n p1w) ++ (oX6 (p0a 5) p0_4a p0_4k p0_4w p0_4l))) hP hD hK [0, 1, 2, 3, 4, 5, 6, 7, 8, 9, 10] [11, 12, 13, 14, 15, 16, 17, 18, 19, 20, 21, 22, 23, 24, 25, 26, 27] [10, 11, 12, 13, 14, 15, 16, 17, 18, 19, 20, 21, 22, 23, 24] rfl rfl (by decide) (by decide) rfl hk1 hFc ht hvm hB
              have hP : va_P (dC, dI) cls ((oX3 (p0a 0) p0a p0k p0n (o_34.2)) ++ (oX9 (p1a 0) p1a p1k p1n p1w) ++ (oX6 (p0a 5) p0_4a p0_4k p0_4w p0_4l)) H := hP.sub [17, 18, 19, 20, 21, 22, 23, 24, 25, 26, 27, 0, 1, 2, 3, 4, 5, 6, 7, 8, 9, 10, 11, 12, 13, 14, 15, 16] rfl
              have hD : va_D A ((oX3 (p0a 0) p0a p0k p0n (o_34.2)) ++ (oX9 (p1a 0) p1a p1k p1n p1w) ++ (oX6 (p0a 5) p0_4a p0_4k p0_4w p0_4l)) := hD.sub [17, 18, 19, 20, 21, 22, 23, 24, 25, 26, 27, 0, 1, 2, 3, 4, 5, 6, 7, 8, 9, 10, 11, 12, 13, 14, 15, 16] (by decide) rfl
              have hK : va_K (dC, dI) cls ((tX3 p0k) ++ (tX9 p1k) ++ (tX6 p0_4k)) s := hK.sub [15, 16, 17, 18, 19, 20, 21, 22, 23, 24, 0, 1, 2, 3, 4, 5, 6, 7, 8, 9, 10, 11, 12, 13, 14] rfl
              obtain rfl : r35 = (o_34.1) := hw
              obtain ⟨hq36, hrun⟩ := chk9 hrun
              refine va_iast hx hb hK hP hD hS 8 7 rfl rfl (ixb_in hq36) dX3_moveStep_238 (fun H locs hP hD hS => ?_)
              have hP : va_P (dC, dI) cls ((oX3 (p0a 0) p0a p0k p0n (upw (o_34.2) 16 (nn ((p2 * 320) + (p1w 3 (nn p3)))) (o_34.1))) ++ (oX9 (p1a 0) p1a p1k p1n p1w) ++ (oX6 (p0a 5) p0_4a p0_4k p0_4w p0_4l)) H := hP
              have hD : va_D A ((oX3 (p0a 0) p0a p0k p0n (upw (o_34.2) 16 (nn ((p2 * 320) + (p1w 3 (nn p3)))) (o_34.1))) ++ (oX9 (p1a 0) p1a p1k p1n p1w) ++ (oX6 (p0a 5) p0_4a p0_4k p0_4w p0_4l)) := hD
              obtain ⟨w37, ew37, hrun⟩ := let9 hrun
              rw [← ew37] at hP hD
              exact J239 w37 _ _ _ hrun hP hD hS (lv_sub hl [] rfl)
def fX3_moveLine_J32 (p0w_32 : ST) : Option ST := some p0w_32
def fX3_moveLine (p0n : Nat → Nat) (p0w : ST) (p1n : Nat → Nat) (p1w : ST) (p2 : Int32) (p3 : Int32) (p0_4w : ST) : Option ST := (if ixb p3 (p1n 2) = true then (if (p1w 2 (nn p3)) = 20 then (if ixb p3 (p1n 4) = true then ((fX3_enter p0n p0w 2 (p1w 4 (nn p3)) p0_4w).bind fun (o_4 : ST) => (fX3_moveLine_J32 o_4)) else none) else ((fX3_moveStep p0n p0w p1n p1w p2 p3 p0_4w).bind fun (o_5 : ST) => (fX3_moveLine_J32 o_5))) else none)
set_option maxHeartbeats 16000000 in
set_option maxRecDepth 100000 in
theorem kX3_moveLine {zs : Nat × Nat} (l : Launch) (dC : Nat → ClassId) (dI : Nat → Nat → Nat) (p0a : Nat → Nat) (p0k : Nat → ClassId) (p0n : Nat → Nat) (p0w : ST) (p1a : Nat → Nat) (p1k : Nat → ClassId) (p1n : Nat → Nat) (p1w : ST) (p2 : Int32) (p3 : Int32) (p0_4a : Nat → Nat) (p0_4k : Nat → ClassId) (p0_4w : ST) (p0_4l : SL) (sz : Nat) (o : ST) (hrun : fX3_moveLine p0n p0w p1n p1w p2 p3 p0_4w = some o) : Met l yX3_moveLine (wz yX3_moveLine cX3_moveLine 4 (Option.none : Option Jvm.ClassFile.FieldType)) ({ frames := 4, cells := 0, slots := 0, locals := 97 } : Room) (va_Pc [.ref (p0a 0), .ref (p1a 0), .int p2, .int p3] (PRE zs dC dI ((oX3 (p0a 0) p0a p0k p0n p0w) ++ (oX9 (p1a 0) p1a p1k p1n p1w) ++ (oX6 (p0a 5) p0_4a p0_4k p0_4w p0_4l)) ((tX3 p0k) ++ (tX9 p1k) ++ (tX6 p0_4k)) sz)) (va_Qv (fun (_ : Unit) => True) (fun _ t => POST dC dI ((oX3 (p0a 0) p0a p0k p0n o) ++ (oX9 (p1a 0) p1a p1k p1n p1w) ++ (oX6 (p0a 5) p0_4a p0_4k p0_4w p0_4l)) ((tX3 p0k) ++ (tX9 p1k) ++ (tX6 p0_4k)) (va_A ((oX3 (p0a 0) p0a p0k p0n p0w) ++ (oX9 (p1a 0) p1a p1k p1n p1w) ++ (oX6 (p0a 5) p0_4a p0_4k p0_4w p0_4l)) sz) t) (va_A ((oX3 (p0a 0) p0a p0k p0n p0w) ++ (oX9 (p1a 0) p1a p1k p1n p1w) ++ (oX6 (p0a 5) p0_4a p0_4k p0_4w p0_4l)) sz)) 0 0 (va_A ((oX3 (p0a 0) p0a p0k p0n p0w) ++ (oX9 (p1a 0) p1a p1k p1n p1w) ++ (oX6 (p0a 5) p0_4a p0_4k p0_4w p0_4l)) sz) := by
  refine Met.ofW (cc := cX3_moveLine) (maxL := 4) (ret := (Option.none : Option Jvm.ClassFile.FieldType)) (by decide) rfl ?_
  intro p e s m args below meth c s₁ B hml hv
  obtain ⟨rfl, hsz, hP, hK, hD0, hE⟩ := hv
  have hx := B.exec
  have hb := B.bytes
  have hr := B.returns
  have hts0 := atoms_spec (ws := wz yX3_moveLine cX3_moveLine 4 (Option.none : Option Jvm.ClassFile.FieldType)) B.pre
  have hts : ∀ w ∈ gw, w.before _ s = true := fun w h => hts0 w (List.mem_cons_of_mem _ h)
  have hown : s.vm.findClass RX3 = some m.cls := findClass_of_methodNamed B.named
  have hlocks := B.notSynchronized
  subst hsz
  have hD := hD0.self (sz := s.heap.size)
  refine gQ9 ?_
  intro Q hQ
  generalize hAe : va_A ((oX3 (p0a 0) p0a p0k p0n p0w) ++ (oX9 (p1a 0) p1a p1k p1n p1w) ++ (oX6 (p0a 5) p0_4a p0_4k p0_4w p0_4l)) s.heap.size = A at hD hE hQ
  have hA : ∀ q : Nat, s.heap.size ≤ q → A q := fun q h => by rw [← hAe]; exact Or.inr h
  have hS : va_S A s.heap s.heap [] := va_S.rf
  have hP : va_P (dC, dI) cls ((oX3 (p0a 0) p0a p0k p0n p0w) ++ (oX9 (p1a 0) p1a p1k p1n p1w) ++ (oX6 (p0a 5) p0_4a p0_4k p0_4w p0_4l)) s.heap := hP
  have hl := lv_entry ([.ref (p0a 0), .ref (p1a 0), .int p2, .int p3]) (n := 4) (Nat.le_of_ble_eq_true rfl)
  rw [lg_entry_eq]
  generalize (lg_sl ([.ref (p0a 0), .ref (p1a 0), .int p2, .int p3]) ++ List.replicate (4 - (lg_sl ([.ref (p0a 0), .ref (p1a 0), .int p2, .int p3])).length) Slot.unset).toArray = ls at hl ⊢
  have hl : lv_has ls 4 [(0, .ref (p0a 0)), (1, .ref (p1a 0)), (2, .int p2), (3, .int p3)] := hl
  obtain ⟨H, hHe⟩ : ∃ H, H = s.heap := ⟨_, rfl⟩
  obtain ⟨locs, hle⟩ : ∃ locs : List Loc, locs = [] := ⟨_, rfl⟩
  rw [← hHe] at hP
  have hS : va_S A s.heap H locs := by rw [hHe, hle]; exact hS
  show W p l e ({ frames := 4, cells := 0, slots := 0, locals := 97 } : Room) s m ([.ref (p0a 0), .ref (p1a 0), .int p2, .int p3] : List Value).toArray below meth c s.heap [] 0 0 Q (F0 m 0 ls [])
  rw [← hle]
  refine wH9 hHe ?_
  unfold fX3_moveLine at hrun
  refine lv_aload_n hx hb dX3_moveLine_0 rfl (lv_at hl 1 rfl) ?_
  refine va_get (D := (dC, dI)) (ci := 3) (v := .ref (p1a 2)) (C := RX9) (T := TX9) (N := 6) hx hb hts i_X9 hown hK hP 11 rfl rfl 1 (by decide) (hts _ qw800) (fun _ h9 => h9) rfl dX3_moveLine_1 ?_
  refine lv_iload_n hx hb dX3_moveLine_4 rfl (lv_at hl 3 rfl) ?_
  obtain ⟨hq1, hrun⟩ := chk9 hrun
  refine va_iald hx hb hK hP 12 10 rfl rfl (ixb_in hq1) dX3_moveLine_5 ?_
  refine lv_bipush (v := 20) hx hb dX3_moveLine_6 (by decide) ?_
  have J32 : ∀ (p0w_32 : ST) (H : Heap) (locs : List Loc) (ls : Array Slot), (fX3_moveLine_J32 p0w_32) = some o → va_P (dC, dI) cls ((oX3 (p0a 0) p0a p0k p0n p0w_32) ++ (oX9 (p1a 0) p1a p1k p1n p1w) ++ (oX6 (p0a 5) p0_4a p0_4k p0_4w p0_4l)) H → va_D A ((oX3 (p0a 0) p0a p0k p0n p0w_32) ++ (oX9 (p1a 0) p1a p1k p1n p1w) ++ (oX6 (p0a 5) p0_4a p0_4k p0_4w p0_4l)) → va_S A s.heap H locs → lv_has ls 4 [] → W p l e ({ frames := 4, cells := 0, slots := 0, locals := 97 } : Room) s m ([.ref (p0a 0), .ref (p1a 0), .int p2, .int p3] : List Value).toArray below meth c H locs 0 0 Q (F0 m 32 ls []) := by
    intro p0w_32 H locs ls hrun hP hD hS hl
    unfold fX3_moveLine_J32 at hrun
    have ho9 : p0w_32 = o := Option.some.inj hrun
    have hP9 : va_P (dC, dI) cls ((oX3 (p0a 0) p0a p0k p0n o) ++ (oX9 (p1a 0) p1a p1k p1n p1w) ++ (oX6 (p0a 5) p0_4a p0_4k p0_4w p0_4l)) H := by first | exact hP | (rw [← ho9]; exact hP)
    have hD9 : va_D A ((oX3 (p0a 0) p0a p0k p0n o) ++ (oX9 (p1a 0) p1a p1k p1n p1w) ++ (oX6 (p0a 5) p0_4a p0_4k p0_4w p0_4l)) := by first | exact hD | (rw [← ho9]; exact hD)
    subst hQ
    exact W.vret hx hb hr (fun t ht hW => ⟨⟨(), rfl, trivial, ⟨by rw [ht]; exact hP9, va_K.moved hW.alike hK, hD9⟩⟩, hS.F ht⟩) hS.2.2 dX3_moveLine_32
  rcases br9 hrun with ⟨hc2, hrun⟩ | ⟨hc2, hrun⟩
  · refine lv_icmp_ne (tgt := 25) hx hb dX3_moveLine_8 (by decide) (fun c => absurd hc2 c) (fun _ => ?_)
    refine lv_aload_n hx hb dX3_moveLine_11 rfl (lv_at hl 0 rfl) ?_
    refine lv_iconst (v := 2) hx hb dX3_moveLine_12 (by decide) ?_
    refine lv_aload_n hx hb dX3_moveLine_13 rfl (lv_at hl 1 rfl) ?_
    refine va_get (D := (dC, dI)) (ci := 3) (v := .ref (p1a 4)) (C := RX9) (T := TX9) (N := 6) hx hb hts i_X9 hown hK hP 11 rfl rfl 3 (by decide) (hts _ qw801) (fun _ h9 => h9) rfl dX3_moveLine_14 ?_
    refine lv_iload_n hx hb dX3_moveLine_17 rfl (lv_at hl 3 rfl) ?_
    obtain ⟨hq3, hrun⟩ := chk9 hrun
    refine va_iald hx hb hK hP 14 12 rfl rfl (ixb_in hq3) dX3_moveLine_18 ?_
    obtain ⟨o_4, hc_4, hrun⟩ := bnd9 hrun
    have hPc := hP.sub (ws' := ((oX3 (p0a 0) p0a p0k p0n p0w) ++ (oX6 (p0a 5) p0_4a p0_4k p0_4w p0_4l))) [0, 1, 2, 3, 4, 5, 6, 7, 8, 9, 10, 17, 18, 19, 20, 21, 22, 23, 24, 25, 26, 27] rfl
    have hDc := hD.sub (ws' := ((oX3 (p0a 0) p0a p0k p0n p0w) ++ (oX6 (p0a 5) p0_4a p0_4k p0_4w p0_4l))) [0, 1, 2, 3, 4, 5, 6, 7, 8, 9, 10, 17, 18, 19, 20, 21, 22, 23, 24, 25, 26, 27] (by decide) rfl
    have hKc := hK.sub (tys' := ((tX3 p0k) ++ (tX6 p0_4k))) [0, 1, 2, 3, 4, 5, 6, 7, 8, 9, 15, 16, 17, 18, 19, 20, 21, 22, 23, 24] rfl
    have hFc := va_free (wc := ((oX3 (p0a 0) p0a p0k p0n p0w) ++ (oX6 (p0a 5) p0_4a p0_4k p0_4w p0_4l))) hD hS hA [0, 1, 2, 3, 4, 5, 6, 7, 8, 9, 10, 17, 18, 19, 20, 21, 22, 23, 24, 25, 26, 27] rfl
    refine va_callv (va_runV (As := [.int 2, .int (p1w 4 (nn p3))]) (rest := []) ⟨hx, hb, hml, hown, hts⟩ (kX3_enter l dC dI (p0a := (st0 (p0a 0) p0a)) (p0k := p0k) (p0n := p0n) (p0w := p0w) (p1 := 2) (p2 := (p1w 4 (nn p3))) (p0_4a := p0_4a) (p0_4k := p0_4k) (p0_4w := p0_4w) (p0_4l := p0_4l) (sz := _) (o := o_4) (hrun := hc_4)) (cwV 2 hts (gi_V qw785 qw786 qw787 qw722 (gi_z qw784)) rfl rfl rfl (by decide +kernel) ⟨Nat.le_of_ble_eq_true rfl, Nat.le_of_ble_eq_true rfl⟩) ⟨PRE.blind, va_recv hKc hPc (ci := 10) (q0 := 0) rfl rfl, PRE.of hE hS hFc hPc hKc hDc⟩ rfl rfl hl.1 rfl (lv_room (Nat.le_of_ble_eq_true rfl)) dX3_moveLine_19 ⟨Nat.le_of_ble_eq_true rfl, Nat.le_of_ble_eq_true rfl⟩) hS (fun q _ h => hFc q h) hFc (fun u t H locs ht hvm hw hB hz1 hk1 hS => ?_)
    obtain ⟨hP, hD, hK⟩ := JOIN (wr := (oX9 (p1a 0) p1a p1k p1n p1w)) hP hD hK [0, 1, 2, 3, 4, 5, 6, 7, 8, 9, 10, 17, 18, 19, 20, 21, 22, 23, 24, 25, 26, 27] [11, 12, 13, 14, 15, 16] [10, 11, 12, 13, 14] rfl rfl (by decide) (by decide) rfl hk1 hFc ht hvm hB
    have hP : va_P (dC, dI) cls ((oX3 (p0a 0) p0a p0k p0n o_4) ++ (oX9 (p1a 0) p1a p1k p1n p1w) ++ (oX6 (p0a 5) p0_4a p0_4k p0_4w p0_4l)) H := hP.sub [6, 7, 8, 9, 10, 11, 12, 13, 14, 15, 16, 0, 1, 2, 3, 4, 5, 17, 18, 19, 20, 21, 22, 23, 24, 25, 26, 27] rfl
    have hD : va_D A ((oX3 (p0a 0) p0a p0k p0n o_4) ++ (oX9 (p1a 0) p1a p1k p1n p1w) ++ (oX6 (p0a 5) p0_4a p0_4k p0_4w p0_4l)) := hD.sub [6, 7, 8, 9, 10, 11, 12, 13, 14, 15, 16, 0, 1, 2, 3, 4, 5, 17, 18, 19, 20, 21, 22, 23, 24, 25, 26, 27] (by decide) rfl
    have hK : va_K (dC, dI) cls ((tX3 p0k) ++ (tX9 p1k) ++ (tX6 p0_4k)) s := hK.sub [5, 6, 7, 8, 9, 10, 11, 12, 13, 14, 0, 1, 2, 3, 4, 15, 16, 17, 18, 19, 20, 21, 22, 23, 24] rfl
    refine lv_goto (tgt := 32) hx hb dX3_moveLine_22 (by decide) ?_
    exact J32 o_4 _ _ _ hrun hP hD hS (lv_sub hl [] rfl)
  · refine lv_icmp_ne (tgt := 25) hx hb dX3_moveLine_8 (by decide) (fun _ => ?_) (fun c => absurd c hc2)
    refine lv_aload_n hx hb dX3_moveLine_25 rfl (lv_at hl 0 rfl) ?_
    refine lv_aload_n hx hb dX3_moveLine_26 rfl (lv_at hl 1 rfl) ?_
    refine lv_iload_n hx hb dX3_moveLine_27 rfl (lv_at hl 2 rfl) ?_
    refine lv_iload_n hx hb dX3_moveLine_28 rfl (lv_at hl 3 rfl) ?_
    obtain ⟨o_5, hc_5, hrun⟩ := bnd9 hrun
    have hPc := hP.sub (ws' := ((oX3 (p0a 0) p0a p0k p0n p0w) ++ (oX9 (p1a 0) p1a p1k p1n p1w) ++ (oX6 (p0a 5) p0_4a p0_4k p0_4w p0_4l))) [0, 1, 2, 3, 4, 5, 6, 7, 8, 9, 10, 11, 12, 13, 14, 15, 16, 17, 18, 19, 20, 21, 22, 23, 24, 25, 26, 27] rfl
    have hDc := hD.sub (ws' := ((oX3 (p0a 0) p0a p0k p0n p0w) ++ (oX9 (p1a 0) p1a p1k p1n p1w) ++ (oX6 (p0a 5) p0_4a p0_4k p0_4w p0_4l))) [0, 1, 2, 3, 4, 5, 6, 7, 8, 9, 10, 11, 12, 13, 14, 15, 16, 17, 18, 19, 20, 21, 22, 23, 24, 25, 26, 27] (by decide) rfl
    have hKc := hK.sub (tys' := ((tX3 p0k) ++ (tX9 p1k) ++ (tX6 p0_4k))) [0, 1, 2, 3, 4, 5, 6, 7, 8, 9, 10, 11, 12, 13, 14, 15, 16, 17, 18, 19, 20, 21, 22, 23, 24] rfl
    have hFc := va_free (wc := ((oX3 (p0a 0) p0a p0k p0n p0w) ++ (oX9 (p1a 0) p1a p1k p1n p1w) ++ (oX6 (p0a 5) p0_4a p0_4k p0_4w p0_4l))) hD hS hA [0, 1, 2, 3, 4, 5, 6, 7, 8, 9, 10, 11, 12, 13, 14, 15, 16, 17, 18, 19, 20, 21, 22, 23, 24, 25, 26, 27] rfl
    refine va_callv (va_runV (As := [.ref (p1a 0), .int p2, .int p3]) (rest := []) ⟨hx, hb, hml, hown, hts⟩ (kX3_moveStep l dC dI (p0a := (st0 (p0a 0) p0a)) (p0k := p0k) (p0n := p0n) (p0w := p0w) (p1a := (st0 (p1a 0) p1a)) (p1k := p1k) (p1n := p1n) (p1w := p1w) (p2 := p2) (p3 := p3) (p0_4a := p0_4a) (p0_4k := p0_4k) (p0_4w := p0_4w) (p0_4l := p0_4l) (sz := _) (o := o_5) (hrun := hc_5)) (cwV 3 hts (gi_V qw804 qw805 qw806 qw722 (gi_z qw803)) rfl rfl rfl (by decide +kernel) ⟨Nat.le_of_ble_eq_true rfl, Nat.le_of_ble_eq_true rfl⟩) ⟨PRE.blind, va_recv hKc hPc (ci := 10) (q0 := 0) rfl rfl, PRE.of hE hS hFc hPc hKc hDc⟩ rfl rfl hl.1 rfl (lv_room (Nat.le_of_ble_eq_true rfl)) dX3_moveLine_29 ⟨Nat.le_of_ble_eq_true rfl, Nat.le_of_ble_eq_true rfl⟩) hS (fun q _ h => hFc q h) hFc (fun u t H locs ht hvm hw hB hz1 hk1 hS => ?_)
    obtain ⟨hP, hD, hK⟩ := JOIN (wr := ([] : va_W)) hP hD hK [0, 1, 2, 3, 4, 5, 6, 7, 8, 9, 10, 11, 12, 13, 14, 15, 16, 17, 18, 19, 20, 21, 22, 23, 24, 25, 26, 27] [] [] rfl rfl (by decide) (by decide) rfl hk1 hFc ht hvm hB
    have hP : va_P (dC, dI) cls ((oX3 (p0a 0) p0a p0k p0n o_5) ++ (oX9 (p1a 0) p1a p1k p1n p1w) ++ (oX6 (p0a 5) p0_4a p0_4k p0_4w p0_4l)) H := hP.sub [0, 1, 2, 3, 4, 5, 6, 7, 8, 9, 10, 11, 12, 13, 14, 15, 16, 17, 18, 19, 20, 21, 22, 23, 24, 25, 26, 27] rfl
    have hD : va_D A ((oX3 (p0a 0) p0a p0k p0n o_5) ++ (oX9 (p1a 0) p1a p1k p1n p1w) ++ (oX6 (p0a 5) p0_4a p0_4k p0_4w p0_4l)) := hD.sub [0, 1, 2, 3, 4, 5, 6, 7, 8, 9, 10, 11, 12, 13, 14, 15, 16, 17, 18, 19, 20, 21, 22, 23, 24, 25, 26, 27] (by decide) rfl
    have hK : va_K (dC, dI) cls ((tX3 p0k) ++ (tX9 p1k) ++ (tX6 p0_4k)) s := hK.sub [0, 1, 2, 3, 4, 5, 6, 7, 8, 9, 10, 11, 12, 13, 14, 15, 16, 17, 18, 19, 20, 21, 22, 23, 24] rfl
    exact J32 o_5 _ _ _ hrun hP hD hS (lv_sub hl [] rfl)
def fX3_save (p0w : ST) (p1n : Nat) (p1f : RI) : Option RI := (if ixb 0 p1n = true then (lt9 (upd p1f (nn 0) (p0w 0 0)) fun (f2 : RI) => (if ixb 1 p1n = true then (lt9 (upd f2 (nn 1) (p0w 0 1)) fun (f4 : RI) => (if ixb 2 p1n = true then (lt9 (upd f4 (nn 2) (p0w 0 2)) fun (f6 : RI) => (if cpk 0 3 16 16 p1n = true then (lt9 (va_cpy (p0w 4) f6 (nn 0) (nn 3) (nn 16)) fun (f8 : RI) => some f8) else none)) else none)) else none)) else none)
set_option maxHeartbeats 16000000 in
set_option maxRecDepth 100000 in
theorem kX3_save {zs : Nat × Nat} (l : Launch) (dC : Nat → ClassId) (dI : Nat → Nat → Nat) (p0a : Nat → Nat) (p0k : Nat → ClassId) (p0n : Nat → Nat) (p0w : ST) (p1a : Nat) (p1k : ClassId) (p1n : Nat) (p1f : RI) (sz : Nat) (o : RI) (hrun : fX3_save p0w p1n p1f = some o) : Met l yX3_save (wz yX3_save cX3_save 2 (Option.none : Option Jvm.ClassFile.FieldType)) ({ frames := 1, cells := 0, slots := 0, locals := 40 } : Room) (va_Pc [.ref (p0a 0), .ref p1a] (PRE zs dC dI ((oX3 (p0a 0) p0a p0k p0n p0w) ++ [(p1a, .inl (p1k, p1n, .inl p1f))]) ((tX3 p0k) ++ [(p1k, .int)]) sz)) (va_Qv (fun (_ : Unit) => True) (fun _ t => POST dC dI ((oX3 (p0a 0) p0a p0k p0n p0w) ++ [(p1a, .inl (p1k, p1n, .inl o))]) ((tX3 p0k) ++ [(p1k, .int)]) (va_A ((oX3 (p0a 0) p0a p0k p0n p0w) ++ [(p1a, .inl (p1k, p1n, .inl p1f))]) sz) t) (va_A ((oX3 (p0a 0) p0a p0k p0n p0w) ++ [(p1a, .inl (p1k, p1n, .inl p1f))]) sz)) 0 0 (va_A ((oX3 (p0a 0) p0a p0k p0n p0w) ++ [(p1a, .inl (p1k, p1n, .inl p1f))]) sz) := by
  refine Met.ofW (cc := cX3_save) (maxL := 2) (ret := (Option.none : Option Jvm.ClassFile.FieldType)) (by decide) rfl ?_
  intro p e s m args below meth c s₁ B hml hv
  obtain ⟨rfl, hsz, hP, hK, hD0, hE⟩ := hv
  have hx := B.exec
  have hb := B.bytes
  have hr := B.returns
  have hts0 := atoms_spec (ws := wz yX3_save cX3_save 2 (Option.none : Option Jvm.ClassFile.FieldType)) B.pre
  have hts : ∀ w ∈ gw, w.before _ s = true := fun w h => hts0 w (List.mem_cons_of_mem _ h)
  have hown : s.vm.findClass RX3 = some m.cls := findClass_of_methodNamed B.named
  have hlocks := B.notSynchronized
  subst hsz
  have hD := hD0.self (sz := s.heap.size)
  refine gQ9 ?_
  intro Q hQ
  generalize hAe : va_A ((oX3 (p0a 0) p0a p0k p0n p0w) ++ [(p1a, .inl (p1k, p1n, .inl p1f))]) s.heap.size = A at hD hE hQ
  have hA : ∀ q : Nat, s.heap.size ≤ q → A q := fun q h => by rw [← hAe]; exact Or.inr h
  have hS : va_S A s.heap s.heap [] := va_S.rf
  have hP : va_P (dC, dI) cls ((oX3 (p0a 0) p0a p0k p0n p0w) ++ [(p1a, .inl (p1k, p1n, .inl p1f))]) s.heap := hP
  have hl := lv_entry ([.ref (p0a 0), .ref p1a]) (n := 2) (Nat.le_of_ble_eq_true rfl)
  rw [lg_entry_eq]
  generalize (lg_sl ([.ref (p0a 0), .ref p1a]) ++ List.replicate (2 - (lg_sl ([.ref (p0a 0), .ref p1a])).length) Slot.unset).toArray = ls at hl ⊢
  have hl : lv_has ls 2 [(0, .ref (p0a 0)), (1, .ref p1a)] := hl
  obtain ⟨H, hHe⟩ : ∃ H, H = s.heap := ⟨_, rfl⟩
  obtain ⟨locs, hle⟩ : ∃ locs : List Loc, locs = [] := ⟨_, rfl⟩
  rw [← hHe] at hP
  have hS : va_S A s.heap H locs := by rw [hHe, hle]; exact hS
  show W p l e ({ frames := 1, cells := 0, slots := 0, locals := 40 } : Room) s m ([.ref (p0a 0), .ref p1a] : List Value).toArray below meth c s.heap [] 0 0 Q (F0 m 0 ls [])
  rw [← hle]
  refine wH9 hHe ?_
  unfold fX3_save at hrun
  refine lv_aload_n hx hb dX3_save_0 rfl (lv_at hl 1 rfl) ?_
  refine lv_iconst (v := 0) hx hb dX3_save_1 (by decide) ?_
  refine lv_aload_n hx hb dX3_save_2 rfl (lv_at hl 0 rfl) ?_
  refine va_get (D := (dC, dI)) (ci := 10) (v := .int (p0w 0 0)) (C := RX3) (T := TX3) (N := 20) hx hb hts i_X3 hown hK hP 0 rfl rfl 0 (by decide) (hts _ qw711) (fun _ h9 => h9) rfl dX3_save_3 ?_
  obtain ⟨hq1, hrun⟩ := chk9 hrun
  refine va_iast hx hb hK hP hD hS 11 10 rfl rfl (ixb_in hq1) dX3_save_6 (fun H locs hP hD hS => ?_)
  have hP : va_P (dC, dI) cls ((oX3 (p0a 0) p0a p0k p0n p0w) ++ [(p1a, .inl (p1k, p1n, .inl (upd p1f (nn 0) (p0w 0 0))))]) H := hP
  have hD : va_D A ((oX3 (p0a 0) p0a p0k p0n p0w) ++ [(p1a, .inl (p1k, p1n, .inl (upd p1f (nn 0) (p0w 0 0))))]) := hD
  obtain ⟨f2, ef2, hrun⟩ := let9 hrun
  rw [← ef2] at hP hD
  refine lv_aload_n hx hb dX3_save_7 rfl (lv_at hl 1 rfl) ?_
  refine lv_iconst (v := 1) hx hb dX3_save_8 (by decide) ?_
  refine lv_aload_n hx hb dX3_save_9 rfl (lv_at hl 0 rfl) ?_
  refine va_get (D := (dC, dI)) (ci := 10) (v := .int (p0w 0 1)) (C := RX3) (T := TX3) (N := 20) hx hb hts i_X3 hown hK hP 0 rfl rfl 1 (by decide) (hts _ qw712) (fun _ h9 => h9) rfl dX3_save_10 ?_
  obtain ⟨hq3, hrun⟩ := chk9 hrun
  refine va_iast hx hb hK hP hD hS 11 10 rfl rfl (ixb_in hq3) dX3_save_13 (fun H locs hP hD hS => ?_)
  have hP : va_P (dC, dI) cls ((oX3 (p0a 0) p0a p0k p0n p0w) ++ [(p1a, .inl (p1k, p1n, .inl (upd f2 (nn 1) (p0w 0 1))))]) H := hP
  have hD : va_D A ((oX3 (p0a 0) p0a p0k p0n p0w) ++ [(p1a, .inl (p1k, p1n, .inl (upd f2 (nn 1) (p0w 0 1))))]) := hD
  obtain ⟨f4, ef4, hrun⟩ := let9 hrun
  rw [← ef4] at hP hD
  refine lv_aload_n hx hb dX3_save_14 rfl (lv_at hl 1 rfl) ?_
  refine lv_iconst (v := 2) hx hb dX3_save_15 (by decide) ?_
  refine lv_aload_n hx hb dX3_save_16 rfl (lv_at hl 0 rfl) ?_
  refine va_get (D := (dC, dI)) (ci := 10) (v := .int (p0w 0 2)) (C := RX3) (T := TX3) (N := 20) hx hb hts i_X3 hown hK hP 0 rfl rfl 2 (by decide) (hts _ qw713) (fun _ h9 => h9) rfl dX3_save_17 ?_
  obtain ⟨hq5, hrun⟩ := chk9 hrun
  refine va_iast hx hb hK hP hD hS 11 10 rfl rfl (ixb_in hq5) dX3_save_20 (fun H locs hP hD hS => ?_)
  have hP : va_P (dC, dI) cls ((oX3 (p0a 0) p0a p0k p0n p0w) ++ [(p1a, .inl (p1k, p1n, .inl (upd f4 (nn 2) (p0w 0 2))))]) H := hP
  have hD : va_D A ((oX3 (p0a 0) p0a p0k p0n p0w) ++ [(p1a, .inl (p1k, p1n, .inl (upd f4 (nn 2) (p0w 0 2))))]) := hD
  obtain ⟨f6, ef6, hrun⟩ := let9 hrun
  rw [← ef6] at hP hD
  refine lv_aload_n hx hb dX3_save_21 rfl (lv_at hl 0 rfl) ?_
  refine va_get (D := (dC, dI)) (ci := 10) (v := .ref (p0a 4)) (C := RX3) (T := TX3) (N := 20) hx hb hts i_X3 hown hK hP 0 rfl rfl 3 (by decide) (hts _ qw714) (fun _ h9 => h9) rfl dX3_save_22 ?_
  refine lv_iconst (v := 0) hx hb dX3_save_25 (by decide) ?_
  refine lv_aload_n hx hb dX3_save_26 rfl (lv_at hl 1 rfl) ?_
  refine lv_iconst (v := 3) hx hb dX3_save_27 (by decide) ?_
  refine lv_bipush (v := 16) hx hb dX3_save_28 (by decide) ?_
  obtain ⟨hq7, hrun⟩ := chk9 hrun
  refine va_copyi (ty := .int) (sp := 0) (dp := 3) (n := 16) hx hb (hml.trans hl.1.symm) hown (hts _ qw715) (hts _ qw194) (hts _ qw195) (hts _ qw196) hK hP hD hS 1 11 0 10 rfl rfl rfl rfl rfl (cpk_1 hq7) (cpk_2 hq7) (cpk_3 hq7) (cpk_4 hq7) (cpk_5 hq7) (fun _ _ => rfl) (Nat.le_of_ble_eq_true rfl) (Nat.le_of_ble_eq_true rfl) dX3_save_30 (fun H locs hP hD hS => ?_)
  have hP : va_P (dC, dI) cls ((oX3 (p0a 0) p0a p0k p0n p0w) ++ [(p1a, .inl (p1k, p1n, .inl (va_cpy (p0w 4) f6 (nn 0) (nn 3) (nn 16))))]) H := hP
  have hD : va_D A ((oX3 (p0a 0) p0a p0k p0n p0w) ++ [(p1a, .inl (p1k, p1n, .inl (va_cpy (p0w 4) f6 (nn 0) (nn 3) (nn 16))))]) := hD
  obtain ⟨f8, ef8, hrun⟩ := let9 hrun
  rw [← ef8] at hP hD
  have ho9 : f8 = o := Option.some.inj hrun
  have hP9 : va_P (dC, dI) cls ((oX3 (p0a 0) p0a p0k p0n p0w) ++ [(p1a, .inl (p1k, p1n, .inl o))]) H := by first | exact hP | (rw [← ho9]; exact hP)
  have hD9 : va_D A ((oX3 (p0a 0) p0a p0k p0n p0w) ++ [(p1a, .inl (p1k, p1n, .inl o))]) := by first | exact hD | (rw [← ho9]; exact hD)
  subst hQ
  exact W.vret hx hb hr (fun t ht hW => ⟨⟨(), rfl, trivial, ⟨by rw [ht]; exact hP9, va_K.moved hW.alike hK, hD9⟩⟩, hS.F ht⟩) hS.2.2 dX3_save_33
def fX3_tell (p0w : ST) (p1 : Int32) (p2 : Int32) (p3 : Int32) (p4 : Int32) : Option ST := (lt9 (upw p0w 8 (nn 0) p1) fun (w1 : ST) => (lt9 (upw w1 8 (nn 1) p2) fun (w2 : ST) => (lt9 (upw w2 8 (nn 2) p3) fun (w3 : ST) => (lt9 (upw w3 8 (nn 3) p4) fun (w4 : ST) => some w4))))
set_option maxHeartbeats 16000000 in
set_option maxRecDepth 100000 in
theorem kX3_tell {zs : Nat × Nat} (l : Launch) (dC : Nat → ClassId) (dI : Nat → Nat → Nat) (p0a : Nat → Nat) (p0k : Nat → ClassId) (p0n : Nat → Nat) (p0w : ST) (p1 : Int32) (p2 : Int32) (p3 : Int32) (p4 : Int32) (sz : Nat) (o : ST) (hrun : fX3_tell p0w p1 p2 p3 p4 = some o) : Met l yX3_tell (wz yX3_tell cX3_tell 5 (Option.none : Option Jvm.ClassFile.FieldType)) ({ frames := 0, cells := 0, slots := 0, locals := 0 } : Room) (va_Pc [.ref (p0a 0), .int p1, .int p2, .int p3, .int p4] (PRE zs dC dI (oX3 (p0a 0) p0a p0k p0n p0w) (tX3 p0k) sz)) (va_Qv (fun (_ : Unit) => True) (fun _ t => POST dC dI (oX3 (p0a 0) p0a p0k p0n o) (tX3 p0k) (va_A (oX3 (p0a 0) p0a p0k p0n p0w) sz) t) (va_A (oX3 (p0a 0) p0a p0k p0n p0w) sz)) 0 0 (va_A (oX3 (p0a 0) p0a p0k p0n p0w) sz) := by
  refine Met.ofW (cc := cX3_tell) (maxL := 5) (ret := (Option.none : Option Jvm.ClassFile.FieldType)) (by decide) rfl ?_
  intro p e s m args below meth c s₁ B hml hv
  obtain ⟨rfl, hsz, hP, hK, hD0, hE⟩ := hv
  have hx := B.exec
  have hb := B.bytes
  have hr := B.returns
  have hts0 := atoms_spec (ws := wz yX3_tell cX3_tell 5 (Option.none : Option Jvm.ClassFile.FieldType)) B.pre
  have hts : ∀ w ∈ gw, w.before _ s = true := fun w h => hts0 w (List.mem_cons_of_mem _ h)
  have hown : s.vm.findClass RX3 = some m.cls := findClass_of_methodNamed B.named
  have hlocks := B.notSynchronized
  subst hsz
  have hD := hD0.self (sz := s.heap.size)
  refine gQ9 ?_
  intro Q hQ
  generalize hAe : va_A (oX3 (p0a 0) p0a p0k p0n p0w) s.heap.size = A at hD hE hQ
  have hA : ∀ q : Nat, s.heap.size ≤ q → A q := fun q h => by rw [← hAe]; exact Or.inr h
  have hS : va_S A s.heap s.heap [] := va_S.rf
  have hP : va_P (dC, dI) cls (oX3 (p0a 0) p0a p0k p0n p0w) s.heap := hP
  have hl := lv_entry ([.ref (p0a 0), .int p1, .int p2, .int p3, .int p4]) (n := 5) (Nat.le_of_ble_eq_true rfl)
  rw [lg_entry_eq]
  generalize (lg_sl ([.ref (p0a 0), .int p1, .int p2, .int p3, .int p4]) ++ List.replicate (5 - (lg_sl ([.ref (p0a 0), .int p1, .int p2, .int p3, .int p4])).length) Slot.unset).toArray = ls at hl ⊢
  have hl : lv_has ls 5 [(0, .ref (p0a 0)), (1, .int p1), (2, .int p2), (3, .int p3), (4, .int p4)] := hl
  obtain ⟨H, hHe⟩ : ∃ H, H = s.heap := ⟨_, rfl⟩
  obtain ⟨locs, hle⟩ : ∃ locs : List Loc, locs = [] := ⟨_, rfl⟩
  rw [← hHe] at hP
  have hS : va_S A s.heap H locs := by rw [hHe, hle]; exact hS
  show W p l e ({ frames := 0, cells := 0, slots := 0, locals := 0 } : Room) s m ([.ref (p0a 0), .int p1, .int p2, .int p3, .int p4] : List Value).toArray below meth c s.heap [] 0 0 Q (F0 m 0 ls [])
  rw [← hle]
  refine wH9 hHe ?_
  unfold fX3_tell at hrun
  refine lv_aload_n hx hb dX3_tell_0 rfl (lv_at hl 0 rfl) ?_
  refine va_get (D := (dC, dI)) (ci := 10) (v := .ref (p0a 8)) (C := RX3) (T := TX3) (N := 20) hx hb hts i_X3 hown hK hP 0 rfl rfl 7 (by decide) (hts _ qw807) (fun _ h9 => h9) rfl dX3_tell_1 ?_
  refine lv_iconst (v := 0) hx hb dX3_tell_4 (by decide) ?_
  refine lv_iload_n hx hb dX3_tell_5 rfl (lv_at hl 1 rfl) ?_
  refine va_iast hx hb hK hP hD hS 2 1 rfl rfl (by unfold vp_in; decide +kernel) dX3_tell_6 (fun H locs hP hD hS => ?_)
  have hP : va_P (dC, dI) cls (oX3 (p0a 0) p0a p0k p0n (upw p0w 8 (nn 0) p1)) H := hP
  have hD : va_D A (oX3 (p0a 0) p0a p0k p0n (upw p0w 8 (nn 0) p1)) := hD
  obtain ⟨w1, ew1, hrun⟩ := let9 hrun
  rw [← ew1] at hP hD
  refine lv_aload_n hx hb dX3_tell_7 rfl (lv_at hl 0 rfl) ?_
  refine va_get (D := (dC, dI)) (ci := 10) (v := .ref (p0a 8)) (C := RX3) (T := TX3) (N := 20) hx hb hts i_X3 hown hK hP 0 rfl rfl 7 (by decide) (hts _ qw807) (fun _ h9 => h9) rfl dX3_tell_8 ?_
  refine lv_iconst (v := 1) hx hb dX3_tell_11 (by decide) ?_
  refine lv_iload_n hx hb dX3_tell_12 rfl (lv_at hl 2 rfl) ?_
  refine va_iast hx hb hK hP hD hS 2 1 rfl rfl (by unfold vp_in; decide +kernel) dX3_tell_13 (fun H locs hP hD hS => ?_)
  have hP : va_P (dC, dI) cls (oX3 (p0a 0) p0a p0k p0n (upw w1 8 (nn 1) p2)) H := hP
  have hD : va_D A (oX3 (p0a 0) p0a p0k p0n (upw w1 8 (nn 1) p2)) := hD
  obtain ⟨w2, ew2, hrun⟩ := let9 hrun
  rw [← ew2] at hP hD
  refine lv_aload_n hx hb dX3_tell_14 rfl (lv_at hl 0 rfl) ?_
  refine va_get (D := (dC, dI)) (ci := 10) (v := .ref (p0a 8)) (C := RX3) (T := TX3) (N := 20) hx hb hts i_X3 hown hK hP 0 rfl rfl 7 (by decide) (hts _ qw807) (fun _ h9 => h9) rfl dX3_tell_15 ?_
  refine lv_iconst (v := 2) hx hb dX3_tell_18 (by decide) ?_
  refine lv_iload_n hx hb dX3_tell_19 rfl (lv_at hl 3 rfl) ?_
  refine va_iast hx hb hK hP hD hS 2 1 rfl rfl (by unfold vp_in; decide +kernel) dX3_tell_20 (fun H locs hP hD hS => ?_)
  have hP : va_P (dC, dI) cls (oX3 (p0a 0) p0a p0k p0n (upw w2 8 (nn 2) p3)) H := hP
  have hD : va_D A (oX3 (p0a 0) p0a p0k p0n (upw w2 8 (nn 2) p3)) := hD
  obtain ⟨w3, ew3, hrun⟩ := let9 hrun
  rw [← ew3] at hP hD
  refine lv_aload_n hx hb dX3_tell_21 rfl (lv_at hl 0 rfl) ?_
  refine va_get (D := (dC, dI)) (ci := 10) (v := .ref (p0a 8)) (C := RX3) (T := TX3) (N := 20) hx hb hts i_X3 hown hK hP 0 rfl rfl 7 (by decide) (hts _ qw807) (fun _ h9 => h9) rfl dX3_tell_22 ?_
  refine lv_iconst (v := 3) hx hb dX3_tell_25 (by decide) ?_
  refine lv_iload hx hb dX3_tell_26 (lv_at hl 4 rfl) ?_
  refine va_iast hx hb hK hP hD hS 2 1 rfl rfl (by unfold vp_in; decide +kernel) dX3_tell_28 (fun H locs hP hD hS => ?_)
  have hP : va_P (dC, dI) cls (oX3 (p0a 0) p0a p0k p0n (upw w3 8 (nn 3) p4)) H := hP
  have hD : va_D A (oX3 (p0a 0) p0a p0k p0n (upw w3 8 (nn 3) p4)) := hD
  obtain ⟨w4, ew4, hrun⟩ := let9 hrun
  rw [← ew4] at hP hD
  have ho9 : w4 = o := Option.some.inj hrun
  have hP9 : va_P (dC, dI) cls (oX3 (p0a 0) p0a p0k p0n o) H := by first | exact hP | (rw [← ho9]; exact hP)
  have hD9 : va_D A (oX3 (p0a 0) p0a p0k p0n o) := by first | exact hD | (rw [← ho9]; exact hD)
  subst hQ
  exact W.vret hx hb hr (fun t ht hW => ⟨⟨(), rfl, trivial, ⟨by rw [ht]; exact hP9, va_K.moved hW.alike hK, hD9⟩⟩, hS.F ht⟩) hS.2.2 dX3_tell_29
def fX11_needFunction_J15  : Option Unit := none
def fX11_needFunction (p1 : Int32) (p0_8w : ST) : Option Unit := (if p1 < 0 then (fX11_needFunction_J15) else (if p1 < (p0_8w 0 0) then some () else (fX11_needFunction_J15)))
set_option maxHeartbeats 16000000 in
set_option maxRecDepth 100000 in
theorem kX11_needFunction {zs : Nat × Nat} (l : Launch) (dC : Nat → ClassId) (dI : Nat → Nat → Nat) (p0a : Nat → Nat) (p0w : ST) (p1 : Int32) (p0_8a : Nat → Nat) (p0_8k : Nat → ClassId) (p0_8w : ST) (p0_8l : SL) (sz : Nat) (o : Unit) (hrun : fX11_needFunction p1 p0_8w = some o) : Met l yX11_needFunction (wz yX11_needFunction cX11_needFunction 2 (Option.none : Option Jvm.ClassFile.FieldType)) ({ frames := 0, cells := 0, slots := 0, locals := 0 } : Room) (va_Pc [.ref (p0a 0), .int p1] (PRE zs dC dI ((oX11 (p0a 0) p0a p0w) ++ (oX6 (p0a 9) p0_8a p0_8k p0_8w p0_8l)) (tX6 p0_8k) sz)) (va_Qv (fun (_ : Unit) => True) (fun _ t => POST dC dI ((oX11 (p0a 0) p0a p0w) ++ (oX6 (p0a 9) p0_8a p0_8k p0_8w p0_8l)) (tX6 p0_8k) (va_A ((oX11 (p0a 0) p0a p0w) ++ (oX6 (p0a 9) p0_8a p0_8k p0_8w p0_8l)) sz) t) (va_A ((oX11 (p0a 0) p0a p0w) ++ (oX6 (p0a 9) p0_8a p0_8k p0_8w p0_8l)) sz)) 0 0 (va_A ((oX11 (p0a 0) p0a p0w) ++ (oX6 (p0a 9) p0_8a p0_8k p0_8w p0_8l)) sz) := by
  refine Met.ofW (cc := cX11_needFunction) (maxL := 2) (ret := (Option.none : Option Jvm.ClassFile.FieldType)) (by decide) rfl ?_
  intro p e s m args below meth c s₁ B hml hv
  obtain ⟨rfl, hsz, hP, hK, hD0, hE⟩ := hv
  have hx := B.exec
  have hb := B.bytes
  have hr := B.returns
  have hts0 := atoms_spec (ws := wz yX11_needFunction cX11_needFunction 2 (Option.none : Option Jvm.ClassFile.FieldType)) B.pre
  have hts : ∀ w ∈ gw, w.before _ s = true := fun w h => hts0 w (List.mem_cons_of_mem _ h)
  have hown : s.vm.findClass RX11 = some m.cls := findClass_of_methodNamed B.named
  have hlocks := B.notSynchronized
  subst hsz
  have hD := hD0.self (sz := s.heap.size)
  refine gQ9 ?_
  intro Q hQ
  generalize hAe : va_A ((oX11 (p0a 0) p0a p0w) ++ (oX6 (p0a 9) p0_8a p0_8k p0_8w p0_8l)) s.heap.size = A at hD hE hQ
  have hA : ∀ q : Nat, s.heap.size ≤ q → A q := fun q h => by rw [← hAe]; exact Or.inr h
  have hS : va_S A s.heap s.heap [] := va_S.rf
  have hP : va_P (dC, dI) cls ((oX11 (p0a 0) p0a p0w) ++ (oX6 (p0a 9) p0_8a p0_8k p0_8w p0_8l)) s.heap := hP
  have hl := lv_entry ([.ref (p0a 0), .int p1]) (n := 2) (Nat.le_of_ble_eq_true rfl)
  rw [lg_entry_eq]
  generalize (lg_sl ([.ref (p0a 0), .int p1]) ++ List.replicate (2 - (lg_sl ([.ref (p0a 0), .int p1])).length) Slot.unset).toArray = ls at hl ⊢
  have hl : lv_has ls 2 [(0, .ref (p0a 0)), (1, .int p1)] := hl
  obtain ⟨H, hHe⟩ : ∃ H, H = s.heap := ⟨_, rfl⟩
  obtain ⟨locs, hle⟩ : ∃ locs : List Loc, locs = [] := ⟨_, rfl⟩
  rw [← hHe] at hP
  have hS : va_S A s.heap H locs := by rw [hHe, hle]; exact hS
  show W p l e ({ frames := 0, cells := 0, slots := 0, locals := 0 } : Room) s m ([.ref (p0a 0), .int p1] : List Value).toArray below meth c s.heap [] 0 0 Q (F0 m 0 ls [])
  rw [← hle]
  refine wH9 hHe ?_
  unfold fX11_needFunction at hrun
  refine lv_iload_n hx hb dX11_needFunction_0 rfl (lv_at hl 1 rfl) ?_
  have J15 : ∀ (H : Heap) (locs : List Loc) (ls : Array Slot), (fX11_needFunction_J15) = some o → va_P (dC, dI) cls ((oX11 (p0a 0) p0a p0w) ++ (oX6 (p0a 9) p0_8a p0_8k p0_8w p0_8l)) H → va_D A ((oX11 (p0a 0) p0a p0w) ++ (oX6 (p0a 9) p0_8a p0_8k p0_8w p0_8l)) → va_S A s.heap H locs → lv_has ls 2 [] → W p l e ({ frames := 0, cells := 0, slots := 0, locals := 0 } : Room) s m ([.ref (p0a 0), .int p1] : List Value).toArray below meth c H locs 0 0 Q (F0 m 15 ls []) := by
    intro  H locs ls hrun hP hD hS hl
    unfold fX11_needFunction_J15 at hrun
    cases hrun
  rcases br9 hrun with ⟨hc1, hrun⟩ | ⟨hc1, hrun⟩
  · refine lv_if_lt (tgt := 15) hx hb dX11_needFunction_1 (by decide) (fun _ => ?_) (fun c => absurd hc1 c)
    exact J15 _ _ _ hrun hP hD hS (lv_sub hl [] rfl)
  · refine lv_if_lt (tgt := 15) hx hb dX11_needFunction_1 (by decide) (fun c => absurd c hc1) (fun _ => ?_)
    refine lv_iload_n hx hb dX11_needFunction_4 rfl (lv_at hl 1 rfl) ?_
    refine lv_aload_n hx hb dX11_needFunction_5 rfl (lv_at hl 0 rfl) ?_
    refine va_get (D := (dC, dI)) (ci := 11) (v := .ref (p0a 9)) (C := RX11) (T := TX11) (N := 11) hx hb hts i_X11 hown hK hP 0 rfl rfl 8 (by decide) (hts _ qw808) (fun _ h9 => h9) rfl dX11_needFunction_6 ?_
    refine va_get (D := (dC, dI)) (ci := 2) (v := .int (p0_8w 0 0)) (C := RX6) (T := TX6) (N := 13) hx hb hts i_X6 hown hK hP 1 rfl rfl 0 (by decide) (hts _ qw809) (fun _ h9 => h9) rfl dX11_needFunction_9 ?_
    rcases br9 hrun with ⟨hc2, hrun⟩ | ⟨hc2, hrun⟩
    · refine lv_icmp_lt (tgt := 26) hx hb dX11_needFunction_12 (by decide) (fun _ => ?_) (fun c => absurd hc2 c)
      have ho9 : () = o := Option.some.inj hrun
      have hP9 : va_P (dC, dI) cls ((oX11 (p0a 0) p0a p0w) ++ (oX6 (p0a 9) p0_8a p0_8k p0_8w p0_8l)) H := by first | exact hP | (rw [← ho9]; exact hP)
      have hD9 : va_D A ((oX11 (p0a 0) p0a p0w) ++ (oX6 (p0a 9) p0_8a p0_8k p0_8w p0_8l)) := by first | exact hD | (rw [← ho9]; exact hD)
      subst hQ
      exact W.vret hx hb hr (fun t ht hW => ⟨⟨(), rfl, trivial, ⟨by rw [ht]; exact hP9, va_K.moved hW.alike hK, hD9⟩⟩, hS.F ht⟩) hS.2.2 dX11_needFunction_26
    · refine lv_icmp_lt (tgt := 26) hx hb dX11_needFunction_12 (by decide) (fun c => absurd c hc2) (fun _ => ?_)
      exact J15 _ _ _ hrun hP hD hS (lv_sub hl [] rfl)
def fX11_digestBlock_L147 (p1w : ST) (p2 : Int32) : Nat → Int64 → Int32 → Option Int64
  | 0 => fun _ _ => none
  | n_147 + 1 => fun v4_147 v6_147 => ((fX1_waysTo p1w p2).bind fun (o_13 : Int32) => (if o_13 ≤ v6_147 then some v4_147 else ((fX1_wayFrom p1w p2 v6_147).bind fun (o_16 : Int32) => ((fX11_digestBlock_L147 p1w p2 n_147) ((v4_147 * (31 : Int64)) + ((o_16 : Int32).toInt64)) (v6_147 + 1)))))
def fX11_digestBlock (p0 : Int64) (p1n : Nat → Nat) (p1w : ST) (p2 : Int32) (p1_2n : Nat → Nat) (p1_2w : ST) : Option Int64 := (if ixb p2 60 = true then (if ixb p2 60 = true then ((fX1_countPhis p1n p1w p2).bind fun (o_3 : Int32) => ((fX1_countSteps p1w p2 p1_2n p1_2w).bind fun (o_5 : Int32) => (if ixb p2 60 = true then (if ixb p2 60 = true then (if ixb p2 60 = true then (if ixb p2 60 = true then ((fX1_waysTo p1w p2).bind fun (o_11 : Int32) => ((fX11_digestBlock_L147 p1w p2 NF ((((((((((((((((((p0 * (31 : Int64)) + (((p1w 12 (nn p2)) : Int32).toInt64)) * (31 : Int64)) + (((p1w 13 (nn p2)) : Int32).toInt64)) * (31 : Int64)) + ((o_3 : Int32).toInt64)) * (31 : Int64)) + ((o_5 : Int32).toInt64)) * (31 : Int64)) + (((p1w 8 (nn p2)) : Int32).toInt64)) * (31 : Int64)) + (((p1w 9 (nn p2)) : Int32).toInt64)) * (31 : Int64)) + (((p1w 10 (nn p2)) : Int32).toInt64)) * (31 : Int64)) + (((p1w 11 (nn p2)) : Int32).toInt64)) * (31 : Int64)) + ((o_11 : Int32).toInt64)) 0).bind fun (o147 : Int64) => some o147)) else none) else none) else none) else none))) else none) else none)
set_option maxHeartbeats 16000000 in
set_option maxRecDepth 100000 in
theorem kX11_digestBlock {zs : Nat × Nat} (l : Launch) (dC : Nat → ClassId) (dI : Nat → Nat → Nat) (p0 : Int64) (p1a : Nat → Nat) (p1k : Nat → ClassId) (p1n : Nat → Nat) (p1w : ST) (p1l : SL) (p2 : Int32) (p1_2a : Nat → Nat) (p1_2k : Nat → ClassId) (p1_2n : Nat → Nat) (p1_2w : ST) (sz : Nat) (o : Int64) (hrun : fX11_digestBlock p0 p1n p1w p2 p1_2n p1_2w = some o) : Met l yX11_digestBlock (wz yX11_digestBlock cX11_digestBlock 7 (Option.some Jvm.ClassFile.FieldType.long)) ({ frames := 1, cells := 0, slots := 0, locals := 23 } : Room) (va_Pc [.long p0, .ref (p1a 0), .int p2] (PRE zs dC dI ((oX1 (p1a 0) p1a p1k p1n p1w p1l) ++ (oX9 (p1a 3) p1_2a p1_2k p1_2n p1_2w)) ((tX1 p1k) ++ (tX9 p1_2k)) sz)) (va_Ql (fun (r : Int64) (_ : Unit) => r = o) (fun _ t => POST dC dI ((oX1 (p1a 0) p1a p1k p1n p1w p1l) ++ (oX9 (p1a 3) p1_2a p1_2k p1_2n p1_2w)) ((tX1 p1k) ++ (tX9 p1_2k)) (va_A ((oX1 (p1a 0) p1a p1k p1n p1w p1l) ++ (oX9 (p1a 3) p1_2a p1_2k p1_2n p1_2w)) sz) t) (va_A ((oX1 (p1a 0) p1a p1k p1n p1w p1l) ++ (oX9 (p1a 3) p1_2a p1_2k p1_2n p1_2w)) sz)) 0 0 (va_A ((oX1 (p1a 0) p1a p1k p1n p1w p1l) ++ (oX9 (p1a 3) p1_2a p1_2k p1_2n p1_2w)) sz) := by
  refine Met.ofW (cc := cX11_digestBlock) (maxL := 7) (ret := (Option.some Jvm.ClassFile.FieldType.long)) (by decide) rfl ?_
  intro p e s m args below meth c s₁ B hml hv
  obtain ⟨rfl, hsz, hP, hK, hD0, hE⟩ := hv
  have hx := B.exec
  have hb := B.bytes
  have hr := B.returns
  have hts0 := atoms_spec (ws := wz yX11_digestBlock cX11_digestBlock 7 (Option.some Jvm.ClassFile.FieldType.long)) B.pre
  have hts : ∀ w ∈ gw, w.before _ s = true := fun w h => hts0 w (List.mem_cons_of_mem _ h)
  have hown : s.vm.findClass RX11 = some m.cls := findClass_of_methodNamed B.named
  have hlocks := B.notSynchronized
  subst hsz
  have hD := hD0.self (sz := s.heap.size)
  refine gQ9 ?_
  intro Q hQ
  generalize hAe : va_A ((oX1 (p1a 0) p1a p1k p1n p1w p1l) ++ (oX9 (p1a 3) p1_2a p1_2k p1_2n p1_2w)) s.heap.size = A at hD hE hQ
  have hA : ∀ q : Nat, s.heap.size ≤ q → A q := fun q h => by rw [← hAe]; exact Or.inr h
  have hS : va_S A s.heap s.heap [] := va_S.rf
  have hP : va_P (dC, dI) cls ((oX1 (p1a 0) p1a p1k p1n p1w p1l) ++ (oX9 (p1a 3) p1_2a p1_2k p1_2n p1_2w)) s.heap := hP
  have hl := lv_entry ([.long p0, .ref (p1a 0), .int p2]) (n := 7) (Nat.le_of_ble_eq_true rfl)
  rw [lg_entry_eq]
  generalize (lg_sl ([.long p0, .ref (p1a 0), .int p2]) ++ List.replicate (7 - (lg_sl ([.long p0, .ref (p1a 0), .int p2])).length) Slot.unset).toArray = ls at hl ⊢
  have hl : lv_has ls 7 [(0, .long p0), (2, .ref (p1a 0)), (3, .int p2)] := hl
  obtain ⟨H, hHe⟩ : ∃ H, H = s.heap := ⟨_, rfl⟩
  obtain ⟨locs, hle⟩ : ∃ locs : List Loc, locs = [] := ⟨_, rfl⟩
  rw [← hHe] at hP
  have hS : va_S A s.heap H locs := by rw [hHe, hle]; exact hS
  show W p l e ({ frames := 1, cells := 0, slots := 0, locals := 23 } : Room) s m ([.long p0, .ref (p1a 0), .int p2] : List Value).toArray below meth c s.heap [] 0 0 Q (F0 m 0 ls [])
  rw [← hle]
  refine wH9 hHe ?_
  unfold fX11_digestBlock at hrun
  refine lv_lload_n hx hb dX11_digestBlock_0 rfl (lv_at hl 0 rfl) ?_
  refine lv_lstore (lv' := [(4, .long p0), (0, .long p0), (2, .ref (p1a 0)), (3, .int p2)]) hx hb dX11_digestBlock_1 hl (by decide) rfl (fun ls hl => ?_)
  refine lv_lload hx hb dX11_digestBlock_3 (lv_at hl 0 rfl) ?_
  refine lv_ldc2 (v := 31) hx hb hown (hts _ qw826) dX11_digestBlock_5 ?_
  refine lv_lmul hx hb dX11_digestBlock_8 ?_
  refine lv_aload_n hx hb dX11_digestBlock_9 rfl (lv_at hl 2 rfl) ?_
  refine va_get (D := (dC, dI)) (ci := 4) (v := .ref (p1a 12)) (C := RX1) (T := TX1) (N := 21) hx hb hts i_X1 hown hK hP 0 rfl rfl 11 (by decide) (hts _ qw832) (fun _ h9 => h9) rfl dX11_digestBlock_10 ?_
  refine lv_iload_n hx hb dX11_digestBlock_13 rfl (lv_at hl 3 rfl) ?_
  obtain ⟨hq1, hrun⟩ := chk9 hrun
  refine va_iald hx hb hK hP 9 8 rfl rfl (ixb_in hq1) dX11_digestBlock_14 ?_
  refine lv_i2l (v := (((p1w 12 (nn p2)) : Int32).toInt64)) hx hb dX11_digestBlock_15 rfl ?_
  refine lv_ladd hx hb dX11_digestBlock_16 ?_
  refine lv_lstore (lv' := [(4, .long ((p0 * (31 : Int64)) + (((p1w 12 (nn p2)) : Int32).toInt64))), (0, .long p0), (2, .ref (p1a 0)), (3, .int p2)]) hx hb dX11_digestBlock_17 hl (by decide) rfl (fun ls hl => ?_)
  refine lv_lload hx hb dX11_digestBlock_19 (lv_at hl 0 rfl) ?_
  refine lv_ldc2 (v := 31) hx hb hown (hts _ qw826) dX11_digestBlock_21 ?_
  refine lv_lmul hx hb dX11_digestBlock_24 ?_
  refine lv_aload_n hx hb dX11_digestBlock_25 rfl (lv_at hl 2 rfl) ?_
  refine va_get (D := (dC, dI)) (ci := 4) (v := .ref (p1a 13)) (C := RX1) (T := TX1) (N := 21) hx hb hts i_X1 hown hK hP 0 rfl rfl 12 (by decide) (hts _ qw833) (fun _ h9 => h9) rfl dX11_digestBlock_26 ?_
  refine lv_iload_n hx hb dX11_digestBlock_29 rfl (lv_at hl 3 rfl) ?_
  obtain ⟨hq2, hrun⟩ := chk9 hrun
  refine va_iald hx hb hK hP 10 9 rfl rfl (ixb_in hq2) dX11_digestBlock_30 ?_
  refine lv_i2l (v := (((p1w 13 (nn p2)) : Int32).toInt64)) hx hb dX11_digestBlock_31 rfl ?_
  refine lv_ladd hx hb dX11_digestBlock_32 ?_
  refine lv_lstore (lv' := [(4, .long ((((p0 * (31 : Int64)) + (((p1w 12 (nn p2)) : Int32).toInt64)) * (31 : Int64)) + (((p1w 13 (nn p2)) : Int32).toInt64))), (0, .long p0), (2, .ref (p1a 0)), (3, .int p2)]) hx hb dX11_digestBlock_33 hl (by decide) rfl (fun ls hl => ?_)
  refine lv_lload hx hb dX11_digestBlock_35 (lv_at hl 0 rfl) ?_
  refine lv_ldc2 (v := 31) hx hb hown (hts _ qw826) dX11_digestBlock_37 ?_
  refine lv_lmul hx hb dX11_digestBlock_40 ?_
  refine lv_aload_n hx hb dX11_digestBlock_41 rfl (lv_at hl 2 rfl) ?_
  refine lv_iload_n hx hb dX11_digestBlock_42 rfl (lv_at hl 3 rfl) ?_
  obtain ⟨o_3, hc_3, hrun⟩ := bnd9 hrun
  have hPc := hP.sub (ws' := (oX1 (p1a 0) p1a p1k p1n p1w p1l)) [0, 1, 2, 3, 4, 5, 6, 7, 8, 9, 10, 11, 12, 13, 14, 15, 16, 17] rfl
  have hDc := hD.sub (ws' := (oX1 (p1a 0) p1a p1k p1n p1w p1l)) [0, 1, 2, 3, 4, 5, 6, 7, 8, 9, 10, 11, 12, 13, 14, 15, 16, 17] (by decide) rfl
  have hKc := hK.sub (tys' := (tX1 p1k)) [0, 1, 2, 3, 4, 5, 6, 7, 8, 9, 10, 11, 12, 13, 14, 15, 16] rfl
  have hFc := va_free (wc := (oX1 (p1a 0) p1a p1k p1n p1w p1l)) hD hS hA [0, 1, 2, 3, 4, 5, 6, 7, 8, 9, 10, 11, 12, 13, 14, 15, 16, 17] rfl
  refine va_calli (va_runV (As := [.int p2]) (rest := [.long (((((p0 * (31 : Int64)) + (((p1w 12 (nn p2)) : Int32).toInt64)) * (31 : Int64)) + (((p1w 13 (nn p2)) : Int32).toInt64)) * (31 : Int64))]) ⟨hx, hb, hml, hown, hts⟩ (kX1_countPhis l dC dI (p0a := (st0 (p1a 0) p1a)) (p0k := p1k) (p0n := p1n) (p0w := p1w) (p0l := p1l) (p1 := p2) (sz := _) (o := o_3) (hrun := hc_3)) (cwV 1 hts (gi_V qw834 qw129 qw130 qw113 (gi_z qw127)) rfl rfl rfl (by decide +kernel) ⟨Nat.le_of_ble_eq_true rfl, Nat.le_of_ble_eq_true rfl⟩) ⟨PRE.blind, va_recv hKc hPc (ci := 4) (q0 := 0) rfl rfl, PRE.of hE hS hFc hPc hKc hDc⟩ rfl rfl hl.1 rfl (lv_room (Nat.le_of_ble_eq_true rfl)) dX11_digestBlock_43 ⟨Nat.le_of_ble_eq_true rfl, Nat.le_of_ble_eq_true rfl⟩) hS (fun q _ h => hFc q h) hFc (fun r4 u t H locs ht hvm hw hB hz1 hk1 hS => ?_)
  obtain ⟨hP, hD, hK⟩ := JOIN (wr := (oX9 (p1a 3) p1_2a p1_2k p1_2n p1_2w)) hP hD hK [0, 1, 2, 3, 4, 5, 6, 7, 8, 9, 10, 11, 12, 13, 14, 15, 16, 17] [18, 19, 20, 21, 22, 23] [17, 18, 19, 20, 21] rfl rfl (by decide) (by decide) rfl hk1 hFc ht hvm hB
  have hP : va_P (dC, dI) cls ((oX1 (p1a 0) p1a p1k p1n p1w p1l) ++ (oX9 (p1a 3) p1_2a p1_2k p1_2n p1_2w)) H := hP.sub [6, 7, 8, 9, 10, 11, 12, 13, 14, 15, 16, 17, 18, 19, 20, 21, 22, 23, 0, 1, 2, 3, 4, 5] rfl
  have hD : va_D A ((oX1 (p1a 0) p1a p1k p1n p1w p1l) ++ (oX9 (p1a 3) p1_2a p1_2k p1_2n p1_2w)) := hD.sub [6, 7, 8, 9, 10, 11, 12, 13, 14, 15, 16, 17, 18, 19, 20, 21, 22, 23, 0, 1, 2, 3, 4, 5] (by decide) rfl
  have hK : va_K (dC, dI) cls ((tX1 p1k) ++ (tX9 p1_2k)) s := hK.sub [5, 6, 7, 8, 9, 10, 11, 12, 13, 14, 15, 16, 17, 18, 19, 20, 21, 0, 1, 2, 3, 4] rfl
  obtain rfl : o_3 = r4 := hw.symm
  refine lv_i2l (v := ((o_3 : Int32).toInt64)) hx hb dX11_digestBlock_46 rfl ?_
  refine lv_ladd hx hb dX11_digestBlock_47 ?_
  refine lv_lstore (lv' := [(4, .long ((((((p0 * (31 : Int64)) + (((p1w 12 (nn p2)) : Int32).toInt64)) * (31 : Int64)) + (((p1w 13 (nn p2)) : Int32).toInt64)) * (31 : Int64)) + ((o_3 : Int32).toInt64))), (0, .long p0), (2, .ref (p1a 0)), (3, .int p2)]) hx hb dX11_digestBlock_48 hl (by decide) rfl (fun ls hl => ?_)
  refine lv_lload hx hb dX11_digestBlock_50 (lv_at hl 0 rfl) ?_
  refine lv_ldc2 (v := 31) hx hb hown (hts _ qw826) dX11_digestBlock_52 ?_
  refine lv_lmul hx hb dX11_digestBlock_55 ?_
  refine lv_aload_n hx hb dX11_digestBlock_56 rfl (lv_at hl 2 rfl) ?_
  refine lv_iload_n hx hb dX11_digestBlock_57 rfl (lv_at hl 3 rfl) ?_
  obtain ⟨o_5, hc_5, hrun⟩ := bnd9 hrun
  have hPc := hP.sub (ws' := ((oX1 (p1a 0) p1a p1k p1n p1w p1l) ++ (oX9 (p1a 3) p1_2a p1_2k p1_2n p1_2w))) [0, 1, 2, 3, 4, 5, 6, 7, 8, 9, 10, 11, 12, 13, 14, 15, 16, 17, 18, 19, 20, 21, 22, 23] rfl
  have hDc := hD.sub (ws' := ((oX1 (p1a 0) p1a p1k p1n p1w p1l) ++ (oX9 (p1a 3) p1_2a p1_2k p1_2n p1_2w))) [0, 1, 2, 3, 4, 5, 6, 7, 8, 9, 10, 11, 12, 13, 14, 15, 16, 17, 18, 19, 20, 21, 22, 23] (by decide) rfl
  have hKc := hK.sub (tys' := ((tX1 p1k) ++ (tX9 p1_2k))) [0, 1, 2, 3, 4, 5, 6, 7, 8, 9, 10, 11, 12, 13, 14, 15, 16, 17, 18, 19, 20, 21] rfl
  have hFc := va_free (wc := ((oX1 (p1a 0) p1a p1k p1n p1w p1l) ++ (oX9 (p1a 3) p1_2a p1_2k p1_2n p1_2w))) hD hS hA [0, 1, 2, 3, 4, 5, 6, 7, 8, 9, 10, 11, 12, 13, 14, 15, 16, 17, 18, 19, 20, 21, 22, 23] rfl
  refine va_calli (va_runV (As := [.int p2]) (rest := [.long (((((((p0 * (31 : Int64)) + (((p1w 12 (nn p2)) : Int32).toInt64)) * (31 : Int64)) + (((p1w 13 (nn p2)) : Int32).toInt64)) * (31 : Int64)) + ((o_3 : Int32).toInt64)) * (31 : Int64))]) ⟨hx, hb, hml, hown, hts⟩ (kX1_countSteps l dC dI (p0a := (st0 (p1a 0) p1a)) (p0k := p1k) (p0n := p1n) (p0w := p1w) (p0l := p1l) (p1 := p2) (p0_2a := p1_2a) (p0_2k := p1_2k) (p0_2n := p1_2n) (p0_2w := p1_2w) (sz := _) (o := o_5) (hrun := hc_5)) (cwV 1 hts (gi_V qw836 qw837 qw838 qw113 (gi_z qw835)) rfl rfl rfl (by decide +kernel) ⟨Nat.le_of_ble_eq_true rfl, Nat.le_of_ble_eq_true rfl⟩) ⟨PRE.blind, va_recv hKc hPc (ci := 4) (q0 := 0) rfl rfl, PRE.of hE hS hFc hPc hKc hDc⟩ rfl rfl hl.1 rfl (lv_room (Nat.le_of_ble_eq_true rfl)) dX11_digestBlock_58 ⟨Nat.le_of_ble_eq_true rfl, Nat.le_of_ble_eq_true rfl⟩) hS (fun q _ h => hFc q h) hFc (fun r6 u t H locs ht hvm hw hB hz1 hk1 hS => ?_)
  obtain ⟨hP, hD, hK⟩ := JOIN (wr := ([] : va_W)) hP hD hK [0, 1, 2, 3, 4, 5, 6, 7, 8, 9, 10, 11, 12, 13, 14, 15, 16, 17, 18, 19, 20, 21, 22, 23] [] [] rfl rfl (by decide) (by decide) rfl hk1 hFc ht hvm hB
  have hP : va_P (dC, dI) cls ((oX1 (p1a 0) p1a p1k p1n p1w p1l) ++ (oX9 (p1a 3) p1_2a p1_2k p1_2n p1_2w)) H := hP.sub [0, 1, 2, 3, 4, 5, 6, 7, 8, 9, 10, 11, 12, 13, 14, 15, 16, 17, 18, 19, 20, 21, 22, 23] rfl
  have hD : va_D A ((oX1 (p1a 0) p1a p1k p1n p1w p1l) ++ (oX9 (p1a 3) p1_2a p1_2k p1_2n p1_2w)) := hD.sub [0, 1, 2, 3, 4, 5, 6, 7, 8, 9, 10, 11, 12, 13, 14, 15, 16, 17, 18, 19, 20, 21, 22, 23] (by decide) rfl
  have hK : va_K (dC, dI) cls ((tX1 p1k) ++ (tX9 p1_2k)) s := hK.sub [0, 1, 2, 3, 4, 5, 6, 7, 8, 9, 10, 11, 12, 13, 14, 15, 16, 17, 18, 19, 20, 21] rfl
  obtain rfl : o_5 = r6 := hw.symm
  refine lv_i2l (v := ((o_5 : Int32).toInt64)) hx hb dX11_digestBlock_61 rfl ?_
  refine lv_ladd hx hb dX11_digestBlock_62 ?_
  refine lv_lstore (lv' := [(4, .long ((((((((p0 * (31 : Int64)) + (((p1w 12 (nn p2)) : Int32).toInt64)) * (31 : Int64)) + (((p1w 13 (nn p2)) : Int32).toInt64)) * (31 : Int64)) + ((o_3 : Int32).toInt64)) * (31 : Int64)) + ((o_5 : Int32).toInt64))), (0, .long p0), (2, .ref (p1a 0)), (3, .int p2)]) hx hb dX11_digestBlock_63 hl (by decide) rfl (fun ls hl => ?_)
  refine lv_lload hx hb dX11_digestBlock_65 (lv_at hl 0 rfl) ?_
  refine lv_ldc2 (v := 31) hx hb hown (hts _ qw826) dX11_digestBlock_67 ?_
  refine lv_lmul hx hb dX11_digestBlock_70 ?_
  refine lv_aload_n hx hb dX11_digestBlock_71 rfl (lv_at hl 2 rfl) ?_
  refine va_get (D := (dC, dI)) (ci := 4) (v := .ref (p1a 8)) (C := RX1) (T := TX1) (N := 21) hx hb hts i_X1 hown hK hP 0 rfl rfl 7 (by decide) (hts _ qw839) (fun _ h9 => h9) rfl dX11_digestBlock_72 ?_
  refine lv_iload_n hx hb dX11_digestBlock_75 rfl (lv_at hl 3 rfl) ?_
  obtain ⟨hq7, hrun⟩ := chk9 hrun
  refine va_iald hx hb hK hP 5 4 rfl rfl (ixb_in hq7) dX11_digestBlock_76 ?_
  refine lv_i2l (v := (((p1w 8 (nn p2)) : Int32).toInt64)) hx hb dX11_digestBlock_77 rfl ?_
  refine lv_ladd hx hb dX11_digestBlock_78 ?_
  refine lv_lstore (lv' := [(4, .long ((((((((((p0 * (31 : Int64)) + (((p1w 12 (nn p2)) : Int32).toInt64)) * (31 : Int64)) + (((p1w 13 (nn p2)) : Int32).toInt64)) * (31 : Int64)) + ((o_3 : Int32).toInt64)) * (31 : Int64)) + ((o_5 : Int32).toInt64)) * (31 : Int64)) + (((p1w 8 (nn p2)) : Int32).toInt64))), (0, .long p0), (2, .ref (p1a 0)), (3, .int p2)]) hx hb dX11_digestBlock_79 hl (by decide) rfl (fun ls hl => ?_)
  refine lv_lload hx hb dX11_digestBlock_81 (lv_at hl 0 rfl) ?_
  refine lv_ldc2 (v := 31) hx hb hown (hts _ qw826) dX11_digestBlock_83 ?_
  refine lv_lmul hx hb dX11_digestBlock_86 ?_
  refine lv_aload_n hx hb dX11_digestBlock_87 rfl (lv_at hl 2 rfl) ?_
  refine va_get (D := (dC, dI)) (ci := 4) (v := .ref (p1a 9)) (C := RX1) (T := TX1) (N := 21) hx hb hts i_X1 hown hK hP 0 rfl rfl 8 (by decide) (hts _ qw840) (fun _ h9 => h9) rfl dX11_digestBlock_88 ?_
  refine lv_iload_n hx hb dX11_digestBlock_91 rfl (lv_at hl 3 rfl) ?_
  obtain ⟨hq8, hrun⟩ := chk9 hrun
  refine va_iald hx hb hK hP 6 5 rfl rfl (ixb_in hq8) dX11_digestBlock_92 ?_
  refine lv_i2l (v := (((p1w 9 (nn p2)) : Int32).toInt64)) hx hb dX11_digestBlock_93 rfl ?_
  refine lv_ladd hx hb dX11_digestBlock_94 ?_
  refine lv_lstore (lv' := [(4, .long ((((((((((((p0 * (31 : Int64)) + (((p1w 12 (nn p2)) : Int32).toInt64)) * (31 : Int64)) + (((p1w 13 (nn p2)) : Int32).toInt64)) * (31 : Int64)) + ((o_3 : Int32).toInt64)) * (31 : Int64)) + ((o_5 : Int32).toInt64)) * (31 : Int64)) + (((p1w 8 (nn p2)) : Int32).toInt64)) * (31 : Int64)) + (((p1w 9 (nn p2)) : Int32).toInt64))), (0, .long p0), (2, .ref (p1a 0)), (3, .int p2)]) hx hb dX11_digestBlock_95 hl (by decide) rfl (fun ls hl => ?_)
  refine lv_lload hx hb dX11_digestBlock_97 (lv_at hl 0 rfl) ?_
  refine lv_ldc2 (v := 31) hx hb hown (hts _ qw826) dX11_digestBlock_99 ?_
  refine lv_lmul hx hb dX11_digestBlock_102 ?_
  refine lv_aload_n hx hb dX11_digestBlock_103 rfl (lv_at hl 2 rfl) ?_
  refine va_get (D := (dC, dI)) (ci := 4) (v := .ref (p1a 10)) (C := RX1) (T := TX1) (N := 21) hx hb hts i_X1 hown hK hP 0 rfl rfl 9 (by decide) (hts _ qw841) (fun _ h9 => h9) rfl dX11_digestBlock_104 ?_
  refine lv_iload_n hx hb dX11_digestBlock_107 rfl (lv_at hl 3 rfl) ?_
  obtain ⟨hq9, hrun⟩ := chk9 hrun
  refine va_iald hx hb hK hP 7 6 rfl rfl (ixb_in hq9) dX11_digestBlock_108 ?_
  refine lv_i2l (v := (((p1w 10 (nn p2)) : Int32).toInt64)) hx hb dX11_digestBlock_109 rfl ?_
  refine lv_ladd hx hb dX11_digestBlock_110 ?_
  refine lv_lstore (lv' := [(4, .long ((((((((((((((p0 * (31 : Int64)) + (((p1w 12 (nn p2)) : Int32).toInt64)) * (31 : Int64)) + (((p1w 13 (nn p2)) : Int32).toInt64)) * (31 : Int64)) + ((o_3 : Int32).toInt64)) * (31 : Int64)) + ((o_5 : Int32).toInt64)) * (31 : Int64)) + (((p1w 8 (nn p2)) : Int32).toInt64)) * (31 : Int64)) + (((p1w 9 (nn p2)) : Int32).toInt64)) * (31 : Int64)) + (((p1w 10 (nn p2)) : Int32).toInt64))), (0, .long p0), (2, .ref (p1a 0)), (3, .int p2)]) hx hb dX11_digestBlock_111 hl (by decide) rfl (fun ls hl => ?_)
  refine lv_lload hx hb dX11_digestBlock_113 (lv_at hl 0 rfl) ?_
  refine lv_ldc2 (v := 31) hx hb hown (hts _ qw826) dX11_digestBlock_115 ?_
  refine lv_lmul hx hb dX11_digestBlock_118 ?_
  refine lv_aload_n hx hb dX11_digestBlock_119 rfl (lv_at hl 2 rfl) ?_
  refine va_get (D := (dC, dI)) (ci := 4) (v := .ref (p1a 11)) (C := RX1) (T := TX1) (N := 21) hx hb hts i_X1 hown hK hP 0 rfl rfl 10 (by decide) (hts _ qw842) (fun _ h9 => h9) rfl dX11_digestBlock_120 ?_
  refine lv_iload_n hx hb dX11_digestBlock_123 rfl (lv_at hl 3 rfl) ?_
  obtain ⟨hq10, hrun⟩ := chk9 hrun
  refine va_iald hx hb hK hP 8 7 rfl rfl (ixb_in hq10) dX11_digestBlock_124 ?_
  refine lv_i2l (v := (((p1w 11 (nn p2)) : Int32).toInt64)) hx hb dX11_digestBlock_125 rfl ?_
  refine lv_ladd hx hb dX11_digestBlock_126 ?_
  refine lv_lstore (lv' := [(4, .long ((((((((((((((((p0 * (31 : Int64)) + (((p1w 12 (nn p2)) : Int32).toInt64)) * (31 : Int64)) + (((p1w 13 (nn p2)) : Int32).toInt64)) * (31 : Int64)) + ((o_3 : Int32).toInt64)) * (31 : Int64)) + ((o_5 : Int32).toInt64)) * (31 : Int64)) + (((p1w 8 (nn p2)) : Int32).toInt64)) * (31 : Int64)) + (((p1w 9 (nn p2)) : Int32).toInt64)) * (31 : Int64)) + (((p1w 10 (nn p2)) : Int32).toInt64)) * (31 : Int64)) + (((p1w 11 (nn p2)) : Int32).toInt64))), (0, .long p0), (2, .ref (p1a 0)), (3, .int p2)]) hx hb dX11_digestBlock_127 hl (by decide) rfl (fun ls hl => ?_)
  refine lv_lload hx hb dX11_digestBlock_129 (lv_at hl 0 rfl) ?_
  refine lv_ldc2 (v := 31) hx hb hown (hts _ qw826) dX11_digestBlock_131 ?_
  refine lv_lmul hx hb dX11_digestBlock_134 ?_
  refine lv_aload_n hx hb dX11_digestBlock_135 rfl (lv_at hl 2 rfl) ?_
  refine lv_iload_n hx hb dX11_digestBlock_136 rfl (lv_at hl 3 rfl) ?_
  obtain ⟨o_11, hc_11, hrun⟩ := bnd9 hrun
  have hPc := hP.sub (ws' := (oX1 (p1a 0) p1a p1k p1n p1w p1l)) [0, 1, 2, 3, 4, 5, 6, 7, 8, 9, 10, 11, 12, 13, 14, 15, 16, 17] rfl
  have hDc := hD.sub (ws' := (oX1 (p1a 0) p1a p1k p1n p1w p1l)) [0, 1, 2, 3, 4, 5, 6, 7, 8, 9, 10, 11, 12, 13, 14, 15, 16, 17] (by decide) rfl
  have hKc := hK.sub (tys' := (tX1 p1k)) [0, 1, 2, 3, 4, 5, 6, 7, 8, 9, 10, 11, 12, 13, 14, 15, 16] rfl
  have hFc := va_free (wc := (oX1 (p1a 0) p1a p1k p1n p1w p1l)) hD hS hA [0, 1, 2, 3, 4, 5, 6, 7, 8, 9, 10, 11, 12, 13, 14, 15, 16, 17] rfl
  refine va_calli (va_runV (As := [.int p2]) (rest := [.long (((((((((((((((((p0 * (31 : Int64)) + (((p1w 12 (nn p2)) : Int32).toInt64)) * (31 : Int64)) + (((p1w 13 (nn p2)) : Int32).toInt64)) * (31 : Int64)) + ((o_3 : Int32).toInt64)) * (31 : Int64)) + ((o_5 : Int32).toInt64)) * (31 : Int64)) + (((p1w 8 (nn p2)) : Int32).toInt64)) * (31 : Int64)) + (((p1w 9 (nn p2)) : Int32).toInt64)) * (31 : Int64)) + (((p1w 10 (nn p2)) : Int32).toInt64)) * (31 : Int64)) + (((p1w 11 (nn p2)) : Int32).toInt64)) * (31 : Int64))]) ⟨hx, hb, hml, hown, hts⟩ (kX1_waysTo l dC dI (p0a := (st0 (p1a 0) p1a)) (p0k := p1k) (p0n := p1n) (p0w := p1w) (p0l := p1l) (p1 := p2) (sz := _) (o := o_11) (hrun := hc_11)) (cwV 1 hts (gi_V qw843 qw151 qw152 qw113 (gi_z qw149)) rfl rfl rfl (by decide +kernel) ⟨Nat.le_of_ble_eq_true rfl, Nat.le_of_ble_eq_true rfl⟩) ⟨PRE.blind, va_recv hKc hPc (ci := 4) (q0 := 0) rfl rfl, PRE.of hE hS hFc hPc hKc hDc⟩ rfl rfl hl.1 rfl (lv_room (Nat.le_of_ble_eq_true rfl)) dX11_digestBlock_137 ⟨Nat.le_of_ble_eq_true rfl, Nat.le_of_ble_eq_true rfl⟩) hS (fun q _ h => hFc q h) hFc (fun r12 u t H locs ht hvm hw hB hz1 hk1 hS => ?_)
  obtain ⟨hP, hD, hK⟩ := JOIN (wr := (oX9 (p1a 3) p1_2a p1_2k p1_2n p1_2w)) hP hD hK [0, 1, 2, 3, 4, 5, 6, 7, 8, 9, 10, 11, 12, 13, 14, 15, 16, 17] [18, 19, 20, 21, 22, 23] [17, 18, 19, 20, 21] rfl rfl (by decide) (by decide) rfl hk1 hFc ht hvm hB
  have hP : va_P (dC, dI) cls ((oX1 (p1a 0) p1a p1k p1n p1w p1l) ++ (oX9 (p1a 3) p1_2a p1_2k p1_2n p1_2w)) H := hP.sub [6, 7, 8, 9, 10, 11, 12, 13, 14, 15, 16, 17, 18, 19, 20, 21, 22, 23, 0, 1, 2, 3, 4, 5] rfl
  have hD : va_D A ((oX1 (p1a 0) p1a p1k p1n p1w p1l) ++ (oX9 (p1a 3) p1_2a p1_2k p1_2n p1_2w)) := hD.sub [6, 7, 8, 9, 10, 11, 12, 13, 14, 15, 16, 17, 18, 19, 20, 21, 22, 23, 0, 1, 2, 3, 4, 5] (by decide) rfl
  have hK : va_K (dC, dI) cls ((tX1 p1k) ++ (tX9 p1_2k)) s := hK.sub [5, 6, 7, 8, 9, 10, 11, 12, 13, 14, 15, 16, 17, 18, 19, 20, 21, 0, 1, 2, 3, 4] rfl
  obtain rfl : o_11 = r12 := hw.symm
  refine lv_i2l (v := ((o_11 : Int32).toInt64)) hx hb dX11_digestBlock_140 rfl ?_
  refine lv_ladd hx hb dX11_digestBlock_141 ?_
  refine lv_lstore (lv' := [(4, .long ((((((((((((((((((p0 * (31 : Int64)) + (((p1w 12 (nn p2)) : Int32).toInt64)) * (31 : Int64)) + (((p1w 13 (nn p2)) : Int32).toInt64)) * (31 : Int64)) + ((o_3 : Int32).toInt64)) * (31 : Int64)) + ((o_5 : Int32).toInt64)) * (31 : Int64)) + (((p1w 8 (nn p2)) : Int32).toInt64)) * (31 : Int64)) + (((p1w 9 (nn p2)) : Int32).toInt64)) * (31 : Int64)) + (((p1w 10 (nn p2)) : Int32).toInt64)) * (31 : Int64)) + (((p1w 11 (nn p2)) : Int32).toInt64)) * (31 : Int64)) + ((o_11 : Int32).toInt64))), (0, .long p0), (2, .ref (p1a 0)), (3, .int p2)]) hx hb dX11_digestBlock_142 hl (by decide) rfl (fun ls hl => ?_)
  refine lv_iconst (v := 0) hx hb dX11_digestBlock_144 (by decide) ?_
  refine lv_istore (lv' := [(6, .int 0), (4, .long ((((((((((((((((((p0 * (31 : Int64)) + (((p1w 12 (nn p2)) : Int32).toInt64)) * (31 : Int64)) + (((p1w 13 (nn p2)) : Int32).toInt64)) * (31 : Int64)) + ((o_3 : Int32).toInt64)) * (31 : Int64)) + ((o_5 : Int32).toInt64)) * (31 : Int64)) + (((p1w 8 (nn p2)) : Int32).toInt64)) * (31 : Int64)) + (((p1w 9 (nn p2)) : Int32).toInt64)) * (31 : Int64)) + (((p1w 10 (nn p2)) : Int32).toInt64)) * (31 : Int64)) + (((p1w 11 (nn p2)) : Int32).toInt64)) * (31 : Int64)) + ((o_11 : Int32).toInt64))), (0, .long p0), (2, .ref (p1a 0)), (3, .int p2)]) hx hb dX11_digestBlock_145 hl (by decide) rfl (fun ls hl => ?_)
  have L147 : ∀ (n_147 : Nat) (v4_147 : Int64) (v6_147 : Int32) (o147 : Int64) (H : Heap) (locs : List Loc) (ls : Array Slot), (fX11_digestBlock_L147 p1w p2 n_147) v4_147 v6_147 = some o147 → va_P (dC, dI) cls ((oX1 (p1a 0) p1a p1k p1n p1w p1l) ++ (oX9 (p1a 3) p1_2a p1_2k p1_2n p1_2w)) H → va_D A ((oX1 (p1a 0) p1a p1k p1n p1w p1l) ++ (oX9 (p1a 3) p1_2a p1_2k p1_2n p1_2w)) → va_S A s.heap H locs → lv_has ls 7 [(2, .ref (p1a 0)), (3, .int p2), (4, .long v4_147), (6, .int v6_147)] → (∀ (H : Heap) (locs : List Loc) (ls : Array Slot), va_P (dC, dI) cls ((oX1 (p1a 0) p1a p1k p1n p1w p1l) ++ (oX9 (p1a 3) p1_2a p1_2k p1_2n p1_2w)) H → va_D A ((oX1 (p1a 0) p1a p1k p1n p1w p1l) ++ (oX9 (p1a 3) p1_2a p1_2k p1_2n p1_2w)) → va_S A s.heap H locs → lv_has ls 7 [(4, .long o147)] → W p l e ({ frames := 1, cells := 0, slots := 0, locals := 23 } : Room) s m ([.long p0, .ref (p1a 0), .int p2] : List Value).toArray below meth c H locs 0 0 Q (F0 m 180 ls [])) → W p l e ({ frames := 1, cells := 0, slots := 0, locals := 23 } : Room) s m ([.long p0, .ref (p1a 0), .int p2] : List Value).toArray below meth c H locs 0 0 Q (F0 m 147 ls []) := by
    intro n_147
    induction n_147 with
    | zero => intro v4_147 v6_147 o147 H locs ls hrun; exact (no9 rfl hrun).elim
    | succ n_147 IH147 =>
      intro v4_147 v6_147 o147 H locs ls hrun hP hD hS hl hk147
      unfold fX11_digestBlock_L147 at hrun
      refine lv_iload hx hb dX11_digestBlock_147 (lv_at hl 3 rfl) ?_
      refine lv_aload_n hx hb dX11_digestBlock_149 rfl (lv_at hl 0 rfl) ?_
      refine lv_iload_n hx hb dX11_digestBlock_150 rfl (lv_at hl 1 rfl) ?_
      obtain ⟨o_13, hc_13, hrun⟩ := bnd9 hrun
      have hPc := hP.sub (ws' := (oX1 (p1a 0) p1a p1k p1n p1w p1l)) [0, 1, 2, 3, 4, 5, 6, 7, 8, 9, 10, 11, 12, 13, 14, 15, 16, 17] rfl
      have hDc := hD.sub (ws' := (oX1 (p1a 0) p1a p1k p1n p1w p1l)) [0, 1, 2, 3, 4, 5, 6, 7, 8, 9, 10, 11, 12, 13, 14, 15, 16, 17] (by decide) rfl
      have hKc := hK.sub (tys' := (tX1 p1k)) [0, 1, 2, 3, 4, 5, 6, 7, 8, 9, 10, 11, 12, 13, 14, 15, 16] rfl
      have hFc := va_free (wc := (oX1 (p1a 0) p1a p1k p1n p1w p1l)) hD hS hA [0, 1, 2, 3, 4, 5, 6, 7, 8, 9, 10, 11, 12, 13, 14, 15, 16, 17] rfl
      refine va_calli (va_runV (As := [.int p2]) (rest := [.int v6_147]) ⟨hx, hb, hml, hown, hts⟩ (kX1_waysTo l dC dI (p0a := (st0 (p1a 0) p1a)) (p0k := p1k) (p0n := p1n) (p0w := p1w) (p0l := p1l) (p1 := p2) (sz := _) (o := o_13) (hrun := hc_13)) (cwV 1 hts (gi_V qw843 qw151 qw152 qw113 (gi_z qw149)) rfl rfl rfl (by decide +kernel) ⟨Nat.le_of_ble_eq_true rfl, Nat.le_of_ble_eq_true rfl⟩) ⟨PRE.blind, va_recv hKc hPc (ci := 4) (q0 := 0) rfl rfl, PRE.of hE hS hFc hPc hKc hDc⟩ rfl rfl hl.1 rfl (lv_room (Nat.le_of_ble_eq_true rfl)) dX11_digestBlock_151 ⟨Nat.le_of_ble_eq_true rfl, Nat.le_of_ble_eq_true rfl⟩) hS (fun q _ h => hFc q h) hFc (fun r14 u t H locs ht hvm hw hB hz1 hk1 hS => ?_)
      obtain ⟨hP, hD, hK⟩ := JOIN (wr := (oX9 (p1a 3) p1_2a p1_2k p1_2n p1_2w)) hP hD hK [0, 1, 2, 3, 4, 5, 6, 7, 8, 9, 10, 11, 12, 13, 14, 15, 16, 17] [18, 19, 20, 21, 22, 23] [17, 18, 19, 20, 21] rfl rfl (by decide) (by decide) rfl hk1 hFc ht hvm hB
      have hP : va_P (dC, dI) cls ((oX1 (p1a 0) p1a p1k p1n p1w p1l) ++ (oX9 (p1a 3) p1_2a p1_2k p1_2n p1_2w)) H := hP.sub [6, 7, 8, 9, 10, 11, 12, 13, 14, 15, 16, 17, 18, 19, 20, 21, 22, 23, 0, 1, 2, 3, 4, 5] rfl
      have hD : va_D A ((oX1 (p1a 0) p1a p1k p1n p1w p1l) ++ (oX9 (p1a 3) p1_2a p1_2k p1_2n p1_2w)) := hD.sub [6, 7, 8, 9, 10, 11, 12, 13, 14, 15, 16, 17, 18, 19, 20, 21, 22, 23, 0, 1, 2, 3, 4, 5] (by decide) rfl
      have hK : va_K (dC, dI) cls ((tX1 p1k) ++ (tX9 p1_2k)) s := hK.sub [5, 6, 7, 8, 9, 10, 11, 12, 13, 14, 15, 16, 17, 18, 19, 20, 21, 0, 1, 2, 3, 4] rfl
      obtain rfl : o_13 = r14 := hw.symm
      rcases br9 hrun with ⟨hc15, hrun⟩ | ⟨hc15, hrun⟩
      · refine lv_icmp_ge (tgt := 180) hx hb dX11_digestBlock_154 (by decide) (fun _ => ?_) (fun c => absurd hc15 c)
        obtain rfl := (Option.some.inj hrun)
        exact hk147 _ _ _ hP hD hS (lv_sub hl [2] rfl)
      · refine lv_icmp_ge (tgt := 180) hx hb dX11_digestBlock_154 (by decide) (fun c => absurd c hc15) (fun _ => ?_)
        refine lv_lload hx hb dX11_digestBlock_157 (lv_at hl 2 rfl) ?_
        refine lv_ldc2 (v := 31) hx hb hown (hts _ qw826) dX11_digestBlock_159 ?_
        refine lv_lmul hx hb dX11_digestBlock_162 ?_
        refine lv_aload_n hx hb dX11_digestBlock_163 rfl (lv_at hl 0 rfl) ?_
        refine lv_iload_n hx hb dX11_digestBlock_164 rfl (lv_at hl 1 rfl) ?_
        refine lv_iload hx hb dX11_digestBlock_165 (lv_at hl 3 rfl) ?_
        obtain ⟨o_16, hc_16, hrun⟩ := bnd9 hrun
        have hPc := hP.sub (ws' := (oX1 (p1a 0) p1a p1k p1n p1w p1l)) [0, 1, 2, 3, 4, 5, 6, 7, 8, 9, 10, 11, 12, 13, 14, 15, 16, 17] rfl
        have hDc := hD.sub (ws' := (oX1 (p1a 0) p1a p1k p1n p1w p1l)) [0, 1, 2, 3, 4, 5, 6, 7, 8, 9, 10, 11, 12, 13, 14, 15, 16, 17] (by decide) rfl
        have hKc := hK.sub (tys' := (tX1 p1k)) [0, 1, 2, 3, 4, 5, 6, 7, 8, 9, 10, 11, 12, 13, 14, 15, 16] rfl
        have hFc := va_free (wc := (oX1 (p1a 0) p1a p1k p1n p1w p1l)) hD hS hA [0, 1, 2, 3, 4, 5, 6, 7, 8, 9, 10, 11, 12, 13, 14, 15, 16, 17] rfl
        refine va_calli (va_runV (As := [.int p2, .int v6_147]) (rest := [.long (v4_147 * (31 : Int64))]) ⟨hx, hb, hml, hown, hts⟩ (kX1_wayFrom l dC dI (p0a := (st0 (p1a 0) p1a)) (p0k := p1k) (p0n := p1n) (p0w := p1w) (p0l := p1l) (p1 := p2) (p2 := v6_147) (sz := _) (o := o_16) (hrun := hc_16)) (cwV 2 hts (gi_V qw844 qw155 qw156 qw113 (gi_z qw153)) rfl rfl rfl (by decide +kernel) ⟨Nat.le_of_ble_eq_true rfl, Nat.le_of_ble_eq_true rfl⟩) ⟨PRE.blind, va_recv hKc hPc (ci := 4) (q0 := 0) rfl rfl, PRE.of hE hS hFc hPc hKc hDc⟩ rfl rfl hl.1 rfl (lv_room (Nat.le_of_ble_eq_true rfl)) dX11_digestBlock_167 ⟨Nat.le_of_ble_eq_true rfl, Nat.le_of_ble_eq_true rfl⟩) hS (fun q _ h => hFc q h) hFc (fun r17 u t H locs ht hvm hw hB hz1 hk1 hS => ?_)
        obtain ⟨hP, hD, hK⟩ := JOIN (wr := (oX9 (p1a 3) p1_2a p1_2k p1_2n p1_2w)) hP hD hK [0, 1, 2, 3, 4, 5, 6, 7, 8, 9, 10, 11, 12, 13, 14, 15, 16, 17] [18, 19, 20, 21, 22, 23] [17, 18, 19, 20, 21] rfl rfl (by decide) (by decide) rfl hk1 hFc ht hvm hB
        have hP : va_P (dC, dI) cls ((oX1 (p1a 0) p1a p1k p1n p1w p1l) ++ (oX9 (p1a 3) p1_2a p1_2k p1_2n p1_2w)) H := hP.sub [6, 7, 8, 9, 10, 11, 12, 13, 14, 15, 16, 17, 18, 19, 20, 21, 22, 23, 0, 1, 2, 3, 4, 5] rfl
        have hD : va_D A ((oX1 (p1a 0) p1a p1k p1n p1w p1l) ++ (oX9 (p1a 3) p1_2a p1_2k p1_2n p1_2w)) := hD.sub [6, 7, 8, 9, 10, 11, 12, 13, 14, 15, 16, 17, 18, 19, 20, 21, 22, 23, 0, 1, 2, 3, 4, 5] (by decide) rfl
        have hK : va_K (dC, dI) cls ((tX1 p1k) ++ (tX9 p1_2k)) s := hK.sub [5, 6, 7, 8, 9, 10, 11, 12, 13, 14, 15, 16, 17, 18, 19, 20, 21, 0, 1, 2, 3, 4] rfl
        obtain rfl : o_16 = r17 := hw.symm
        refine lv_i2l (v := ((o_16 : Int32).toInt64)) hx hb dX11_digestBlock_170 rfl ?_
        refine lv_ladd hx hb dX11_digestBlock_171 ?_
        refine lv_lstore (lv' := [(4, .long ((v4_147 * (31 : Int64)) + ((o_16 : Int32).toInt64))), (2, .ref (p1a 0)), (3, .int p2), (6, .int v6_147)]) hx hb dX11_digestBlock_172 hl (by decide) rfl (fun ls hl => ?_)
        refine lv_iinc (v := (v6_147 + 1)) (lv' := [(6, .int (v6_147 + 1)), (4, .long ((v4_147 * (31 : Int64)) + ((o_16 : Int32).toInt64))), (2, .ref (p1a 0)), (3, .int p2)]) hx hb dX11_digestBlock_174 hl (k := 3) rfl rfl (by decide) rfl (fun ls hl => ?_)
        refine lv_goto (tgt := 147) hx hb dX11_digestBlock_177 (by decide) ?_
        exact IH147 ((v4_147 * (31 : Int64)) + ((o_16 : Int32).toInt64)) (v6_147 + 1) o147 _ _ _ hrun hP hD hS (lv_sub hl [2, 3, 1, 0] rfl) hk147
  obtain ⟨o147, hc147, hrun⟩ := bnd9 hrun
  refine L147 NF ((((((((((((((((((p0 * (31 : Int64)) + (((p1w 12 (nn p2)) : Int32).toInt64)) * (31 : Int64)) + (((p1w 13 (nn p2)) : Int32).toInt64)) * (31 : Int64)) + ((o_3 : Int32).toInt64)) * (31 : Int64)) + ((o_5 : Int32).toInt64)) * (31 : Int64)) + (((p1w 8 (nn p2)) : Int32).toInt64)) * (31 : Int64)) + (((p1w 9 (nn p2)) : Int32).toInt64)) * (31 : Int64)) + (((p1w 10 (nn p2)) : Int32).toInt64)) * (31 : Int64)) + (((p1w 11 (nn p2)) : Int32).toInt64)) * (31 : Int64)) + ((o_11 : Int32).toInt64)) 0 o147 _ _ _ hc147 hP hD hS (lv_sub hl [3, 4, 1, 0] rfl) ?_
  intro H locs ls hP hD hS hl
  have hl := hl
  refine lv_lload hx hb dX11_digestBlock_180 (lv_at hl 0 rfl) ?_
  have ho9 : o147 = o := Option.some.inj hrun
  have hP9 : va_P (dC, dI) cls ((oX1 (p1a 0) p1a p1k p1n p1w p1l) ++ (oX9 (p1a 3) p1_2a p1_2k p1_2n p1_2w)) H := by first | exact hP | (rw [← ho9]; exact hP)
  have hD9 : va_D A ((oX1 (p1a 0) p1a p1k p1n p1w p1l) ++ (oX9 (p1a 3) p1_2a p1_2k p1_2n p1_2w)) := by first | exact hD | (rw [← ho9]; exact hD)
  subst hQ
  exact W.lret (v := o147) hx hb hr (fun t ht hW => ⟨⟨o147, (), rfl, (by rw [← ho9]), ⟨by rw [ht]; exact hP9, va_K.moved hW.alike hK, hD9⟩⟩, hS.F ht⟩) hS.2.2 dX11_digestBlock_182
def fX11_digestPhis_L36 (p1n : Nat → Nat) (p1w : ST) (p2 : Int32) (v6_11 : Int32) : Nat → Int64 → Int32 → Option Int64
  | 0 => fun _ _ => none
  | n_36 + 1 => fun v4_36 v7_36 => ((fX1_waysTo p1w p2).bind fun (o_4 : Int32) => (if o_4 ≤ v7_36 then some v4_36 else ((fX1_wayFrom p1w p2 v7_36).bind fun (o_7 : Int32) => ((fX1_take p1n p1w v6_11 o_7).bind fun (o_9 : Int32) => ((fX11_digestPhis_L36 p1n p1w p2 v6_11 n_36) ((v4_36 * (31 : Int64)) + ((o_9 : Int32).toInt64)) (v7_36 + 1))))))
def fX11_digestPhis_L11 (p1n : Nat → Nat) (p1w : ST) (p2 : Int32) : Nat → Int64 → Int32 → Option Int64
  | 0 => fun _ _ => none
  | n_11 + 1 => fun v4_11 v6_11 => (if v6_11 < 0 then some v4_11 else (if ixb v6_11 (p1n 19) = true then ((fX11_digestPhis_L36 p1n p1w p2 v6_11 NF ((v4_11 * (31 : Int64)) + (((p1w 19 (nn v6_11)) : Int32).toInt64)) 0).bind fun (o36 : Int64) => (if ixb v6_11 (p1n 20) = true then ((fX11_digestPhis_L11 p1n p1w p2 n_11) o36 (p1w 20 (nn v6_11))) else none)) else none))
def fX11_digestPhis (p0 : Int64) (p1n : Nat → Nat) (p1w : ST) (p2 : Int32) : Option Int64 := (if ixb p2 60 = true then ((fX11_digestPhis_L11 p1n p1w p2 NF p0 (p1w 6 (nn p2))).bind fun (o11 : Int64) => some o11) else none)
set_option maxHeartbeats 16000000 in
set_option maxRecDepth 100000 in
theorem kX11_digestPhis {zs : Nat × Nat} (l : Launch) (dC : Nat → ClassId) (dI : Nat → Nat → Nat) (p0 : Int64) (p1a : Nat → Nat) (p1k : Nat → ClassId) (p1n : Nat → Nat) (p1w : ST) (p1l : SL) (p2 : Int32) (sz : Nat) (o : Int64) (hrun : fX11_digestPhis p0 p1n p1w p2 = some o) : Met l yX11_digestPhis (wz yX11_digestPhis cX11_digestPhis 8 (Option.some Jvm.ClassFile.FieldType.long)) ({ frames := 1, cells := 0, slots := 0, locals := 22 } : Room) (va_Pc [.long p0, .ref (p1a 0), .int p2] (PRE zs dC dI (oX1 (p1a 0) p1a p1k p1n p1w p1l) (tX1 p1k) sz)) (va_Ql (fun (r : Int64) (_ : Unit) => r = o) (fun _ t => POST dC dI (oX1 (p1a 0) p1a p1k p1n p1w p1l) (tX1 p1k) (va_A (oX1 (p1a 0) p1a p1k p1n p1w p1l) sz) t) (va_A (oX1 (p1a 0) p1a p1k p1n p1w p1l) sz)) 0 0 (va_A (oX1 (p1a 0) p1a p1k p1n p1w p1l) sz) := by
  refine Met.ofW (cc := cX11_digestPhis) (maxL := 8) (ret := (Option.some Jvm.ClassFile.FieldType.long)) (by decide) rfl ?_
  intro p e s m args below meth c s₁ B hml hv
  obtain ⟨rfl, hsz, hP, hK, hD0, hE⟩ := hv
  have hx := B.exec
  have hb := B.bytes
  have hr := B.returns
  have hts0 := atoms_spec (ws := wz yX11_digestPhis cX11_digestPhis 8 (Option.some Jvm.ClassFile.FieldType.long)) B.pre
  have hts : ∀ w ∈ gw, w.before _ s = true := fun w h => hts0 w (List.mem_cons_of_mem _ h)
  have hown : s.vm.findClass RX11 = some m.cls := findClass_of_methodNamed B.named
  have hlocks := B.notSynchronized
  subst hsz
  have hD := hD0.self (sz := s.heap.size)
  refine gQ9 ?_
  intro Q hQ
  generalize hAe : va_A (oX1 (p1a 0) p1a p1k p1n p1w p1l) s.heap.size = A at hD hE hQ
  have hA : ∀ q : Nat, s.heap.size ≤ q → A q := fun q h => by rw [← hAe]; exact Or.inr h
  have hS : va_S A s.heap s.heap [] := va_S.rf
  have hP : va_P (dC, dI) cls (oX1 (p1a 0) p1a p1k p1n p1w p1l) s.heap := hP
  have hl := lv_entry ([.long p0, .ref (p1a 0), .int p2]) (n := 8) (Nat.le_of_ble_eq_true rfl)
  rw [lg_entry_eq]
  generalize (lg_sl ([.long p0, .ref (p1a 0), .int p2]) ++ List.replicate (8 - (lg_sl ([.long p0, .ref (p1a 0), .int p2])).length) Slot.unset).toArray = ls at hl ⊢
  have hl : lv_has ls 8 [(0, .long p0), (2, .ref (p1a 0)), (3, .int p2)] := hl
  obtain ⟨H, hHe⟩ : ∃ H, H = s.heap := ⟨_, rfl⟩
  obtain ⟨locs, hle⟩ : ∃ locs : List Loc, locs = [] := ⟨_, rfl⟩
  rw [← hHe] at hP
  have hS : va_S A s.heap H locs := by rw [hHe, hle]; exact hS
  show W p l e ({ frames := 1, cells := 0, slots := 0, locals := 22 } : Room) s m ([.long p0, .ref (p1a 0), .int p2] : List Value).toArray below meth c s.heap [] 0 0 Q (F0 m 0 ls [])
  rw [← hle]
  refine wH9 hHe ?_
  unfold fX11_digestPhis at hrun
  refine lv_lload_n hx hb dX11_digestPhis_0 rfl (lv_at hl 0 rfl) ?_
  refine lv_lstore (lv' := [(4, .long p0), (0, .long p0), (2, .ref (p1a 0)), (3, .int p2)]) hx hb dX11_digestPhis_1 hl (by decide) rfl (fun ls hl => ?_)
  refine lv_aload_n hx hb dX11_digestPhis_3 rfl (lv_at hl 2 rfl) ?_
  refine va_get (D := (dC, dI)) (ci := 4) (v := .ref (p1a 6)) (C := RX1) (T := TX1) (N := 21) hx hb hts i_X1 hown hK hP 0 rfl rfl 5 (by decide) (hts _ qw845) (fun _ h9 => h9) rfl dX11_digestPhis_4 ?_
  refine lv_iload_n hx hb dX11_digestPhis_7 rfl (lv_at hl 3 rfl) ?_
  obtain ⟨hq1, hrun⟩ := chk9 hrun
  refine va_iald hx hb hK hP 3 2 rfl rfl (ixb_in hq1) dX11_digestPhis_8 ?_
  refine lv_istore (lv' := [(6, .int (p1w 6 (nn p2))), (4, .long p0), (0, .long p0), (2, .ref (p1a 0)), (3, .int p2)]) hx hb dX11_digestPhis_9 hl (by decide) rfl (fun ls hl => ?_)
  have L11 : ∀ (n_11 : Nat) (v4_11 : Int64) (v6_11 : Int32) (o11 : Int64) (H : Heap) (locs : List Loc) (ls : Array Slot), (fX11_digestPhis_L11 p1n p1w p2 n_11) v4_11 v6_11 = some o11 → va_P (dC, dI) cls (oX1 (p1a 0) p1a p1k p1n p1w p1l) H → va_D A (oX1 (p1a 0) p1a p1k p1n p1w p1l) → va_S A s.heap H locs → lv_has ls 8 [(2, .ref (p1a 0)), (3, .int p2), (4, .long v4_11), (6, .int v6_11)] → (∀ (H : Heap) (locs : List Loc) (ls : Array Slot), va_P (dC, dI) cls (oX1 (p1a 0) p1a p1k p1n p1w p1l) H → va_D A (oX1 (p1a 0) p1a p1k p1n p1w p1l) → va_S A s.heap H locs → lv_has ls 8 [(4, .long o11)] → W p l e ({ frames := 1, cells := 0, slots := 0, locals := 22 } : Room) s m ([.long p0, .ref (p1a 0), .int p2] : List Value).toArray below meth c H locs 0 0 Q (F0 m 87 ls [])) → W p l e ({ frames := 1, cells := 0, slots := 0, locals := 22 } : Room) s m ([.long p0, .ref (p1a 0), .int p2] : List Value).toArray below meth c H locs 0 0 Q (F0 m 11 ls []) := by
    intro n_11
    induction n_11 with
    | zero => intro v4_11 v6_11 o11 H locs ls hrun; exact (no9 rfl hrun).elim
    | succ n_11 IH11 =>
      intro v4_11 v6_11 o11 H locs ls hrun hP hD hS hl hk11
      unfold fX11_digestPhis_L11 at hrun
      refine lv_iload hx hb dX11_digestPhis_11 (lv_at hl 3 rfl) ?_
      rcases br9 hrun with ⟨hc2, hrun⟩ | ⟨hc2, hrun⟩
      · refine lv_if_lt (tgt := 87) hx hb dX11_digestPhis_13 (by decide) (fun _ => ?_) (fun c => absurd hc2 c)
        obtain rfl := (Option.some.inj hrun)
        exact hk11 _ _ _ hP hD hS (lv_sub hl [2] rfl)
      · refine lv_if_lt (tgt := 87) hx hb dX11_digestPhis_13 (by decide) (fun c => absurd c hc2) (fun _ => ?_)
        refine lv_lload hx hb dX11_digestPhis_16 (lv_at hl 2 rfl) ?_
        refine lv_ldc2 (v := 31) hx hb hown (hts _ qw826) dX11_digestPhis_18 ?_
        refine lv_lmul hx hb dX11_digestPhis_21 ?_
        refine lv_aload_n hx hb dX11_digestPhis_22 rfl (lv_at hl 0 rfl) ?_
        refine va_get (D := (dC, dI)) (ci := 4) (v := .ref (p1a 19)) (C := RX1) (T := TX1) (N := 21) hx hb hts i_X1 hown hK hP 0 rfl rfl 18 (by decide) (hts _ qw846) (fun _ h9 => h9) rfl dX11_digestPhis_23 ?_
        refine lv_iload hx hb dX11_digestPhis_26 (lv_at hl 3 rfl) ?_
        obtain ⟨hq3, hrun⟩ := chk9 hrun
        refine va_iald hx hb hK hP 15 14 rfl rfl (ixb_in hq3) dX11_digestPhis_28 ?_
        refine lv_i2l (v := (((p1w 19 (nn v6_11)) : Int32).toInt64)) hx hb dX11_digestPhis_29 rfl ?_
        refine lv_ladd hx hb dX11_digestPhis_30 ?_
        refine lv_lstore (lv' := [(4, .long ((v4_11 * (31 : Int64)) + (((p1w 19 (nn v6_11)) : Int32).toInt64))), (2, .ref (p1a 0)), (3, .int p2), (6, .int v6_11)]) hx hb dX11_digestPhis_31 hl (by decide) rfl (fun ls hl => ?_)
        refine lv_iconst (v := 0) hx hb dX11_digestPhis_33 (by decide) ?_
        refine lv_istore (lv' := [(7, .int 0), (4, .long ((v4_11 * (31 : Int64)) + (((p1w 19 (nn v6_11)) : Int32).toInt64))), (2, .ref (p1a 0)), (3, .int p2), (6, .int v6_11)]) hx hb dX11_digestPhis_34 hl (by decide) rfl (fun ls hl => ?_)
        have L36 : ∀ (n_36 : Nat) (v4_36 : Int64) (v7_36 : Int32) (o36 : Int64) (H : Heap) (locs : List Loc) (ls : Array Slot), (fX11_digestPhis_L36 p1n p1w p2 v6_11 n_36) v4_36 v7_36 = some o36 → va_P (dC, dI) cls (oX1 (p1a 0) p1a p1k p1n p1w p1l) H → va_D A (oX1 (p1a 0) p1a p1k p1n p1w p1l) → va_S A s.heap H locs → lv_has ls 8 [(2, .ref (p1a 0)), (3, .int p2), (4, .long v4_36), (6, .int v6_11), (7, .int v7_36)] → (∀ (H : Heap) (locs : List Loc) (ls : Array Slot), va_P (dC, dI) cls (oX1 (p1a 0) p1a p1k p1n p1w p1l) H → va_D A (oX1 (p1a 0) p1a p1k p1n p1w p1l) → va_S A s.heap H locs → lv_has ls 8 [(2, .ref (p1a 0)), (3, .int p2), (4, .long o36), (6, .int v6_11)] → W p l e ({ frames := 1, cells := 0, slots := 0, locals := 22 } : Room) s m ([.long p0, .ref (p1a 0), .int p2] : List Value).toArray below meth c H locs 0 0 Q (F0 m 75 ls [])) → W p l e ({ frames := 1, cells := 0, slots := 0, locals := 22 } : Room) s m ([.long p0, .ref (p1a 0), .int p2] : List Value).toArray below meth c H locs 0 0 Q (F0 m 36 ls []) := by
          intro n_36
          induction n_36 with
          | zero => intro v4_36 v7_36 o36 H locs ls hrun; exact (no9 rfl hrun).elim
          | succ n_36 IH36 =>
            intro v4_36 v7_36 o36 H locs ls hrun hP hD hS hl hk36
            unfold fX11_digestPhis_L36 at hrun
            refine lv_iload hx hb dX11_digestPhis_36 (lv_at hl 4 rfl) ?_
            refine lv_aload_n hx hb dX11_digestPhis_38 rfl (lv_at hl 0 rfl) ?_
            refine lv_iload_n hx hb dX11_digestPhis_39 rfl (lv_at hl 1 rfl) ?_
            obtain ⟨o_4, hc_4, hrun⟩ := bnd9 hrun
            have hPc := hP.sub (ws' := (oX1 (p1a 0) p1a p1k p1n p1w p1l)) [0, 1, 2, 3, 4, 5, 6, 7, 8, 9, 10, 11, 12, 13, 14, 15, 16, 17] rfl
            have hDc := hD.sub (ws' := (oX1 (p1a 0) p1a p1k p1n p1w p1l)) [0, 1, 2, 3, 4, 5, 6, 7, 8, 9, 10, 11, 12, 13, 14, 15, 16, 17] (by decide) rfl
            have hKc := hK.sub (tys' := (tX1 p1k)) [0, 1, 2, 3, 4, 5, 6, 7, 8, 9, 10, 11, 12, 13, 14, 15, 16] rfl
            have hFc := va_free (wc := (oX1 (p1a 0) p1a p1k p1n p1w p1l)) hD hS hA [0, 1, 2, 3, 4, 5, 6, 7, 8, 9, 10, 11, 12, 13, 14, 15, 16, 17] rfl
            refine va_calli (va_runV (As := [.int p2]) (rest := [.int v7_36]) ⟨hx, hb, hml, hown, hts⟩ (kX1_waysTo l dC dI (p0a := (st0 (p1a 0) p1a)) (p0k := p1k) (p0n := p1n) (p0w := p1w) (p0l := p1l) (p1 := p2) (sz := _) (o := o_4) (hrun := hc_4)) (cwV 1 hts (gi_V qw843 qw151 qw152 qw113 (gi_z qw149)) rfl rfl rfl (by decide +kernel) ⟨Nat.le_of_ble_eq_true rfl, Nat.le_of_ble_eq_true rfl⟩) ⟨PRE.blind, va_recv hKc hPc (ci := 4) (q0 := 0) rfl rfl, PRE.of hE hS hFc hPc hKc hDc⟩ rfl rfl hl.1 rfl (lv_room (Nat.le_of_ble_eq_true rfl)) dX11_digestPhis_40 ⟨Nat.le_of_ble_eq_true rfl, Nat.le_of_ble_eq_true rfl⟩) hS (fun q _ h => hFc q h) hFc (fun r5 u t H locs ht hvm hw hB hz1 hk1 hS => ?_)
            obtain ⟨hP, hD, hK⟩ := JOIN (wr := ([] : va_W)) hP hD hK [0, 1, 2, 3, 4, 5, 6, 7, 8, 9, 10, 11, 12, 13, 14, 15, 16, 17] [] [] rfl rfl (by decide) (by decide) rfl hk1 hFc ht hvm hB
            have hP : va_P (dC, dI) cls (oX1 (p1a 0) p1a p1k p1n p1w p1l) H := hP.sub [0, 1, 2, 3, 4, 5, 6, 7, 8, 9, 10, 11, 12, 13, 14, 15, 16, 17] rfl
            have hD : va_D A (oX1 (p1a 0) p1a p1k p1n p1w p1l) := hD.sub [0, 1, 2, 3, 4, 5, 6, 7, 8, 9, 10, 11, 12, 13, 14, 15, 16, 17] (by decide) rfl
            have hK : va_K (dC, dI) cls (tX1 p1k) s := hK.sub [0, 1, 2, 3, 4, 5, 6, 7, 8, 9, 10, 11, 12, 13, 14, 15, 16] rfl
            obtain rfl : o_4 = r5 := hw.symm
            rcases br9 hrun with ⟨hc6, hrun⟩ | ⟨hc6, hrun⟩
            · refine lv_icmp_ge (tgt := 75) hx hb dX11_digestPhis_43 (by decide) (fun _ => ?_) (fun c => absurd hc6 c)
              obtain rfl := (Option.some.inj hrun)
              exact hk36 _ _ _ hP hD hS (lv_sub hl [0, 1, 2, 3] rfl)
            · refine lv_icmp_ge (tgt := 75) hx hb dX11_digestPhis_43 (by decide) (fun c => absurd c hc6) (fun _ => ?_)
              refine lv_lload hx hb dX11_digestPhis_46 (lv_at hl 2 rfl) ?_
              refine lv_ldc2 (v := 31) hx hb hown (hts _ qw826) dX11_digestPhis_48 ?_
              refine lv_lmul hx hb dX11_digestPhis_51 ?_
              refine lv_aload_n hx hb dX11_digestPhis_52 rfl (lv_at hl 0 rfl) ?_
              refine lv_iload hx hb dX11_digestPhis_53 (lv_at hl 3 rfl) ?_
              refine lv_aload_n hx hb dX11_digestPhis_55 rfl (lv_at hl 0 rfl) ?_
              refine lv_iload_n hx hb dX11_digestPhis_56 rfl (lv_at hl 1 rfl) ?_
              refine lv_iload hx hb dX11_digestPhis_57 (lv_at hl 4 rfl) ?_
              obtain ⟨o_7, hc_7, hrun⟩ := bnd9 hrun
              have hPc := hP.sub (ws' := (oX1 (p1a 0) p1a p1k p1n p1w p1l)) [0, 1, 2, 3, 4, 5, 6, 7, 8, 9, 10, 11, 12, 13, 14, 15, 16, 17] rfl
              have hDc := hD.sub (ws' := (oX1 (p1a 0) p1a p1k p1n p1w p1l)) [0, 1, 2, 3, 4, 5, 6, 7, 8, 9, 10, 11, 12, 13, 14, 15, 16, 17] (by decide) rfl
              have hKc := hK.sub (tys' := (tX1 p1k)) [0, 1, 2, 3, 4, 5, 6, 7, 8, 9, 10, 11, 12, 13, 14, 15, 16] rfl
              have hFc := va_free (wc := (oX1 (p1a 0) p1a p1k p1n p1w p1l)) hD hS hA [0, 1, 2, 3, 4, 5, 6, 7, 8, 9, 10, 11, 12, 13, 14, 15, 16, 17] rfl
              refine va_calli (va_runV (As := [.int p2, .int v7_36]) (rest := [.int v6_11, .ref (p1a 0), .long (v4_36 * (31 : Int64))]) ⟨hx, hb, hml, hown, hts⟩ (kX1_wayFrom l dC dI (p0a := (st0 (p1a 0) p1a)) (p0k := p1k) (p0n := p1n) (p0w := p1w) (p0l := p1l) (p1 := p2) (p2 := v7_36) (sz := _) (o := o_7) (hrun := hc_7)) (cwV 2 hts (gi_V qw844 qw155 qw156 qw113 (gi_z qw153)) rfl rfl rfl (by decide +kernel) ⟨Nat.le_of_ble_eq_true rfl, Nat.le_of_ble_eq_true rfl⟩) ⟨PRE.blind, va_recv hKc hPc (ci := 4) (q0 := 0) rfl rfl, PRE.of hE hS hFc hPc hKc hDc⟩ rfl rfl hl.1 rfl (lv_room (Nat.le_of_ble_eq_true rfl)) dX11_digestPhis_59 ⟨Nat.le_of_ble_eq_true rfl, Nat.le_of_ble_eq_true rfl⟩) hS (fun q _ h => hFc q h) hFc (fun r8 u t H locs ht hvm hw hB hz1 hk1 hS => ?_)
              obtain ⟨hP, hD, hK⟩ := JOIN (wr := ([] : va_W)) hP hD hK [0, 1, 2, 3, 4, 5, 6, 7, 8, 9, 10, 11, 12, 13, 14, 15, 16, 17] [] [] rfl rfl (by decide) (by decide) rfl hk1 hFc ht hvm hB
              have hP : va_P (dC, dI) cls (oX1 (p1a 0) p1a p1k p1n p1w p1l) H := hP.sub [0, 1, 2, 3, 4, 5, 6, 7, 8, 9, 10, 11, 12, 13, 14, 15, 16, 17] rfl
              have hD : va_D A (oX1 (p1a 0) p1a p1k p1n p1w p1l) := hD.sub [0, 1, 2, 3, 4, 5, 6, 7, 8, 9, 10, 11, 12, 13, 14, 15, 16, 17] (by decide) rfl
              have hK : va_K (dC, dI) cls (tX1 p1k) s := hK.sub [0, 1, 2, 3, 4, 5, 6, 7, 8, 9, 10, 11, 12, 13, 14, 15, 16] rfl
              obtain rfl : o_7 = r8 := hw.symm
              obtain ⟨o_9, hc_9, hrun⟩ := bnd9 hrun
              have hPc := hP.sub (ws' := (oX1 (p1a 0) p1a p1k p1n p1w p1l)) [0, 1, 2, 3, 4, 5, 6, 7, 8, 9, 10, 11, 12, 13, 14, 15, 16, 17] rfl
              have hDc := hD.sub (ws' := (oX1 (p1a 0) p1a p1k p1n p1w p1l)) [0, 1, 2, 3, 4, 5, 6, 7, 8, 9, 10, 11, 12, 13, 14, 15, 16, 17] (by decide) rfl
              have hKc := hK.sub (tys' := (tX1 p1k)) [0, 1, 2, 3, 4, 5, 6, 7, 8, 9, 10, 11, 12, 13, 14, 15, 16] rfl
              have hFc := va_free (wc := (oX1 (p1a 0) p1a p1k p1n p1w p1l)) hD hS hA [0, 1, 2, 3, 4, 5, 6, 7, 8, 9, 10, 11, 12, 13, 14, 15, 16, 17] rfl
              refine va_calli (va_runV (As := [.int v6_11, .int o_7]) (rest := [.long (v4_36 * (31 : Int64))]) ⟨hx, hb, hml, hown, hts⟩ (kX1_take l dC dI (p0a := (st0 (p1a 0) p1a)) (p0k := p1k) (p0n := p1n) (p0w := p1w) (p0l := p1l) (p1 := v6_11) (p2 := o_7) (sz := _) (o := o_9) (hrun := hc_9)) (cwV 2 hts (gi_V qw847 qw418 qw419 qw113 (gi_z qw416)) rfl rfl rfl (by decide +kernel) ⟨Nat.le_of_ble_eq_true rfl, Nat.le_of_ble_eq_true rfl⟩) ⟨PRE.blind, va_recv hKc hPc (ci := 4) (q0 := 0) rfl rfl, PRE.of hE hS hFc hPc hKc hDc⟩ rfl rfl hl.1 rfl (lv_room (Nat.le_of_ble_eq_true rfl)) dX11_digestPhis_62 ⟨Nat.le_of_ble_eq_true rfl, Nat.le_of_ble_eq_true rfl⟩) hS (fun q _ h => hFc q h) hFc (fun r10 u t H locs ht hvm hw hB hz1 hk1 hS => ?_)
              obtain ⟨hP, hD, hK⟩ := JOIN (wr := ([] : va_W)) hP hD hK [0, 1, 2, 3, 4, 5, 6, 7, 8, 9, 10, 11, 12, 13, 14, 15, 16, 17] [] [] rfl rfl (by decide) (by decide) rfl hk1 hFc ht hvm hB
              have hP : va_P (dC, dI) cls (oX1 (p1a 0) p1a p1k p1n p1w p1l) H := hP.sub [0, 1, 2, 3, 4, 5, 6, 7, 8, 9, 10, 11, 12, 13, 14, 15, 16, 17] rfl
              have hD : va_D A (oX1 (p1a 0) p1a p1k p1n p1w p1l) := hD.sub [0, 1, 2, 3, 4, 5, 6, 7, 8, 9, 10, 11, 12, 13, 14, 15, 16, 17] (by decide) rfl
              have hK : va_K (dC, dI) cls (tX1 p1k) s := hK.sub [0, 1, 2, 3, 4, 5, 6, 7, 8, 9, 10, 11, 12, 13, 14, 15, 16] rfl
              obtain rfl : o_9 = r10 := hw.symm
              refine lv_i2l (v := ((o_9 : Int32).toInt64)) hx hb dX11_digestPhis_65 rfl ?_
              refine lv_ladd hx hb dX11_digestPhis_66 ?_
              refine lv_lstore (lv' := [(4, .long ((v4_36 * (31 : Int64)) + ((o_9 : Int32).toInt64))), (2, .ref (p1a 0)), (3, .int p2), (6, .int v6_11), (7, .int v7_36)]) hx hb dX11_digestPhis_67 hl (by decide) rfl (fun ls hl => ?_)
              refine lv_iinc (v := (v7_36 + 1)) (lv' := [(7, .int (v7_36 + 1)), (4, .long ((v4_36 * (31 : Int64)) + ((o_9 : Int32).toInt64))), (2, .ref (p1a 0)), (3, .int p2), (6, .int v6_11)]) hx hb dX11_digestPhis_69 hl (k := 4) rfl rfl (by decide) rfl (fun ls hl => ?_)
              refine lv_goto (tgt := 36) hx hb dX11_digestPhis_72 (by decide) ?_
              exact IH36 ((v4_36 * (31 : Int64)) + ((o_9 : Int32).toInt64)) (v7_36 + 1) o36 _ _ _ hrun hP hD hS (lv_sub hl [2, 3, 1, 4, 0] rfl) hk36
        obtain ⟨o36, hc36, hrun⟩ := bnd9 hrun
        refine L36 NF ((v4_11 * (31 : Int64)) + (((p1w 19 (nn v6_11)) : Int32).toInt64)) 0 o36 _ _ _ hc36 hP hD hS (lv_sub hl [2, 3, 1, 4, 0] rfl) ?_
        intro H locs ls hP hD hS hl
        have hl := hl
        refine lv_aload_n hx hb dX11_digestPhis_75 rfl (lv_at hl 0 rfl) ?_
        refine va_get (D := (dC, dI)) (ci := 4) (v := .ref (p1a 20)) (C := RX1) (T := TX1) (N := 21) hx hb hts i_X1 hown hK hP 0 rfl rfl 19 (by decide) (hts _ qw848) (fun _ h9 => h9) rfl dX11_digestPhis_76 ?_
        refine lv_iload hx hb dX11_digestPhis_79 (lv_at hl 3 rfl) ?_
        obtain ⟨hq11, hrun⟩ := chk9 hrun
        refine va_iald hx hb hK hP 16 15 rfl rfl (ixb_in hq11) dX11_digestPhis_81 ?_
        refine lv_istore (lv' := [(6, .int (p1w 20 (nn v6_11))), (2, .ref (p1a 0)), (3, .int p2), (4, .long o36)]) hx hb dX11_digestPhis_82 hl (by decide) rfl (fun ls hl => ?_)
        refine lv_goto (tgt := 11) hx hb dX11_digestPhis_84 (by decide) ?_
        exact IH11 o36 (p1w 20 (nn v6_11)) o11 _ _ _ hrun hP hD hS (lv_sub hl [1, 2, 3, 0] rfl) hk11
  obtain ⟨o11, hc11, hrun⟩ := bnd9 hrun
  refine L11 NF p0 (p1w 6 (nn p2)) o11 _ _ _ hc11 hP hD hS (lv_sub hl [3, 4, 1, 0] rfl) ?_
  intro H locs ls hP hD hS hl
  have hl := hl
  refine lv_lload hx hb dX11_digestPhis_87 (lv_at hl 0 rfl) ?_
  have ho9 : o11 = o := Option.some.inj hrun
  have hP9 : va_P (dC, dI) cls (oX1 (p1a 0) p1a p1k p1n p1w p1l) H := by first | exact hP | (rw [← ho9]; exact hP)
  have hD9 : va_D A (oX1 (p1a 0) p1a p1k p1n p1w p1l) := by first | exact hD | (rw [← ho9]; exact hD)
  subst hQ
  exact W.lret (v := o11) hx hb hr (fun t ht hW => ⟨⟨o11, (), rfl, (by rw [← ho9]), ⟨by rw [ht]; exact hP9, va_K.moved hW.alike hK, hD9⟩⟩, hS.F ht⟩) hS.2.2 dX11_digestPhis_89
def fX11_digestStep (p0 : Int64) (p1n : Nat → Nat) (p1w : ST) (p2 : Int32) : Option Int64 := (if ixb p2 (p1n 2) = true then (if ixb p2 (p1n 3) = true then (if ixb p2 (p1n 4) = true then (if ixb p2 (p1n 5) = true then some ((((((((p0 * (31 : Int64)) + (((p1w 2 (nn p2)) : Int32).toInt64)) * (31 : Int64)) + (((p1w 3 (nn p2)) : Int32).toInt64)) * (31 : Int64)) + (((p1w 4 (nn p2)) : Int32).toInt64)) * (31 : Int64)) + (((p1w 5 (nn p2)) : Int32).toInt64)) else none) else none) else none) else none)
set_option maxHeartbeats 16000000 in
set_option maxRecDepth 100000 in
theorem kX11_digestStep {zs : Nat × Nat} (l : Launch) (dC : Nat → ClassId) (dI : Nat → Nat → Nat) (p0 : Int64) (p1a : Nat → Nat) (p1k : Nat → ClassId) (p1n : Nat → Nat) (p1w : ST) (p2 : Int32) (sz : Nat) (o : Int64) (hrun : fX11_digestStep p0 p1n p1w p2 = some o) : Met l yX11_digestStep (wz yX11_digestStep cX11_digestStep 6 (Option.some Jvm.ClassFile.FieldType.long)) ({ frames := 0, cells := 0, slots := 0, locals := 0 } : Room) (va_Pc [.long p0, .ref (p1a 0), .int p2] (PRE zs dC dI (oX9 (p1a 0) p1a p1k p1n p1w) (tX9 p1k) sz)) (va_Ql (fun (r : Int64) (_ : Unit) => r = o) (fun _ t => POST dC dI (oX9 (p1a 0) p1a p1k p1n p1w) (tX9 p1k) (va_A (oX9 (p1a 0) p1a p1k p1n p1w) sz) t) (va_A (oX9 (p1a 0) p1a p1k p1n p1w) sz)) 0 0 (va_A (oX9 (p1a 0) p1a p1k p1n p1w) sz) := by
  refine Met.ofW (cc := cX11_digestStep) (maxL := 6) (ret := (Option.some Jvm.ClassFile.FieldType.long)) (by decide) rfl ?_
  intro p e s m args below meth c s₁ B hml hv
  obtain ⟨rfl, hsz, hP, hK, hD0, hE⟩ := hv
  have hx := B.exec
  have hb := B.bytes
  have hr := B.returns
  have hts0 := atoms_spec (ws := wz yX11_digestStep cX11_digestStep 6 (Option.some Jvm.ClassFile.FieldType.long)) B.pre
  have hts : ∀ w ∈ gw, w.before _ s = true := fun w h => hts0 w (List.mem_cons_of_mem _ h)
  have hown : s.vm.findClass RX11 = some m.cls := findClass_of_methodNamed B.named
  have hlocks := B.notSynchronized
  subst hsz
  have hD := hD0.self (sz := s.heap.size)
  refine gQ9 ?_
  intro Q hQ
  generalize hAe : va_A (oX9 (p1a 0) p1a p1k p1n p1w) s.heap.size = A at hD hE hQ
  have hA : ∀ q : Nat, s.heap.size ≤ q → A q := fun q h => by rw [← hAe]; exact Or.inr h
  have hS : va_S A s.heap s.heap [] := va_S.rf
  have hP : va_P (dC, dI) cls (oX9 (p1a 0) p1a p1k p1n p1w) s.heap := hP
  have hl := lv_entry ([.long p0, .ref (p1a 0), .int p2]) (n := 6) (Nat.le_of_ble_eq_true rfl)
  rw [lg_entry_eq]
  generalize (lg_sl ([.long p0, .ref (p1a 0), .int p2]) ++ List.replicate (6 - (lg_sl ([.long p0, .ref (p1a 0), .int p2])).length) Slot.unset).toArray = ls at hl ⊢
  have hl : lv_has ls 6 [(0, .long p0), (2, .ref (p1a 0)), (3, .int p2)] := hl
  obtain ⟨H, hHe⟩ : ∃ H, H = s.heap := ⟨_, rfl⟩
  obtain ⟨locs, hle⟩ : ∃ locs : List Loc, locs = [] := ⟨_, rfl⟩
  rw [← hHe] at hP
  have hS : va_S A s.heap H locs := by rw [hHe, hle]; exact hS
  show W p l e ({ frames := 0, cells := 0, slots := 0, locals := 0 } : Room) s m ([.long p0, .ref (p1a 0), .int p2] : List Value).toArray below meth c s.heap [] 0 0 Q (F0 m 0 ls [])
  rw [← hle]
  refine wH9 hHe ?_
  unfold fX11_digestStep at hrun
  refine lv_lload_n hx hb dX11_digestStep_0 rfl (lv_at hl 0 rfl) ?_
  refine lv_lstore (lv' := [(4, .long p0), (0, .long p0), (2, .ref (p1a 0)), (3, .int p2)]) hx hb dX11_digestStep_1 hl (by decide) rfl (fun ls hl => ?_)
  refine lv_lload hx hb dX11_digestStep_3 (lv_at hl 0 rfl) ?_
  refine lv_ldc2 (v := 31) hx hb hown (hts _ qw826) dX11_digestStep_5 ?_
  refine lv_lmul hx hb dX11_digestStep_8 ?_
  refine lv_aload_n hx hb dX11_digestStep_9 rfl (lv_at hl 2 rfl) ?_
  refine va_get (D := (dC, dI)) (ci := 3) (v := .ref (p1a 2)) (C := RX9) (T := TX9) (N := 6) hx hb hts i_X9 hown hK hP 0 rfl rfl 1 (by decide) (hts _ qw849) (fun _ h9 => h9) rfl dX11_digestStep_10 ?_
  refine lv_iload_n hx hb dX11_digestStep_13 rfl (lv_at hl 3 rfl) ?_
  obtain ⟨hq1, hrun⟩ := chk9 hrun
  refine va_iald hx hb hK hP 1 0 rfl rfl (ixb_in hq1) dX11_digestStep_14 ?_
  refine lv_i2l (v := (((p1w 2 (nn p2)) : Int32).toInt64)) hx hb dX11_digestStep_15 rfl ?_
  refine lv_ladd hx hb dX11_digestStep_16 ?_
  refine lv_lstore (lv' := [(4, .long ((p0 * (31 : Int64)) + (((p1w 2 (nn p2)) : Int32).toInt64))), (0, .long p0), (2, .ref (p1a 0)), (3, .int p2)]) hx hb dX11_digestStep_17 hl (by decide) rfl (fun ls hl => ?_)
  refine lv_lload hx hb dX11_digestStep_19 (lv_at hl 0 rfl) ?_
  refine lv_ldc2 (v := 31) hx hb hown (hts _ qw826) dX11_digestStep_21 ?_
  refine lv_lmul hx hb dX11_digestStep_24 ?_
  refine lv_aload_n hx hb dX11_digestStep_25 rfl (lv_at hl 2 rfl) ?_
  refine va_get (D := (dC, dI)) (ci := 3) (v := .ref (p1a 3)) (C := RX9) (T := TX9) (N := 6) hx hb hts i_X9 hown hK hP 0 rfl rfl 2 (by decide) (hts _ qw850) (fun _ h9 => h9) rfl dX11_digestStep_26 ?_
  refine lv_iload_n hx hb dX11_digestStep_29 rfl (lv_at hl 3 rfl) ?_
  obtain ⟨hq2, hrun⟩ := chk9 hrun
  refine va_iald hx hb hK hP 2 1 rfl rfl (ixb_in hq2) dX11_digestStep_30 ?_
  refine lv_i2l (v := (((p1w 3 (nn p2)) : Int32).toInt64)) hx hb dX11_digestStep_31 rfl ?_
  refine lv_ladd hx hb dX11_digestStep_32 ?_
  refine lv_lstore (lv' := [(4, .long ((((p0 * (31 : Int64)) + (((p1w 2 (nn p2)) : Int32).toInt64)) * (31 : Int64)) + (((p1w 3 (nn p2)) : Int32).toInt64))), (0, .long p0), (2, .ref (p1a 0)), (3, .int p2)]) hx hb dX11_digestStep_33 hl (by decide) rfl (fun ls hl => ?_)
  refine lv_lload hx hb dX11_digestStep_35 (lv_at hl 0 rfl) ?_
  refine lv_ldc2 (v := 31) hx hb hown (hts _ qw826) dX11_digestStep_37 ?_
  refine lv_lmul hx hb dX11_digestStep_40 ?_
  refine lv_aload_n hx hb dX11_digestStep_41 rfl (lv_at hl 2 rfl) ?_
  refine va_get (D := (dC, dI)) (ci := 3) (v := .ref (p1a 4)) (C := RX9) (T := TX9) (N := 6) hx hb hts i_X9 hown hK hP 0 rfl rfl 3 (by decide) (hts _ qw851) (fun _ h9 => h9) rfl dX11_digestStep_42 ?_
  refine lv_iload_n hx hb dX11_digestStep_45 rfl (lv_at hl 3 rfl) ?_
  obtain ⟨hq3, hrun⟩ := chk9 hrun
  refine va_iald hx hb hK hP 3 2 rfl rfl (ixb_in hq3) dX11_digestStep_46 ?_
  refine lv_i2l (v := (((p1w 4 (nn p2)) : Int32).toInt64)) hx hb dX11_digestStep_47 rfl ?_
  refine lv_ladd hx hb dX11_digestStep_48 ?_
  refine lv_lstore (lv' := [(4, .long ((((((p0 * (31 : Int64)) + (((p1w 2 (nn p2)) : Int32).toInt64)) * (31 : Int64)) + (((p1w 3 (nn p2)) : Int32).toInt64)) * (31 : Int64)) + (((p1w 4 (nn p2)) : Int32).toInt64))), (0, .long p0), (2, .ref (p1a 0)), (3, .int p2)]) hx hb dX11_digestStep_49 hl (by decide) rfl (fun ls hl => ?_)
  refine lv_lload hx hb dX11_digestStep_51 (lv_at hl 0 rfl) ?_
  refine lv_ldc2 (v := 31) hx hb hown (hts _ qw826) dX11_digestStep_53 ?_
  refine lv_lmul hx hb dX11_digestStep_56 ?_
  refine lv_aload_n hx hb dX11_digestStep_57 rfl (lv_at hl 2 rfl) ?_
  refine va_get (D := (dC, dI)) (ci := 3) (v := .ref (p1a 5)) (C := RX9) (T := TX9) (N := 6) hx hb hts i_X9 hown hK hP 0 rfl rfl 4 (by decide) (hts _ qw852) (fun _ h9 => h9) rfl dX11_digestStep_58 ?_
  refine lv_iload_n hx hb dX11_digestStep_61 rfl (lv_at hl 3 rfl) ?_
  obtain ⟨hq4, hrun⟩ := chk9 hrun
  refine va_iald hx hb hK hP 4 3 rfl rfl (ixb_in hq4) dX11_digestStep_62 ?_
  refine lv_i2l (v := (((p1w 5 (nn p2)) : Int32).toInt64)) hx hb dX11_digestStep_63 rfl ?_
  refine lv_ladd hx hb dX11_digestStep_64 ?_
  refine lv_lstore (lv' := [(4, .long ((((((((p0 * (31 : Int64)) + (((p1w 2 (nn p2)) : Int32).toInt64)) * (31 : Int64)) + (((p1w 3 (nn p2)) : Int32).toInt64)) * (31 : Int64)) + (((p1w 4 (nn p2)) : Int32).toInt64)) * (31 : Int64)) + (((p1w 5 (nn p2)) : Int32).toInt64))), (0, .long p0), (2, .ref (p1a 0)), (3, .int p2)]) hx hb dX11_digestStep_65 hl (by decide) rfl (fun ls hl => ?_)
  refine lv_lload hx hb dX11_digestStep_67 (lv_at hl 0 rfl) ?_
  have ho9 : ((((((((p0 * (31 : Int64)) + (((p1w 2 (nn p2)) : Int32).toInt64)) * (31 : Int64)) + (((p1w 3 (nn p2)) : Int32).toInt64)) * (31 : Int64)) + (((p1w 4 (nn p2)) : Int32).toInt64)) * (31 : Int64)) + (((p1w 5 (nn p2)) : Int32).toInt64)) = o := Option.some.inj hrun
  have hP9 : va_P (dC, dI) cls (oX9 (p1a 0) p1a p1k p1n p1w) H := by first | exact hP | (rw [← ho9]; exact hP)
  have hD9 : va_D A (oX9 (p1a 0) p1a p1k p1n p1w) := by first | exact hD | (rw [← ho9]; exact hD)
  subst hQ
  exact W.lret (v := ((((((((p0 * (31 : Int64)) + (((p1w 2 (nn p2)) : Int32).toInt64)) * (31 : Int64)) + (((p1w 3 (nn p2)) : Int32).toInt64)) * (31 : Int64)) + (((p1w 4 (nn p2)) : Int32).toInt64)) * (31 : Int64)) + (((p1w 5 (nn p2)) : Int32).toInt64))) hx hb hr (fun t ht hW => ⟨⟨((((((((p0 * (31 : Int64)) + (((p1w 2 (nn p2)) : Int32).toInt64)) * (31 : Int64)) + (((p1w 3 (nn p2)) : Int32).toInt64)) * (31 : Int64)) + (((p1w 4 (nn p2)) : Int32).toInt64)) * (31 : Int64)) + (((p1w 5 (nn p2)) : Int32).toInt64)), (), rfl, (by rw [← ho9]), ⟨by rw [ht]; exact hP9, va_K.moved hW.alike hK, hD9⟩⟩, hS.F ht⟩) hS.2.2 dX11_digestStep_69
def fX11_digestSteps_L11 (p1_2n : Nat → Nat) (p1_2w : ST) : Nat → Int64 → Int32 → Option Int64
  | 0 => fun _ _ => none
  | n_11 + 1 => fun v4_11 v6_11 => (if v6_11 < 0 then some v4_11 else ((fX11_digestStep v4_11 p1_2n p1_2w v6_11).bind fun (o_3 : Int64) => (if ixb v6_11 (p1_2n 6) = true then ((fX11_digestSteps_L11 p1_2n p1_2w n_11) o_3 (p1_2w 6 (nn v6_11))) else none)))
def fX11_digestSteps (p0 : Int64) (p1w : ST) (p2 : Int32) (p1_2n : Nat → Nat) (p1_2w : ST) : Option Int64 := (if ixb p2 60 = true then ((fX11_digestSteps_L11 p1_2n p1_2w NF p0 (p1w 4 (nn p2))).bind fun (o11 : Int64) => some o11) else none)
set_option maxHeartbeats 16000000 in
set_option maxRecDepth 100000 in
theorem kX11_digestSteps {zs : Nat × Nat} (l : Launch) (dC : Nat → ClassId) (dI : Nat → Nat → Nat) (p0 : Int64) (p1a : Nat → Nat) (p1k : Nat → ClassId) (p1n : Nat → Nat) (p1w : ST) (p1l : SL) (p2 : Int32) (p1_2a : Nat → Nat) (p1_2k : Nat → ClassId) (p1_2n : Nat → Nat) (p1_2w : ST) (sz : Nat) (o : Int64) (hrun : fX11_digestSteps p0 p1w p2 p1_2n p1_2w = some o) : Met l yX11_digestSteps (wz yX11_digestSteps cX11_digestSteps 7 (Option.some Jvm.ClassFile.FieldType.long)) ({ frames := 1, cells := 0, slots := 0, locals := 25 } : Room) (va_Pc [.long p0, .ref (p1a 0), .int p2] (PRE zs dC dI ((oX1 (p1a 0) p1a p1k p1n p1w p1l) ++ (oX9 (p1a 3) p1_2a p1_2k p1_2n p1_2w)) ((tX1 p1k) ++ (tX9 p1_2k)) sz)) (va_Ql (fun (r : Int64) (_ : Unit) => r = o) (fun _ t => POST dC dI ((oX1 (p1a 0) p1a p1k p1n p1w p1l) ++ (oX9 (p1a 3) p1_2a p1_2k p1_2n p1_2w)) ((tX1 p1k) ++ (tX9 p1_2k)) (va_A ((oX1 (p1a 0) p1a p1k p1n p1w p1l) ++ (oX9 (p1a 3) p1_2a p1_2k p1_2n p1_2w)) sz) t) (va_A ((oX1 (p1a 0) p1a p1k p1n p1w p1l) ++ (oX9 (p1a 3) p1_2a p1_2k p1_2n p1_2w)) sz)) 0 0 (va_A ((oX1 (p1a 0) p1a p1k p1n p1w p1l) ++ (oX9 (p1a 3) p1_2a p1_2k p1_2n p1_2w)) sz) := by
  refine Met.ofW (cc := cX11_digestSteps) (maxL := 7) (ret := (Option.some Jvm.ClassFile.FieldType.long)) (by decide) rfl ?_
  intro p e s m args below meth c s₁ B hml hv
  obtain ⟨rfl, hsz, hP, hK, hD0, hE⟩ := hv
  have hx := B.exec
  have hb := B.bytes
  have hr := B.returns
  have hts0 := atoms_spec (ws := wz yX11_digestSteps cX11_digestSteps 7 (Option.some Jvm.ClassFile.FieldType.long)) B.pre
  have hts : ∀ w ∈ gw, w.before _ s = true := fun w h => hts0 w (List.mem_cons_of_mem _ h)
  have hown : s.vm.findClass RX11 = some m.cls := findClass_of_methodNamed B.named
  have hlocks := B.notSynchronized
  subst hsz
  have hD := hD0.self (sz := s.heap.size)
  refine gQ9 ?_
  intro Q hQ
  generalize hAe : va_A ((oX1 (p1a 0) p1a p1k p1n p1w p1l) ++ (oX9 (p1a 3) p1_2a p1_2k p1_2n p1_2w)) s.heap.size = A at hD hE hQ
  have hA : ∀ q : Nat, s.heap.size ≤ q → A q := fun q h => by rw [← hAe]; exact Or.inr h
  have hS : va_S A s.heap s.heap [] := va_S.rf
  have hP : va_P (dC, dI) cls ((oX1 (p1a 0) p1a p1k p1n p1w p1l) ++ (oX9 (p1a 3) p1_2a p1_2k p1_2n p1_2w)) s.heap := hP
  have hl := lv_entry ([.long p0, .ref (p1a 0), .int p2]) (n := 7) (Nat.le_of_ble_eq_true rfl)
  rw [lg_entry_eq]
  generalize (lg_sl ([.long p0, .ref (p1a 0), .int p2]) ++ List.replicate (7 - (lg_sl ([.long p0, .ref (p1a 0), .int p2])).length) Slot.unset).toArray = ls at hl ⊢
  have hl : lv_has ls 7 [(0, .long p0), (2, .ref (p1a 0)), (3, .int p2)] := hl
  obtain ⟨H, hHe⟩ : ∃ H, H = s.heap := ⟨_, rfl⟩
  obtain ⟨locs, hle⟩ : ∃ locs : List Loc, locs = [] := ⟨_, rfl⟩
  rw [← hHe] at hP
  have hS : va_S A s.heap H locs := by rw [hHe, hle]; exact hS
  show W p l e ({ frames := 1, cells := 0, slots := 0, locals := 25 } : Room) s m ([.long p0, .ref (p1a 0), .int p2] : List Value).toArray below meth c s.heap [] 0 0 Q (F0 m 0 ls [])
  rw [← hle]
  refine wH9 hHe ?_
  unfold fX11_digestSteps at hrun
  refine lv_lload_n hx hb dX11_digestSteps_0 rfl (lv_at hl 0 rfl) ?_
  refine lv_lstore (lv' := [(4, .long p0), (0, .long p0), (2, .ref (p1a 0)), (3, .int p2)]) hx hb dX11_digestSteps_1 hl (by decide) rfl (fun ls hl => ?_)
  refine lv_aload_n hx hb dX11_digestSteps_3 rfl (lv_at hl 2 rfl) ?_
  refine va_get (D := (dC, dI)) (ci := 4) (v := .ref (p1a 4)) (C := RX1) (T := TX1) (N := 21) hx hb hts i_X1 hown hK hP 0 rfl rfl 3 (by decide) (hts _ qw853) (fun _ h9 => h9) rfl dX11_digestSteps_4 ?_
  refine lv_iload_n hx hb dX11_digestSteps_7 rfl (lv_at hl 3 rfl) ?_
  obtain ⟨hq1, hrun⟩ := chk9 hrun
  refine va_iald hx hb hK hP 1 0 rfl rfl (ixb_in hq1) dX11_digestSteps_8 ?_
  refine lv_istore (lv' := [(6, .int (p1w 4 (nn p2))), (4, .long p0), (0, .long p0), (2, .ref (p1a 0)), (3, .int p2)]) hx hb dX11_digestSteps_9 hl (by decide) rfl (fun ls hl => ?_)
  have L11 : ∀ (n_11 : Nat) (v4_11 : Int64) (v6_11 : Int32) (o11 : Int64) (H : Heap) (locs : List Loc) (ls : Array Slot), (fX11_digestSteps_L11 p1_2n p1_2w n_11) v4_11 v6_11 = some o11 → va_P (dC, dI) cls ((oX1 (p1a 0) p1a p1k p1n p1w p1l) ++ (oX9 (p1a 3) p1_2a p1_2k p1_2n p1_2w)) H → va_D A ((oX1 (p1a 0) p1a p1k p1n p1w p1l) ++ (oX9 (p1a 3) p1_2a p1_2k p1_2n p1_2w)) → va_S A s.heap H locs → lv_has ls 7 [(2, .ref (p1a 0)), (4, .long v4_11), (6, .int v6_11)] → (∀ (H : Heap) (locs : List Loc) (ls : Array Slot), va_P (dC, dI) cls ((oX1 (p1a 0) p1a p1k p1n p1w p1l) ++ (oX9 (p1a 3) p1_2a p1_2k p1_2n p1_2w)) H → va_D A ((oX1 (p1a 0) p1a p1k p1n p1w p1l) ++ (oX9 (p1a 3) p1_2a p1_2k p1_2n p1_2w)) → va_S A s.heap H locs → lv_has ls 7 [(4, .long o11)] → W p l e ({ frames := 1, cells := 0, slots := 0, locals := 25 } : Room) s m ([.long p0, .ref (p1a 0), .int p2] : List Value).toArray below meth c H locs 0 0 Q (F0 m 44 ls [])) → W p l e ({ frames := 1, cells := 0, slots := 0, locals := 25 } : Room) s m ([.long p0, .ref (p1a 0), .int p2] : List Value).toArray below meth c H locs 0 0 Q (F0 m 11 ls []) := by
    intro n_11
    induction n_11 with
    | zero => intro v4_11 v6_11 o11 H locs ls hrun; exact (no9 rfl hrun).elim
    | succ n_11 IH11 =>
      intro v4_11 v6_11 o11 H locs ls hrun hP hD hS hl hk11
      unfold fX11_digestSteps_L11 at hrun
      refine lv_iload hx hb dX11_digestSteps_11 (lv_at hl 2 rfl) ?_
      rcases br9 hrun with ⟨hc2, hrun⟩ | ⟨hc2, hrun⟩
      · refine lv_if_lt (tgt := 44) hx hb dX11_digestSteps_13 (by decide) (fun _ => ?_) (fun c => absurd hc2 c)
        obtain rfl := (Option.some.inj hrun)
        exact hk11 _ _ _ hP hD hS (lv_sub hl [1] rfl)
      · refine lv_if_lt (tgt := 44) hx hb dX11_digestSteps_13 (by decide) (fun c => absurd c hc2) (fun _ => ?_)
        refine lv_lload hx hb dX11_digestSteps_16 (lv_at hl 1 rfl) ?_
        refine lv_aload_n hx hb dX11_digestSteps_18 rfl (lv_at hl 0 rfl) ?_
        refine va_get (D := (dC, dI)) (ci := 4) (v := .ref (p1a 3)) (C := RX1) (T := TX1) (N := 21) hx hb hts i_X1 hown hK hP 0 rfl rfl 2 (by decide) (hts _ qw854) (fun _ h9 => h9) rfl dX11_digestSteps_19 ?_
        refine lv_iload hx hb dX11_digestSteps_22 (lv_at hl 2 rfl) ?_
        obtain ⟨o_3, hc_3, hrun⟩ := bnd9 hrun
        have hPc := hP.sub (ws' := (oX9 (p1a 3) p1_2a p1_2k p1_2n p1_2w)) [18, 19, 20, 21, 22, 23] rfl
        have hDc := hD.sub (ws' := (oX9 (p1a 3) p1_2a p1_2k p1_2n p1_2w)) [18, 19, 20, 21, 22, 23] (by decide) rfl
        have hKc := hK.sub (tys' := (tX9 p1_2k)) [17, 18, 19, 20, 21] rfl
        have hFc := va_free (wc := (oX9 (p1a 3) p1_2a p1_2k p1_2n p1_2w)) hD hS hA [18, 19, 20, 21, 22, 23] rfl
        refine va_calll (va_runS (As := [.long v4_11, .ref (p1a 3), .int v6_11]) (rest := []) ⟨hx, hb, hml, hown, hts⟩ (kX11_digestStep l dC dI (p0 := v4_11) (p1a := (st0 (p1a 3) p1_2a)) (p1k := p1_2k) (p1n := p1_2n) (p1w := p1_2w) (p2 := v6_11) (sz := _) (o := o_3) (hrun := hc_3)) (va_cwS 3 hts (gi_S qw856 qw857 qw159 (gi_z qw855)) rfl rfl rfl (by decide +kernel) ⟨Nat.le_of_ble_eq_true rfl, Nat.le_of_ble_eq_true rfl⟩) ⟨PRE.blind, PRE.of hE hS hFc hPc hKc hDc⟩ rfl rfl hl.1 rfl (lv_room (Nat.le_of_ble_eq_true rfl)) dX11_digestSteps_24 ⟨Nat.le_of_ble_eq_true rfl, Nat.le_of_ble_eq_true rfl⟩) hS (fun q _ h => hFc q h) hFc (fun r4 u t H locs ht hvm hw hB hz1 hk1 hS => ?_)
        obtain ⟨hP, hD, hK⟩ := JOIN (wr := (oX1 (p1a 0) p1a p1k p1n p1w p1l)) hP hD hK [18, 19, 20, 21, 22, 23] [0, 1, 2, 3, 4, 5, 6, 7, 8, 9, 10, 11, 12, 13, 14, 15, 16, 17] [0, 1, 2, 3, 4, 5, 6, 7, 8, 9, 10, 11, 12, 13, 14, 15, 16] rfl rfl (by decide) (by decide) rfl hk1 hFc ht hvm hB
        have hP : va_P (dC, dI) cls ((oX1 (p1a 0) p1a p1k p1n p1w p1l) ++ (oX9 (p1a 3) p1_2a p1_2k p1_2n p1_2w)) H := hP.sub [0, 1, 2, 3, 4, 5, 6, 7, 8, 9, 10, 11, 12, 13, 14, 15, 16, 17, 18, 19, 20, 21, 22, 23] rfl
        have hD : va_D A ((oX1 (p1a 0) p1a p1k p1n p1w p1l) ++ (oX9 (p1a 3) p1_2a p1_2k p1_2n p1_2w)) := hD.sub [0, 1, 2, 3, 4, 5, 6, 7, 8, 9, 10, 11, 12, 13, 14, 15, 16, 17, 18, 19, 20, 21, 22, 23] (by decide) rfl
        have hK : va_K (dC, dI) cls ((tX1 p1k) ++ (tX9 p1_2k)) s := hK.sub [0, 1, 2, 3, 4, 5, 6, 7, 8, 9, 10, 11, 12, 13, 14, 15, 16, 17, 18, 19, 20, 21] rfl
        obtain rfl : o_3 = r4 := hw.symm
        refine lv_lstore (lv' := [(4, .long o_3), (2, .ref (p1a 0)), (6, .int v6_11)]) hx hb dX11_digestSteps_27 hl (by decide) rfl (fun ls hl => ?_)
        refine lv_aload_n hx hb dX11_digestSteps_29 rfl (lv_at hl 1 rfl) ?_
        refine va_get (D := (dC, dI)) (ci := 4) (v := .ref (p1a 3)) (C := RX1) (T := TX1) (N := 21) hx hb hts i_X1 hown hK hP 0 rfl rfl 2 (by decide) (hts _ qw854) (fun _ h9 => h9) rfl dX11_digestSteps_30 ?_
        refine va_get (D := (dC, dI)) (ci := 3) (v := .ref (p1_2a 6)) (C := RX9) (T := TX9) (N := 6) hx hb hts i_X9 hown hK hP 18 rfl rfl 5 (by decide) (hts _ qw858) (fun _ h9 => h9) rfl dX11_digestSteps_33 ?_
        refine lv_iload hx hb dX11_digestSteps_36 (lv_at hl 2 rfl) ?_
        obtain ⟨hq5, hrun⟩ := chk9 hrun
        refine va_iald hx hb hK hP 23 21 rfl rfl (ixb_in hq5) dX11_digestSteps_38 ?_
        refine lv_istore (lv' := [(6, .int (p1_2w 6 (nn v6_11))), (4, .long o_3), (2, .ref (p1a 0))]) hx hb dX11_digestSteps_39 hl (by decide) rfl (fun ls hl => ?_)
        refine lv_goto (tgt := 11) hx hb dX11_digestSteps_41 (by decide) ?_
        exact IH11 o_3 (p1_2w 6 (nn v6_11)) o11 _ _ _ hrun hP hD hS (lv_sub hl [2, 1, 0] rfl) hk11
  obtain ⟨o11, hc11, hrun⟩ := bnd9 hrun
  refine L11 NF p0 (p1w 4 (nn p2)) o11 _ _ _ hc11 hP hD hS (lv_sub hl [3, 1, 0] rfl) ?_
  intro H locs ls hP hD hS hl
  have hl := hl
  refine lv_lload hx hb dX11_digestSteps_44 (lv_at hl 0 rfl) ?_
  have ho9 : o11 = o := Option.some.inj hrun
  have hP9 : va_P (dC, dI) cls ((oX1 (p1a 0) p1a p1k p1n p1w p1l) ++ (oX9 (p1a 3) p1_2a p1_2k p1_2n p1_2w)) H := by first | exact hP | (rw [← ho9]; exact hP)
  have hD9 : va_D A ((oX1 (p1a 0) p1a p1k p1n p1w p1l) ++ (oX9 (p1a 3) p1_2a p1_2k p1_2n p1_2w)) := by first | exact hD | (rw [← ho9]; exact hD)
  subst hQ
  exact W.lret (v := o11) hx hb hr (fun t ht hW => ⟨⟨o11, (), rfl, (by rw [← ho9]), ⟨by rw [ht]; exact hP9, va_K.moved hW.alike hK, hD9⟩⟩, hS.F ht⟩) hS.2.2 dX11_digestSteps_46
def fX11_feed (p1 : Int32) (p2 : Int32) (p3 : Int32) (p4 : Int32) (p5 : Int32) (p0_0w : ST) : Option (Int32 × ST) := (if ((p0_0w 0 1) + 20) ≤ 1200 then ((fX10_append p0_0w p1).bind fun (o_2 : ST) => ((fX10_append o_2 p2).bind fun (o_3 : ST) => ((fX10_append o_3 p3).bind fun (o_4 : ST) => ((fX10_append o_4 p4).bind fun (o_5 : ST) => ((fX10_append o_5 p5).bind fun (o_6 : ST) => some ((o_6 0 1), o_6)))))) else none)
set_option maxHeartbeats 16000000 in
set_option maxRecDepth 100000 in
theorem kX11_feed {zs : Nat × Nat} (l : Launch) (dC : Nat → ClassId) (dI : Nat → Nat → Nat) (p0a : Nat → Nat) (p0w : ST) (p1 : Int32) (p2 : Int32) (p3 : Int32) (p4 : Int32) (p5 : Int32) (p0_0a : Nat → Nat) (p0_0k : Nat → ClassId) (p0_0w : ST) (p0_0l : SL) (sz : Nat) (o : Int32 × ST) (hrun : fX11_feed p1 p2 p3 p4 p5 p0_0w = some o) : Met l yX11_feed (wz yX11_feed cX11_feed 6 (Option.some Jvm.ClassFile.FieldType.int)) ({ frames := 1, cells := 0, slots := 0, locals := 22 } : Room) (va_Pc [.ref (p0a 0), .int p1, .int p2, .int p3, .int p4, .int p5] (PRE zs dC dI ((oX11 (p0a 0) p0a p0w) ++ (oX10 (p0a 1) p0_0a p0_0k p0_0w p0_0l)) (tX10 p0_0k) sz)) (va_Qi (fun (r : Int32) (_ : Unit) => r = (o.1)) (fun _ t => POST dC dI ((oX11 (p0a 0) p0a p0w) ++ (oX10 (p0a 1) p0_0a p0_0k (o.2) p0_0l)) (tX10 p0_0k) (va_A ((oX11 (p0a 0) p0a p0w) ++ (oX10 (p0a 1) p0_0a p0_0k p0_0w p0_0l)) sz) t) (va_A ((oX11 (p0a 0) p0a p0w) ++ (oX10 (p0a 1) p0_0a p0_0k p0_0w p0_0l)) sz)) 0 0 (va_A ((oX11 (p0a 0) p0a p0w) ++ (oX10 (p0a 1) p0_0a p0_0k p0_0w p0_0l)) sz) := by
  refine Met.ofW (cc := cX11_feed) (maxL := 6) (ret := (Option.some Jvm.ClassFile.FieldType.int)) (by decide) rfl ?_
  intro p e s m args below meth c s₁ B hml hv
  obtain ⟨rfl, hsz, hP, hK, hD0, hE⟩ := hv
  have hx := B.exec
  have hb := B.bytes
  have hr := B.returns
  have hts0 := atoms_spec (ws := wz yX11_feed cX11_feed 6 (Option.some Jvm.ClassFile.FieldType.int)) B.pre
  have hts : ∀ w ∈ gw, w.before _ s = true := fun w h => hts0 w (List.mem_cons_of_mem _ h)
  have hown : s.vm.findClass RX11 = some m.cls := findClass_of_methodNamed B.named
  have hlocks := B.notSynchronized
  subst hsz
  have hD := hD0.self (sz := s.heap.size)
  refine gQ9 ?_
  intro Q hQ
  generalize hAe : va_A ((oX11 (p0a 0) p0a p0w) ++ (oX10 (p0a 1) p0_0a p0_0k p0_0w p0_0l)) s.heap.size = A at hD hE hQ
  have hA : ∀ q : Nat, s.heap.size ≤ q → A q := fun q h => by rw [← hAe]; exact Or.inr h
  have hS : va_S A s.heap s.heap [] := va_S.rf
  have hP : va_P (dC, dI) cls ((oX11 (p0a 0) p0a p0w) ++ (oX10 (p0a 1) p0_0a p0_0k p0_0w p0_0l)) s.heap := hP
  have hl := lv_entry ([.ref (p0a 0), .int p1, .int p2, .int p3, .int p4, .int p5]) (n := 6) (Nat.le_of_ble_eq_true rfl)
  rw [lg_entry_eq]
  generalize (lg_sl ([.ref (p0a 0), .int p1, .int p2, .int p3, .int p4, .int p5]) ++ List.replicate (6 - (lg_sl ([.ref (p0a 0), .int p1, .int p2, .int p3, .int p4, .int p5])).length) Slot.unset).toArray = ls at hl ⊢
  have hl : lv_has ls 6 [(0, .ref (p0a 0)), (1, .int p1), (2, .int p2), (3, .int p3), (4, .int p4), (5, .int p5)] := hl
  obtain ⟨H, hHe⟩ : ∃ H, H = s.heap := ⟨_, rfl⟩
  obtain ⟨locs, hle⟩ : ∃ locs : List Loc, locs = [] := ⟨_, rfl⟩
  rw [← hHe] at hP
  have hS : va_S A s.heap H locs := by rw [hHe, hle]; exact hS
  show W p l e ({ frames := 1, cells := 0, slots := 0, locals := 22 } : Room) s m ([.ref (p0a 0), .int p1, .int p2, .int p3, .int p4, .int p5] : List Value).toArray below meth c s.heap [] 0 0 Q (F0 m 0 ls [])
  rw [← hle]
  refine wH9 hHe ?_
  unfold fX11_feed at hrun
  refine lv_aload_n hx hb dX11_feed_0 rfl (lv_at hl 0 rfl) ?_
  refine va_get (D := (dC, dI)) (ci := 11) (v := .ref (p0a 1)) (C := RX11) (T := TX11) (N := 11) hx hb hts i_X11 hown hK hP 0 rfl rfl 0 (by decide) (hts _ qw860) (fun _ h9 => h9) rfl dX11_feed_1 ?_
  refine va_get (D := (dC, dI)) (ci := 0) (v := .int (p0_0w 0 1)) (C := RX10) (T := TX10) (N := 8) hx hb hts i_X10 hown hK hP 1 rfl rfl 1 (by decide) (hts _ qw861) (fun _ h9 => h9) rfl dX11_feed_4 ?_
  refine lv_bipush (v := 20) hx hb dX11_feed_7 (by decide) ?_
  refine lv_iadd hx hb dX11_feed_9 ?_
  refine lv_sipush (v := 1200) hx hb dX11_feed_10 (by decide) ?_
  rcases br9 hrun with ⟨hc1, hrun⟩ | ⟨hc1, hrun⟩
  · refine lv_icmp_le (tgt := 26) hx hb dX11_feed_13 (by decide) (fun _ => ?_) (fun c => absurd hc1 c)
    refine lv_aload_n hx hb dX11_feed_26 rfl (lv_at hl 0 rfl) ?_
    refine va_get (D := (dC, dI)) (ci := 11) (v := .ref (p0a 1)) (C := RX11) (T := TX11) (N := 11) hx hb hts i_X11 hown hK hP 0 rfl rfl 0 (by decide) (hts _ qw860) (fun _ h9 => h9) rfl dX11_feed_27 ?_
    refine lv_iload_n hx hb dX11_feed_30 rfl (lv_at hl 1 rfl) ?_
    obtain ⟨o_2, hc_2, hrun⟩ := bnd9 hrun
    have hPc := hP.sub (ws' := (oX10 (p0a 1) p0_0a p0_0k p0_0w p0_0l)) [1, 2] rfl
    have hDc := hD.sub (ws' := (oX10 (p0a 1) p0_0a p0_0k p0_0w p0_0l)) [1, 2] (by decide) rfl
    have hKc := hK.sub (tys' := (tX10 p0_0k)) [0] rfl
    have hFc := va_free (wc := (oX10 (p0a 1) p0_0a p0_0k p0_0w p0_0l)) hD hS hA [1, 2] rfl
    refine va_callv (va_runV (As := [.int p1]) (rest := []) ⟨hx, hb, hml, hown, hts⟩ (kX10_append l dC dI (p0a := (st0 (p0a 1) p0_0a)) (p0k := p0_0k) (p0w := p0_0w) (p0l := p0_0l) (p1 := p1) (sz := _) (o := o_2) (hrun := hc_2)) (cwV 1 hts (gi_V qw863 qw864 qw865 qw8 (gi_z qw862)) rfl rfl rfl (by decide +kernel) ⟨Nat.le_of_ble_eq_true rfl, Nat.le_of_ble_eq_true rfl⟩) ⟨PRE.blind, va_recv hKc hPc (ci := 0) (q0 := 0) rfl rfl, PRE.of hE hS hFc hPc hKc hDc⟩ rfl rfl hl.1 rfl (lv_room (Nat.le_of_ble_eq_true rfl)) dX11_feed_31 ⟨Nat.le_of_ble_eq_true rfl, Nat.le_of_ble_eq_true rfl⟩) hS (fun q _ h => hFc q h) hFc (fun u t H locs ht hvm hw hB hz1 hk1 hS => ?_)
    obtain ⟨hP, hD, hK⟩ := JOIN (wr := (oX11 (p0a 0) p0a p0w)) hP hD hK [1, 2] [0] [] rfl rfl (by decide) (by decide) rfl hk1 hFc ht hvm hB
    have hP : va_P (dC, dI) cls ((oX11 (p0a 0) p0a p0w) ++ (oX10 (p0a 1) p0_0a p0_0k o_2 p0_0l)) H := hP.sub [0, 1, 2] rfl
    have hD : va_D A ((oX11 (p0a 0) p0a p0w) ++ (oX10 (p0a 1) p0_0a p0_0k o_2 p0_0l)) := hD.sub [0, 1, 2] (by decide) rfl
    have hK : va_K (dC, dI) cls (tX10 p0_0k) s := hK.sub [0] rfl
    refine lv_aload_n hx hb dX11_feed_34 rfl (lv_at hl 0 rfl) ?_
    refine va_get (D := (dC, dI)) (ci := 11) (v := .ref (p0a 1)) (C := RX11) (T := TX11) (N := 11) hx hb hts i_X11 hown hK hP 0 rfl rfl 0 (by decide) (hts _ qw860) (fun _ h9 => h9) rfl dX11_feed_35 ?_
    refine lv_iload_n hx hb dX11_feed_38 rfl (lv_at hl 2 rfl) ?_
    obtain ⟨o_3, hc_3, hrun⟩ := bnd9 hrun
    have hPc := hP.sub (ws' := (oX10 (p0a 1) p0_0a p0_0k o_2 p0_0l)) [1, 2] rfl
    have hDc := hD.sub (ws' := (oX10 (p0a 1) p0_0a p0_0k o_2 p0_0l)) [1, 2] (by decide) rfl
    have hKc := hK.sub (tys' := (tX10 p0_0k)) [0] rfl
    have hFc := va_free (wc := (oX10 (p0a 1) p0_0a p0_0k o_2 p0_0l)) hD hS hA [1, 2] rfl
    refine va_callv (va_runV (As := [.int p2]) (rest := []) ⟨hx, hb, hml, hown, hts⟩ (kX10_append l dC dI (p0a := (st0 (p0a 1) p0_0a)) (p0k := p0_0k) (p0w := o_2) (p0l := p0_0l) (p1 := p2) (sz := _) (o := o_3) (hrun := hc_3)) (cwV 1 hts (gi_V qw863 qw864 qw865 qw8 (gi_z qw862)) rfl rfl rfl (by decide +kernel) ⟨Nat.le_of_ble_eq_true rfl, Nat.le_of_ble_eq_true rfl⟩) ⟨PRE.blind, va_recv hKc hPc (ci := 0) (q0 := 0) rfl rfl, PRE.of hE hS hFc hPc hKc hDc⟩ rfl rfl hl.1 rfl (lv_room (Nat.le_of_ble_eq_true rfl)) dX11_feed_39 ⟨Nat.le_of_ble_eq_true rfl, Nat.le_of_ble_eq_true rfl⟩) hS (fun q _ h => hFc q h) hFc (fun u t H locs ht hvm hw hB hz1 hk1 hS => ?_)
    obtain ⟨hP, hD, hK⟩ := JOIN (wr := (oX11 (p0a 0) p0a p0w)) hP hD hK [1, 2] [0] [] rfl rfl (by decide) (by decide) rfl hk1 hFc ht hvm hB
    have hP : va_P (dC, dI) cls ((oX11 (p0a 0) p0a p0w) ++ (oX10 (p0a 1) p0_0a p0_0k o_3 p0_0l)) H := hP.sub [0, 1, 2] rfl
    have hD : va_D A ((oX11 (p0a 0) p0a p0w) ++ (oX10 (p0a 1) p0_0a p0_0k o_3 p0_0l)) := hD.sub [0, 1, 2] (by decide) rfl
    have hK : va_K (dC, dI) cls (tX10 p0_0k) s := hK.sub [0] rfl
    refine lv_aload_n hx hb dX11_feed_42 rfl (lv_at hl 0 rfl) ?_
    refine va_get (D := (dC, dI)) (ci := 11) (v := .ref (p0a 1)) (C := RX11) (T := TX11) (N := 11) hx hb hts i_X11 hown hK hP 0 rfl rfl 0 (by decide) (hts _ qw860) (fun _ h9 => h9) rfl dX11_feed_43 ?_
    refine lv_iload_n hx hb dX11_feed_46 rfl (lv_at hl 3 rfl) ?_
    obtain ⟨o_4, hc_4, hrun⟩ := bnd9 hrun
    have hPc := hP.sub (ws' := (oX10 (p0a 1) p0_0a p0_0k o_3 p0_0l)) [1, 2] rfl
    have hDc := hD.sub (ws' := (oX10 (p0a 1) p0_0a p0_0k o_3 p0_0l)) [1, 2] (by decide) rfl
    have hKc := hK.sub (tys' := (tX10 p0_0k)) [0] rfl
    have hFc := va_free (wc := (oX10 (p0a 1) p0_0a p0_0k o_3 p0_0l)) hD hS hA [1, 2] rfl
    refine va_callv (va_runV (As := [.int p3]) (rest := []) ⟨hx, hb, hml, hown, hts⟩ (kX10_append l dC dI (p0a := (st0 (p0a 1) p0_0a)) (p0k := p0_0k) (p0w := o_3) (p0l := p0_0l) (p1 := p3) (sz := _) (o := o_4) (hrun := hc_4)) (cwV 1 hts (gi_V qw863 qw864 qw865 qw8 (gi_z qw862)) rfl rfl rfl (by decide +kernel) ⟨Nat.le_of_ble_eq_true rfl, Nat.le_of_ble_eq_true rfl⟩) ⟨PRE.blind, va_recv hKc hPc (ci := 0) (q0 := 0) rfl rfl, PRE.of hE hS hFc hPc hKc hDc⟩ rfl rfl hl.1 rfl (lv_room (Nat.le_of_ble_eq_true rfl)) dX11_feed_47 ⟨Nat.le_of_ble_eq_true rfl, Nat.le_of_ble_eq_true rfl⟩) hS (fun q _ h => hFc q h) hFc (fun u t H locs ht hvm hw hB hz1 hk1 hS => ?_)
    obtain ⟨hP, hD, hK⟩ := JOIN (wr := (oX11 (p0a 0) p0a p0w)) hP hD hK [1, 2] [0] [] rfl rfl (by decide) (by decide) rfl hk1 hFc ht hvm hB
    have hP : va_P (dC, dI) cls ((oX11 (p0a 0) p0a p0w) ++ (oX10 (p0a 1) p0_0a p0_0k o_4 p0_0l)) H := hP.sub [0, 1, 2] rfl
    have hD : va_D A ((oX11 (p0a 0) p0a p0w) ++ (oX10 (p0a 1) p0_0a p0_0k o_4 p0_0l)) := hD.sub [0, 1, 2] (by decide) rfl
    have hK : va_K (dC, dI) cls (tX10 p0_0k) s := hK.sub [0] rfl
    refine lv_aload_n hx hb dX11_feed_50 rfl (lv_at hl 0 rfl) ?_
    refine va_get (D := (dC, dI)) (ci := 11) (v := .ref (p0a 1)) (C := RX11) (T := TX11) (N := 11) hx hb hts i_X11 hown hK hP 0 rfl rfl 0 (by decide) (hts _ qw860) (fun _ h9 => h9) rfl dX11_feed_51 ?_
    refine lv_iload hx hb dX11_feed_54 (lv_at hl 4 rfl) ?_
    obtain ⟨o_5, hc_5, hrun⟩ := bnd9 hrun
    have hPc := hP.sub (ws' := (oX10 (p0a 1) p0_0a p0_0k o_4 p0_0l)) [1, 2] rfl
    have hDc := hD.sub (ws' := (oX10 (p0a 1) p0_0a p0_0k o_4 p0_0l)) [1, 2] (by decide) rfl
    have hKc := hK.sub (tys' := (tX10 p0_0k)) [0] rfl
    have hFc := va_free (wc := (oX10 (p0a 1) p0_0a p0_0k o_4 p0_0l)) hD hS hA [1, 2] rfl
    refine va_callv (va_runV (As := [.int p4]) (rest := []) ⟨hx, hb, hml, hown, hts⟩ (kX10_append l dC dI (p0a := (st0 (p0a 1) p0_0a)) (p0k := p0_0k) (p0w := o_4) (p0l := p0_0l) (p1 := p4) (sz := _) (o := o_5) (hrun := hc_5)) (cwV 1 hts (gi_V qw863 qw864 qw865 qw8 (gi_z qw862)) rfl rfl rfl (by decide +kernel) ⟨Nat.le_of_ble_eq_true rfl, Nat.le_of_ble_eq_true rfl⟩) ⟨PRE.blind, va_recv hKc hPc (ci := 0) (q0 := 0) rfl rfl, PRE.of hE hS hFc hPc hKc hDc⟩ rfl rfl hl.1 rfl (lv_room (Nat.le_of_ble_eq_true rfl)) dX11_feed_56 ⟨Nat.le_of_ble_eq_true rfl, Nat.le_of_ble_eq_true rfl⟩) hS (fun q _ h => hFc q h) hFc (fun u t H locs ht hvm hw hB hz1 hk1 hS => ?_)
    obtain ⟨hP, hD, hK⟩ := JOIN (wr := (oX11 (p0a 0) p0a p0w)) hP hD hK [1, 2] [0] [] rfl rfl (by decide) (by decide) rfl hk1 hFc ht hvm hB
    have hP : va_P (dC, dI) cls ((oX11 (p0a 0) p0a p0w) ++ (oX10 (p0a 1) p0_0a p0_0k o_5 p0_0l)) H := hP.sub [0, 1, 2] rfl
    have hD : va_D A ((oX11 (p0a 0) p0a p0w) ++ (oX10 (p0a 1) p0_0a p0_0k o_5 p0_0l)) := hD.sub [0, 1, 2] (by decide) rfl
    have hK : va_K (dC, dI) cls (tX10 p0_0k) s := hK.sub [0] rfl
    refine lv_aload_n hx hb dX11_feed_59 rfl (lv_at hl 0 rfl) ?_
    refine va_get (D := (dC, dI)) (ci := 11) (v := .ref (p0a 1)) (C := RX11) (T := TX11) (N := 11) hx hb hts i_X11 hown hK hP 0 rfl rfl 0 (by decide) (hts _ qw860) (fun _ h9 => h9) rfl dX11_feed_60 ?_
    refine lv_iload hx hb dX11_feed_63 (lv_at hl 5 rfl) ?_
    obtain ⟨o_6, hc_6, hrun⟩ := bnd9 hrun
    have hPc := hP.sub (ws' := (oX10 (p0a 1) p0_0a p0_0k o_5 p0_0l)) [1, 2] rfl
    have hDc := hD.sub (ws' := (oX10 (p0a 1) p0_0a p0_0k o_5 p0_0l)) [1, 2] (by decide) rfl
    have hKc := hK.sub (tys' := (tX10 p0_0k)) [0] rfl
    have hFc := va_free (wc := (oX10 (p0a 1) p0_0a p0_0k o_5 p0_0l)) hD hS hA [1, 2] rfl
    refine va_callv (va_runV (As := [.int p5]) (rest := []) ⟨hx, hb, hml, hown, hts⟩ (kX10_append l dC dI (p0a := (st0 (p0a 1) p0_0a)) (p0k := p0_0k) (p0w := o_5) (p0l := p0_0l) (p1 := p5) (sz := _) (o := o_6) (hrun := hc_6)) (cwV 1 hts (gi_V qw863 qw864 qw865 qw8 (gi_z qw862)) rfl rfl rfl (by decide +kernel) ⟨Nat.le_of_ble_eq_true rfl, Nat.le_of_ble_eq_true rfl⟩) ⟨PRE.blind, va_recv hKc hPc (ci := 0) (q0 := 0) rfl rfl, PRE.of hE hS hFc hPc hKc hDc⟩ rfl rfl hl.1 rfl (lv_room (Nat.le_of_ble_eq_true rfl)) dX11_feed_65 ⟨Nat.le_of_ble_eq_true rfl, Nat.le_of_ble_eq_true rfl⟩) hS (fun q _ h => hFc q h) hFc (fun u t H locs ht hvm hw hB hz1 hk1 hS => ?_)
    obtain ⟨hP, hD, hK⟩ := JOIN (wr := (oX11 (p0a 0) p0a p0w)) hP hD hK [1, 2] [0] [] rfl rfl (by decide) (by decide) rfl hk1 hFc ht hvm hB
    have hP : va_P (dC, dI) cls ((oX11 (p0a 0) p0a p0w) ++ (oX10 (p0a 1) p0_0a p0_0k o_6 p0_0l)) H := hP.sub [0, 1, 2] rfl
    have hD : va_D A ((oX11 (p0a 0) p0a p0w) ++ (oX10 (p0a 1) p0_0a p0_0k o_6 p0_0l)) := hD.sub [0, 1, 2] (by decide) rfl
    have hK : va_K (dC, dI) cls (tX10 p0_0k) s := hK.sub [0] rfl
    refine lv_aload_n hx hb dX11_feed_68 rfl (lv_at hl 0 rfl) ?_
    refine va_get (D := (dC, dI)) (ci := 11) (v := .ref (p0a 1)) (C := RX11) (T := TX11) (N := 11) hx hb hts i_X11 hown hK hP 0 rfl rfl 0 (by decide) (hts _ qw860) (fun _ h9 => h9) rfl dX11_feed_69 ?_
    refine va_get (D := (dC, dI)) (ci := 0) (v := .int (o_6 0 1)) (C := RX10) (T := TX10) (N := 8) hx hb hts i_X10 hown hK hP 1 rfl rfl 1 (by decide) (hts _ qw861) (fun _ h9 => h9) rfl dX11_feed_72 ?_
    have ho9 : ((o_6 0 1), o_6) = o := Option.some.inj hrun
    have hP9 : va_P (dC, dI) cls ((oX11 (p0a 0) p0a p0w) ++ (oX10 (p0a 1) p0_0a p0_0k (o.2) p0_0l)) H := by first | exact hP | (rw [← ho9]; exact hP)
    have hD9 : va_D A ((oX11 (p0a 0) p0a p0w) ++ (oX10 (p0a 1) p0_0a p0_0k (o.2) p0_0l)) := by first | exact hD | (rw [← ho9]; exact hD)
    subst hQ
    exact W.iret (v := (o_6 0 1)) hx hb hr (fun t ht hW => ⟨⟨(o_6 0 1), (), rfl, (by rw [← ho9]), ⟨by rw [ht]; exact hP9, va_K.moved hW.alike hK, hD9⟩⟩, hS.F ht⟩) hS.2.2 dX11_feed_75
  · refine lv_icmp_le (tgt := 26) hx hb dX11_feed_13 (by decide) (fun c => absurd c hc1) (fun _ => ?_)
    cases hrun
def fX11_functions (p0_8w : ST) : Option Int32 := some (p0_8w 0 0)
set_option maxHeartbeats 16000000 in
set_option maxRecDepth 100000 in
theorem kX11_functions {zs : Nat × Nat} (l : Launch) (dC : Nat → ClassId) (dI : Nat → Nat → Nat) (p0a : Nat → Nat) (p0w : ST) (p0_8a : Nat → Nat) (p0_8k : Nat → ClassId) (p0_8w : ST) (p0_8l : SL) (sz : Nat) (o : Int32) (hrun : fX11_functions p0_8w = some o) : Met l yX11_functions (wz yX11_functions cX11_functions 1 (Option.some Jvm.ClassFile.FieldType.int)) ({ frames := 0, cells := 0, slots := 0, locals := 0 } : Room) (va_Pc [.ref (p0a 0)] (PRE zs dC dI ((oX11 (p0a 0) p0a p0w) ++ (oX6 (p0a 9) p0_8a p0_8k p0_8w p0_8l)) (tX6 p0_8k) sz)) (va_Qi (fun (r : Int32) (_ : Unit) => r = o) (fun _ t => POST dC dI ((oX11 (p0a 0) p0a p0w) ++ (oX6 (p0a 9) p0_8a p0_8k p0_8w p0_8l)) (tX6 p0_8k) (va_A ((oX11 (p0a 0) p0a p0w) ++ (oX6 (p0a 9) p0_8a p0_8k p0_8w p0_8l)) sz) t) (va_A ((oX11 (p0a 0) p0a p0w) ++ (oX6 (p0a 9) p0_8a p0_8k p0_8w p0_8l)) sz)) 0 0 (va_A ((oX11 (p0a 0) p0a p0w) ++ (oX6 (p0a 9) p0_8a p0_8k p0_8w p0_8l)) sz) := by
  refine Met.ofW (cc := cX11_functions) (maxL := 1) (ret := (Option.some Jvm.ClassFile.FieldType.int)) (by decide) rfl ?_
  intro p e s m args below meth c s₁ B hml hv
  obtain ⟨rfl, hsz, hP, hK, hD0, hE⟩ := hv
  have hx := B.exec
  have hb := B.bytes
  have hr := B.returns
  have hts0 := atoms_spec (ws := wz yX11_functions cX11_functions 1 (Option.some Jvm.ClassFile.FieldType.int)) B.pre
  have hts : ∀ w ∈ gw, w.before _ s = true := fun w h => hts0 w (List.mem_cons_of_mem _ h)
  have hown : s.vm.findClass RX11 = some m.cls := findClass_of_methodNamed B.named
  have hlocks := B.notSynchronized
  subst hsz
  have hD := hD0.self (sz := s.heap.size)
  refine gQ9 ?_
  intro Q hQ
  generalize hAe : va_A ((oX11 (p0a 0) p0a p0w) ++ (oX6 (p0a 9) p0_8a p0_8k p0_8w p0_8l)) s.heap.size = A at hD hE hQ
  have hA : ∀ q : Nat, s.heap.size ≤ q → A q := fun q h => by rw [← hAe]; exact Or.inr h
  have hS : va_S A s.heap s.heap [] := va_S.rf
  have hP : va_P (dC, dI) cls ((oX11 (p0a 0) p0a p0w) ++ (oX6 (p0a 9) p0_8a p0_8k p0_8w p0_8l)) s.heap := hP
  have hl := lv_entry ([.ref (p0a 0)]) (n := 1) (Nat.le_of_ble_eq_true rfl)
  rw [lg_entry_eq]
  generalize (lg_sl ([.ref (p0a 0)]) ++ List.replicate (1 - (lg_sl ([.ref (p0a 0)])).length) Slot.unset).toArray = ls at hl ⊢
  have hl : lv_has ls 1 [(0, .ref (p0a 0))] := hl
  obtain ⟨H, hHe⟩ : ∃ H, H = s.heap := ⟨_, rfl⟩
  obtain ⟨locs, hle⟩ : ∃ locs : List Loc, locs = [] := ⟨_, rfl⟩
  rw [← hHe] at hP
  have hS : va_S A s.heap H locs := by rw [hHe, hle]; exact hS
  show W p l e ({ frames := 0, cells := 0, slots := 0, locals := 0 } : Room) s m ([.ref (p0a 0)] : List Value).toArray below meth c s.heap [] 0 0 Q (F0 m 0 ls [])
  rw [← hle]
  refine wH9 hHe ?_
  unfold fX11_functions at hrun
  refine lv_aload_n hx hb dX11_functions_0 rfl (lv_at hl 0 rfl) ?_
  refine va_get (D := (dC, dI)) (ci := 11) (v := .ref (p0a 9)) (C := RX11) (T := TX11) (N := 11) hx hb hts i_X11 hown hK hP 0 rfl rfl 8 (by decide) (hts _ qw808) (fun _ h9 => h9) rfl dX11_functions_1 ?_
  refine va_get (D := (dC, dI)) (ci := 2) (v := .int (p0_8w 0 0)) (C := RX6) (T := TX6) (N := 13) hx hb hts i_X6 hown hK hP 1 rfl rfl 0 (by decide) (hts _ qw809) (fun _ h9 => h9) rfl dX11_functions_4 ?_
  have ho9 : (p0_8w 0 0) = o := Option.some.inj hrun
  have hP9 : va_P (dC, dI) cls ((oX11 (p0a 0) p0a p0w) ++ (oX6 (p0a 9) p0_8a p0_8k p0_8w p0_8l)) H := by first | exact hP | (rw [← ho9]; exact hP)
  have hD9 : va_D A ((oX11 (p0a 0) p0a p0w) ++ (oX6 (p0a 9) p0_8a p0_8k p0_8w p0_8l)) := by first | exact hD | (rw [← ho9]; exact hD)
  subst hQ
  exact W.iret (v := (p0_8w 0 0)) hx hb hr (fun t ht hW => ⟨⟨(p0_8w 0 0), (), rfl, (by rw [← ho9]), ⟨by rw [ht]; exact hP9, va_K.moved hW.alike hK, hD9⟩⟩, hS.F ht⟩) hS.2.2 dX11_functions_7
def fX11_needPlace_J9  : Option Unit := none
def fX11_needPlace (p1 : Int32) (p2 : Int32) : Option Unit := (if p1 < 0 then (fX11_needPlace_J9) else (if p1 < p2 then some () else (fX11_needPlace_J9)))
set_option maxHeartbeats 16000000 in
set_option maxRecDepth 100000 in
theorem kX11_needPlace {zs : Nat × Nat} (l : Launch) (dC : Nat → ClassId) (dI : Nat → Nat → Nat) (p0a : Nat → Nat) (p0w : ST) (p1 : Int32) (p2 : Int32) (sz : Nat) (o : Unit) (hrun : fX11_needPlace p1 p2 = some o) : Met l yX11_needPlace (wz yX11_needPlace cX11_needPlace 3 (Option.none : Option Jvm.ClassFile.FieldType)) ({ frames := 0, cells := 0, slots := 0, locals := 0 } : Room) (va_Pc [.ref (p0a 0), .int p1, .int p2] (PRE zs dC dI (oX11 (p0a 0) p0a p0w) ([] : List (ClassId × FieldType)) sz)) (va_Qv (fun (_ : Unit) => True) (fun _ t => POST dC dI (oX11 (p0a 0) p0a p0w) ([] : List (ClassId × FieldType)) (va_A (oX11 (p0a 0) p0a p0w) sz) t) (va_A (oX11 (p0a 0) p0a p0w) sz)) 0 0 (va_A (oX11 (p0a 0) p0a p0w) sz) := by
  refine Met.ofW (cc := cX11_needPlace) (maxL := 3) (ret := (Option.none : Option Jvm.ClassFile.FieldType)) (by decide) rfl ?_
  intro p e s m args below meth c s₁ B hml hv
  obtain ⟨rfl, hsz, hP, hK, hD0, hE⟩ := hv
  have hx := B.exec
  have hb := B.bytes
  have hr := B.returns
  have hts0 := atoms_spec (ws := wz yX11_needPlace cX11_needPlace 3 (Option.none : Option Jvm.ClassFile.FieldType)) B.pre
  have hts : ∀ w ∈ gw, w.before _ s = true := fun w h => hts0 w (List.mem_cons_of_mem _ h)
  have hown : s.vm.findClass RX11 = some m.cls := findClass_of_methodNamed B.named
  have hlocks := B.notSynchronized
  subst hsz
  have hD := hD0.self (sz := s.heap.size)
  refine gQ9 ?_
  intro Q hQ
  generalize hAe : va_A (oX11 (p0a 0) p0a p0w) s.heap.size = A at hD hE hQ
  have hA : ∀ q : Nat, s.heap.size ≤ q → A q := fun q h => by rw [← hAe]; exact Or.inr h
  have hS : va_S A s.heap s.heap [] := va_S.rf
  have hP : va_P (dC, dI) cls (oX11 (p0a 0) p0a p0w) s.heap := hP
  have hl := lv_entry ([.ref (p0a 0), .int p1, .int p2]) (n := 3) (Nat.le_of_ble_eq_true rfl)
  rw [lg_entry_eq]
  generalize (lg_sl ([.ref (p0a 0), .int p1, .int p2]) ++ List.replicate (3 - (lg_sl ([.ref (p0a 0), .int p1, .int p2])).length) Slot.unset).toArray = ls at hl ⊢
  have hl : lv_has ls 3 [(0, .ref (p0a 0)), (1, .int p1), (2, .int p2)] := hl
  obtain ⟨H, hHe⟩ : ∃ H, H = s.heap := ⟨_, rfl⟩
  obtain ⟨locs, hle⟩ : ∃ locs : List Loc, locs = [] := ⟨_, rfl⟩
  rw [← hHe] at hP
  have hS : va_S A s.heap H locs := by rw [hHe, hle]; exact hS
  show W p l e ({ frames := 0, cells := 0, slots := 0, locals := 0 } : Room) s m ([.ref (p0a 0), .int p1, .int p2] : List Value).toArray below meth c s.heap [] 0 0 Q (F0 m 0 ls [])
  rw [← hle]
  refine wH9 hHe ?_
  unfold fX11_needPlace at hrun
  refine lv_iload_n hx hb dX11_needPlace_0 rfl (lv_at hl 1 rfl) ?_
  have J9 : ∀ (H : Heap) (locs : List Loc) (ls : Array Slot), (fX11_needPlace_J9) = some o → va_P (dC, dI) cls (oX11 (p0a 0) p0a p0w) H → va_D A (oX11 (p0a 0) p0a p0w) → va_S A s.heap H locs → lv_has ls 3 [] → W p l e ({ frames := 0, cells := 0, slots := 0, locals := 0 } : Room) s m ([.ref (p0a 0), .int p1, .int p2] : List Value).toArray below meth c H locs 0 0 Q (F0 m 9 ls []) := by
    intro  H locs ls hrun hP hD hS hl
    unfold fX11_needPlace_J9 at hrun
    cases hrun
  rcases br9 hrun with ⟨hc1, hrun⟩ | ⟨hc1, hrun⟩
  · refine lv_if_lt (tgt := 9) hx hb dX11_needPlace_1 (by decide) (fun _ => ?_) (fun c => absurd hc1 c)
    exact J9 _ _ _ hrun hP hD hS (lv_sub hl [] rfl)
  · refine lv_if_lt (tgt := 9) hx hb dX11_needPlace_1 (by decide) (fun c => absurd c hc1) (fun _ => ?_)
    refine lv_iload_n hx hb dX11_needPlace_4 rfl (lv_at hl 1 rfl) ?_
    refine lv_iload_n hx hb dX11_needPlace_5 rfl (lv_at hl 2 rfl) ?_
    rcases br9 hrun with ⟨hc2, hrun⟩ | ⟨hc2, hrun⟩
    · refine lv_icmp_lt (tgt := 20) hx hb dX11_needPlace_6 (by decide) (fun _ => ?_) (fun c => absurd hc2 c)
      have ho9 : () = o := Option.some.inj hrun
      have hP9 : va_P (dC, dI) cls (oX11 (p0a 0) p0a p0w) H := by first | exact hP | (rw [← ho9]; exact hP)
      have hD9 : va_D A (oX11 (p0a 0) p0a p0w) := by first | exact hD | (rw [← ho9]; exact hD)
      subst hQ
      exact W.vret hx hb hr (fun t ht hW => ⟨⟨(), rfl, trivial, ⟨by rw [ht]; exact hP9, va_K.moved hW.alike hK, hD9⟩⟩, hS.F ht⟩) hS.2.2 dX11_needPlace_20
    · refine lv_icmp_lt (tgt := 20) hx hb dX11_needPlace_6 (by decide) (fun c => absurd c hc2) (fun _ => ?_)
      exact J9 _ _ _ hrun hP hD hS (lv_sub hl [] rfl)
def fX11_result (p0_6w : ST) : Option Int32 := some (p0_6w 0 1)
set_option maxHeartbeats 16000000 in
set_option maxRecDepth 100000 in
theorem kX11_result {zs : Nat × Nat} (l : Launch) (dC : Nat → ClassId) (dI : Nat → Nat → Nat) (p0a : Nat → Nat) (p0w : ST) (p0_6a : Nat → Nat) (p0_6k : Nat → ClassId) (p0_6n : Nat → Nat) (p0_6w : ST) (sz : Nat) (o : Int32) (hrun : fX11_result p0_6w = some o) : Met l yX11_result (wz yX11_result cX11_result 1 (Option.some Jvm.ClassFile.FieldType.int)) ({ frames := 0, cells := 0, slots := 0, locals := 0 } : Room) (va_Pc [.ref (p0a 0)] (PRE zs dC dI ((oX11 (p0a 0) p0a p0w) ++ (oX3 (p0a 7) p0_6a p0_6k p0_6n p0_6w)) (tX3 p0_6k) sz)) (va_Qi (fun (r : Int32) (_ : Unit) => r = o) (fun _ t => POST dC dI ((oX11 (p0a 0) p0a p0w) ++ (oX3 (p0a 7) p0_6a p0_6k p0_6n p0_6w)) (tX3 p0_6k) (va_A ((oX11 (p0a 0) p0a p0w) ++ (oX3 (p0a 7) p0_6a p0_6k p0_6n p0_6w)) sz) t) (va_A ((oX11 (p0a 0) p0a p0w) ++ (oX3 (p0a 7) p0_6a p0_6k p0_6n p0_6w)) sz)) 0 0 (va_A ((oX11 (p0a 0) p0a p0w) ++ (oX3 (p0a 7) p0_6a p0_6k p0_6n p0_6w)) sz) := by
  refine Met.ofW (cc := cX11_result) (maxL := 1) (ret := (Option.some Jvm.ClassFile.FieldType.int)) (by decide) rfl ?_
  intro p e s m args below meth c s₁ B hml hv
  obtain ⟨rfl, hsz, hP, hK, hD0, hE⟩ := hv
  have hx := B.exec
  have hb := B.bytes
  have hr := B.returns
  have hts0 := atoms_spec (ws := wz yX11_result cX11_result 1 (Option.some Jvm.ClassFile.FieldType.int)) B.pre
  have hts : ∀ w ∈ gw, w.before _ s = true := fun w h => hts0 w (List.mem_cons_of_mem _ h)
  have hown : s.vm.findClass RX11 = some m.cls := findClass_of_methodNamed B.named
  have hlocks := B.notSynchronized
  subst hsz
  have hD := hD0.self (sz := s.heap.size)
  refine gQ9 ?_
  intro Q hQ
  generalize hAe : va_A ((oX11 (p0a 0) p0a p0w) ++ (oX3 (p0a 7) p0_6a p0_6k p0_6n p0_6w)) s.heap.size = A at hD hE hQ
  have hA : ∀ q : Nat, s.heap.size ≤ q → A q := fun q h => by rw [← hAe]; exact Or.inr h
  have hS : va_S A s.heap s.heap [] := va_S.rf
  have hP : va_P (dC, dI) cls ((oX11 (p0a 0) p0a p0w) ++ (oX3 (p0a 7) p0_6a p0_6k p0_6n p0_6w)) s.heap := hP
  have hl := lv_entry ([.ref (p0a 0)]) (n := 1) (Nat.le_of_ble_eq_true rfl)
  rw [lg_entry_eq]
  generalize (lg_sl ([.ref (p0a 0)]) ++ List.replicate (1 - (lg_sl ([.ref (p0a 0)])).length) Slot.unset).toArray = ls at hl ⊢
  have hl : lv_has ls 1 [(0, .ref (p0a 0))] := hl
  obtain ⟨H, hHe⟩ : ∃ H, H = s.heap := ⟨_, rfl⟩
  obtain ⟨locs, hle⟩ : ∃ locs : List Loc, locs = [] := ⟨_, rfl⟩
  rw [← hHe] at hP
  have hS : va_S A s.heap H locs := by rw [hHe, hle]; exact hS
  show W p l e ({ frames := 0, cells := 0, slots := 0, locals := 0 } : Room) s m ([.ref (p0a 0)] : List Value).toArray below meth c s.heap [] 0 0 Q (F0 m 0 ls [])
  rw [← hle]
  refine wH9 hHe ?_
  unfold fX11_result at hrun
  refine lv_aload_n hx hb dX11_result_0 rfl (lv_at hl 0 rfl) ?_
  refine va_get (D := (dC, dI)) (ci := 11) (v := .ref (p0a 7)) (C := RX11) (T := TX11) (N := 11) hx hb hts i_X11 hown hK hP 0 rfl rfl 6 (by decide) (hts _ qw819) (fun _ h9 => h9) rfl dX11_result_1 ?_
  refine va_get (D := (dC, dI)) (ci := 10) (v := .int (p0_6w 0 1)) (C := RX3) (T := TX3) (N := 20) hx hb hts i_X3 hown hK hP 1 rfl rfl 1 (by decide) (hts _ qw829) (fun _ h9 => h9) rfl dX11_result_4 ?_
  have ho9 : (p0_6w 0 1) = o := Option.some.inj hrun
  have hP9 : va_P (dC, dI) cls ((oX11 (p0a 0) p0a p0w) ++ (oX3 (p0a 7) p0_6a p0_6k p0_6n p0_6w)) H := by first | exact hP | (rw [← ho9]; exact hP)
  have hD9 : va_D A ((oX11 (p0a 0) p0a p0w) ++ (oX3 (p0a 7) p0_6a p0_6k p0_6n p0_6w)) := by first | exact hD | (rw [← ho9]; exact hD)
  subst hQ
  exact W.iret (v := (p0_6w 0 1)) hx hb hr (fun t ht hW => ⟨⟨(p0_6w 0 1), (), rfl, (by rw [← ho9]), ⟨by rw [ht]; exact hP9, va_K.moved hW.alike hK, hD9⟩⟩, hS.F ht⟩) hS.2.2 dX11_result_7
def fX11_rounds_J28 (y0_28 : Int32) : Option Int32 := some y0_28
def fX11_rounds (p1 : Int32) (p0_8w : ST) (p0_5w : ST) : Option Int32 := ((fX11_needFunction p1 p0_8w).bind fun (o_1 : Unit) => (if (p0_5w 0 5) = 0 then (fX11_rounds_J28 0) else (if ixb p1 6 = true then (fX11_rounds_J28 (p0_5w 5 (nn p1))) else none)))
set_option maxHeartbeats 16000000 in
set_option maxRecDepth 100000 in
theorem kX11_rounds {zs : Nat × Nat} (l : Launch) (dC : Nat → ClassId) (dI : Nat → Nat → Nat) (p0a : Nat → Nat) (p0w : ST) (p1 : Int32) (p0_8a : Nat → Nat) (p0_8k : Nat → ClassId) (p0_8w : ST) (p0_8l : SL) (p0_5a : Nat → Nat) (p0_5k : Nat → ClassId) (p0_5n : Nat → Nat) (p0_5w : ST) (sz : Nat) (o : Int32) (hrun : fX11_rounds p1 p0_8w p0_5w = some o) : Met l yX11_rounds (wz yX11_rounds cX11_rounds 2 (Option.some Jvm.ClassFile.FieldType.int)) ({ frames := 1, cells := 0, slots := 0, locals := 21 } : Room) (va_Pc [.ref (p0a 0), .int p1] (PRE zs dC dI ((oX11 (p0a 0) p0a p0w) ++ (oX6 (p0a 9) p0_8a p0_8k p0_8w p0_8l) ++ (oX0 (p0a 6) p0_5a p0_5k p0_5n p0_5w)) ((tX6 p0_8k) ++ (tX0 p0_5k)) sz)) (va_Qi (fun (r : Int32) (_ : Unit) => r = o) (fun _ t => POST dC dI ((oX11 (p0a 0) p0a p0w) ++ (oX6 (p0a 9) p0_8a p0_8k p0_8w p0_8l) ++ (oX0 (p0a 6) p0_5a p0_5k p0_5n p0_5w)) ((tX6 p0_8k) ++ (tX0 p0_5k)) (va_A ((oX11 (p0a 0) p0a p0w) ++ (oX6 (p0a 9) p0_8a p0_8k p0_8w p0_8l) ++ (oX0 (p0a 6) p0_5a p0_5k p0_5n p0_5w)) sz) t) (va_A ((oX11 (p0a 0) p0a p0w) ++ (oX6 (p0a 9) p0_8a p0_8k p0_8w p0_8l) ++ (oX0 (p0a 6) p0_5a p0_5k p0_5n p0_5w)) sz)) 0 0 (va_A ((oX11 (p0a 0) p0a p0w) ++ (oX6 (p0a 9) p0_8a p0_8k p0_8w p0_8l) ++ (oX0 (p0a 6) p0_5a p0_5k p0_5n p0_5w)) sz) := by
  refine Met.ofW (cc := cX11_rounds) (maxL := 2) (ret := (Option.some Jvm.ClassFile.FieldType.int)) (by decide) rfl ?_
  intro p e s m args below meth c s₁ B hml hv
  obtain ⟨rfl, hsz, hP, hK, hD0, hE⟩ := hv
  have hx := B.exec
  have hb := B.bytes
  have hr := B.returns
  have hts0 := atoms_spec (ws := wz yX11_rounds cX11_rounds 2 (Option.some Jvm.ClassFile.FieldType.int)) B.pre
  have hts : ∀ w ∈ gw, w.before _ s = true := fun w h => hts0 w (List.mem_cons_of_mem _ h)
  have hown : s.vm.findClass RX11 = some m.cls := findClass_of_methodNamed B.named
  have hlocks := B.notSynchronized
  subst hsz
  have hD := hD0.self (sz := s.heap.size)
  refine gQ9 ?_
  intro Q hQ
  generalize hAe : va_A ((oX11 (p0a 0) p0a p0w) ++ (oX6 (p0a 9) p0_8a p0_8k p0_8w p0_8l) ++ (oX0 (p0a 6) p0_5a p0_5k p0_5n p0_5w)) s.heap.size = A at hD hE hQ
  have hA : ∀ q : Nat, s.heap.size ≤ q → A q := fun q h => by rw [← hAe]; exact Or.inr h
  have hS : va_S A s.heap s.heap [] := va_S.rf
  have hP : va_P (dC, dI) cls ((oX11 (p0a 0) p0a p0w) ++ (oX6 (p0a 9) p0_8a p0_8k p0_8w p0_8l) ++ (oX0 (p0a 6) p0_5a p0_5k p0_5n p0_5w)) s.heap := hP
  have hl := lv_entry ([.ref (p0a 0), .int p1]) (n := 2) (Nat.le_of_ble_eq_true rfl)
  rw [lg_entry_eq]
  generalize (lg_sl ([.ref (p0a 0), .int p1]) ++ List.replicate (2 - (lg_sl ([.ref (p0a 0), .int p1])).length) Slot.unset).toArray = ls at hl ⊢
  have hl : lv_has ls 2 [(0, .ref (p0a 0)), (1, .int p1)] := hl
  obtain ⟨H, hHe⟩ : ∃ H, H = s.heap := ⟨_, rfl⟩
  obtain ⟨locs, hle⟩ : ∃ locs : List Loc, locs = [] := ⟨_, rfl⟩
  rw [← hHe] at hP
  have hS : va_S A s.heap H locs := by rw [hHe, hle]; exact hS
  show W p l e ({ frames := 1, cells := 0, slots := 0, locals := 21 } : Room) s m ([.ref (p0a 0), .int p1] : List Value).toArray below meth c s.heap [] 0 0 Q (F0 m 0 ls [])
  rw [← hle]
  refine wH9 hHe ?_
  unfold fX11_rounds at hrun
  refine lv_aload_n hx hb dX11_rounds_0 rfl (lv_at hl 0 rfl) ?_
  refine lv_iload_n hx hb dX11_rounds_1 rfl (lv_at hl 1 rfl) ?_
  obtain ⟨o_1, hc_1, hrun⟩ := bnd9 hrun
  have hPc := hP.sub (ws' := ((oX11 (p0a 0) p0a p0w) ++ (oX6 (p0a 9) p0_8a p0_8k p0_8w p0_8l))) [0, 1, 2, 3, 4, 5, 6, 7, 8, 9, 10, 11] rfl
  have hDc := hD.sub (ws' := ((oX11 (p0a 0) p0a p0w) ++ (oX6 (p0a 9) p0_8a p0_8k p0_8w p0_8l))) [0, 1, 2, 3, 4, 5, 6, 7, 8, 9, 10, 11] (by decide) rfl
  have hKc := hK.sub (tys' := (tX6 p0_8k)) [0, 1, 2, 3, 4, 5, 6, 7, 8, 9] rfl
  have hFc := va_free (wc := ((oX11 (p0a 0) p0a p0w) ++ (oX6 (p0a 9) p0_8a p0_8k p0_8w p0_8l))) hD hS hA [0, 1, 2, 3, 4, 5, 6, 7, 8, 9, 10, 11] rfl
  refine va_callv (va_runV (As := [.int p1]) (rest := []) ⟨hx, hb, hml, hown, hts⟩ (kX11_needFunction l dC dI (p0a := (st0 (p0a 0) p0a)) (p0w := p0w) (p1 := p1) (p0_8a := p0_8a) (p0_8k := p0_8k) (p0_8w := p0_8w) (p0_8l := p0_8l) (sz := _) (o := o_1) (hrun := hc_1)) (cwV 1 hts (gi_V qw813 qw814 qw815 qw159 (gi_z qw812)) rfl rfl rfl (by decide +kernel) ⟨Nat.le_of_ble_eq_true rfl, Nat.le_of_ble_eq_true rfl⟩) ⟨PRE.blind, va_recv hKc hPc (ci := 11) (q0 := 0) rfl rfl, PRE.of hE hS hFc hPc hKc hDc⟩ rfl rfl hl.1 rfl (lv_room (Nat.le_of_ble_eq_true rfl)) dX11_rounds_2 ⟨Nat.le_of_ble_eq_true rfl, Nat.le_of_ble_eq_true rfl⟩) hS (fun q _ h => hFc q h) hFc (fun u t H locs ht hvm hw hB hz1 hk1 hS => ?_)
  obtain ⟨hP, hD, hK⟩ := JOIN (wr := (oX0 (p0a 6) p0_5a p0_5k p0_5n p0_5w)) hP hD hK [0, 1, 2, 3, 4, 5, 6, 7, 8, 9, 10, 11] [12, 13, 14, 15, 16, 17, 18, 19, 20] [10, 11, 12, 13, 14, 15, 16, 17] rfl rfl (by decide) (by decide) rfl hk1 hFc ht hvm hB
  have hP : va_P (dC, dI) cls ((oX11 (p0a 0) p0a p0w) ++ (oX6 (p0a 9) p0_8a p0_8k p0_8w p0_8l) ++ (oX0 (p0a 6) p0_5a p0_5k p0_5n p0_5w)) H := hP.sub [9, 10, 11, 12, 13, 14, 15, 16, 17, 18, 19, 20, 0, 1, 2, 3, 4, 5, 6, 7, 8] rfl
  have hD : va_D A ((oX11 (p0a 0) p0a p0w) ++ (oX6 (p0a 9) p0_8a p0_8k p0_8w p0_8l) ++ (oX0 (p0a 6) p0_5a p0_5k p0_5n p0_5w)) := hD.sub [9, 10, 11, 12, 13, 14, 15, 16, 17, 18, 19, 20, 0, 1, 2, 3, 4, 5, 6, 7, 8] (by decide) rfl
  have hK : va_K (dC, dI) cls ((tX6 p0_8k) ++ (tX0 p0_5k)) s := hK.sub [8, 9, 10, 11, 12, 13, 14, 15, 16, 17, 0, 1, 2, 3, 4, 5, 6, 7] rfl
  refine lv_aload_n hx hb dX11_rounds_5 rfl (lv_at hl 0 rfl) ?_
  refine va_get (D := (dC, dI)) (ci := 11) (v := .ref (p0a 6)) (C := RX11) (T := TX11) (N := 11) hx hb hts i_X11 hown hK hP 0 rfl rfl 5 (by decide) (hts _ qw810) (fun _ h9 => h9) rfl dX11_rounds_6 ?_
  refine va_get (D := (dC, dI)) (ci := 8) (v := .int (p0_5w 0 5)) (C := RX0) (T := TX0) (N := 17) hx hb hts i_X0 hown hK hP 12 rfl rfl 5 (by decide) (hts _ qw816) (fun _ h9 => h9) rfl dX11_rounds_9 ?_
  have J28 : ∀ (y0_28 : Int32) (H : Heap) (locs : List Loc) (ls : Array Slot), (fX11_rounds_J28 y0_28) = some o → va_P (dC, dI) cls ((oX11 (p0a 0) p0a p0w) ++ (oX6 (p0a 9) p0_8a p0_8k p0_8w p0_8l) ++ (oX0 (p0a 6) p0_5a p0_5k p0_5n p0_5w)) H → va_D A ((oX11 (p0a 0) p0a p0w) ++ (oX6 (p0a 9) p0_8a p0_8k p0_8w p0_8l) ++ (oX0 (p0a 6) p0_5a p0_5k p0_5n p0_5w)) → va_S A s.heap H locs → lv_has ls 2 [] → W p l e ({ frames := 1, cells := 0, slots := 0, locals := 21 } : Room) s m ([.ref (p0a 0), .int p1] : List Value).toArray below meth c H locs 0 0 Q (F0 m 28 ls [.int y0_28]) := by
    intro y0_28 H locs ls hrun hP hD hS hl
    unfold fX11_rounds_J28 at hrun
    have ho9 : y0_28 = o := Option.some.inj hrun
    have hP9 : va_P (dC, dI) cls ((oX11 (p0a 0) p0a p0w) ++ (oX6 (p0a 9) p0_8a p0_8k p0_8w p0_8l) ++ (oX0 (p0a 6) p0_5a p0_5k p0_5n p0_5w)) H := by first | exact hP | (rw [← ho9]; exact hP)
    have hD9 : va_D A ((oX11 (p0a 0) p0a p0w) ++ (oX6 (p0a 9) p0_8a p0_8k p0_8w p0_8l) ++ (oX0 (p0a 6) p0_5a p0_5k p0_5n p0_5w)) := by first | exact hD | (rw [← ho9]; exact hD)
    subst hQ
    exact W.iret (v := y0_28) hx hb hr (fun t ht hW => ⟨⟨y0_28, (), rfl, (by rw [← ho9]), ⟨by rw [ht]; exact hP9, va_K.moved hW.alike hK, hD9⟩⟩, hS.F ht⟩) hS.2.2 dX11_rounds_28
  rcases br9 hrun with ⟨hc2, hrun⟩ | ⟨hc2, hrun⟩
  · refine lv_if_eq (tgt := 27) hx hb dX11_rounds_12 (by decide) (fun _ => ?_) (fun c => absurd hc2 c)
    refine lv_iconst (v := 0) hx hb dX11_rounds_27 (by decide) ?_
    exact J28 0 _ _ _ hrun hP hD hS (lv_sub hl [] rfl)
  · refine lv_if_eq (tgt := 27) hx hb dX11_rounds_12 (by decide) (fun c => absurd c hc2) (fun _ => ?_)
    refine lv_aload_n hx hb dX11_rounds_15 rfl (lv_at hl 0 rfl) ?_
    refine va_get (D := (dC, dI)) (ci := 11) (v := .ref (p0a 6)) (C := RX11) (T := TX11) (N := 11) hx hb hts i_X11 hown hK hP 0 rfl rfl 5 (by decide) (hts _ qw810) (fun _ h9 => h9) rfl dX11_rounds_16 ?_
    refine va_get (D := (dC, dI)) (ci := 8) (v := .ref (p0_5a 5)) (C := RX0) (T := TX0) (N := 17) hx hb hts i_X0 hown hK hP 12 rfl rfl 4 (by decide) (hts _ qw869) (fun _ h9 => h9) rfl dX11_rounds_19 ?_
    refine lv_iload_n hx hb dX11_rounds_22 rfl (lv_at hl 1 rfl) ?_
    obtain ⟨hq3, hrun⟩ := chk9 hrun
    refine va_iald hx hb hK hP 15 12 rfl rfl (ixb_in hq3) dX11_rounds_23 ?_
    refine lv_goto (tgt := 28) hx hb dX11_rounds_24 (by decide) ?_
    exact J28 (p0_5w 5 (nn p1)) _ _ _ hrun hP hD hS (lv_sub hl [] rfl)
def fX11_slots_J28 (y0_28 : Int32) : Option Int32 := some y0_28
def fX11_slots (p1 : Int32) (p0_8w : ST) (p0_5w : ST) : Option Int32 := ((fX11_needFunction p1 p0_8w).bind fun (o_1 : Unit) => (if (p0_5w 0 5) = 0 then (fX11_slots_J28 0) else (if ixb p1 6 = true then (fX11_slots_J28 (p0_5w 3 (nn p1))) else none)))
set_option maxHeartbeats 16000000 in
set_option maxRecDepth 100000 in
theorem kX11_slots {zs : Nat × Nat} (l : Launch) (dC : Nat → ClassId) (dI : Nat → Nat → Nat) (p0a : Nat → Nat) (p0w : ST) (p1 : Int32) (p0_8a : Nat → Nat) (p0_8k : Nat → ClassId) (p0_8w : ST) (p0_8l : SL) (p0_5a : Nat → Nat) (p0_5k : Nat → ClassId) (p0_5n : Nat → Nat) (p0_5w : ST) (sz : Nat) (o : Int32) (hrun : fX11_slots p1 p0_8w p0_5w = some o) : Met l yX11_slots (wz yX11_slots cX11_slots 2 (Option.some Jvm.ClassFile.FieldType.int)) ({ frames := 1, cells := 0, slots := 0, locals := 21 } : Room) (va_Pc [.ref (p0a 0), .int p1] (PRE zs dC dI ((oX11 (p0a 0) p0a p0w) ++ (oX6 (p0a 9) p0_8a p0_8k p0_8w p0_8l) ++ (oX0 (p0a 6) p0_5a p0_5k p0_5n p0_5w)) ((tX6 p0_8k) ++ (tX0 p0_5k)) sz)) (va_Qi (fun (r : Int32) (_ : Unit) => r = o) (fun _ t => POST dC dI ((oX11 (p0a 0) p0a p0w) ++ (oX6 (p0a 9) p0_8a p0_8k p0_8w p0_8l) ++ (oX0 (p0a 6) p0_5a p0_5k p0_5n p0_5w)) ((tX6 p0_8k) ++ (tX0 p0_5k)) (va_A ((oX11 (p0a 0) p0a p0w) ++ (oX6 (p0a 9) p0_8a p0_8k p0_8w p0_8l) ++ (oX0 (p0a 6) p0_5a p0_5k p0_5n p0_5w)) sz) t) (va_A ((oX11 (p0a 0) p0a p0w) ++ (oX6 (p0a 9) p0_8a p0_8k p0_8w p0_8l) ++ (oX0 (p0a 6) p0_5a p0_5k p0_5n p0_5w)) sz)) 0 0 (va_A ((oX11 (p0a 0) p0a p0w) ++ (oX6 (p0a 9) p0_8a p0_8k p0_8w p0_8l) ++ (oX0 (p0a 6) p0_5a p0_5k p0_5n p0_5w)) sz) := by
  refine Met.ofW (cc := cX11_slots) (maxL := 2) (ret := (Option.some Jvm.ClassFile.FieldType.int)) (by decide) rfl ?_
  intro p e s m args below meth c s₁ B hml hv
  obtain ⟨rfl, hsz, hP, hK, hD0, hE⟩ := hv
  have hx := B.exec
  have hb := B.bytes
  have hr := B.returns
  have hts0 := atoms_spec (ws := wz yX11_slots cX11_slots 2 (Option.some Jvm.ClassFile.FieldType.int)) B.pre
  have hts : ∀ w ∈ gw, w.before _ s = true := fun w h => hts0 w (List.mem_cons_of_mem _ h)
  have hown : s.vm.findClass RX11 = some m.cls := findClass_of_methodNamed B.named
  have hlocks := B.notSynchronized
  subst hsz
  have hD := hD0.self (sz := s.heap.size)
  refine gQ9 ?_
  intro Q hQ
  generalize hAe : va_A ((oX11 (p0a 0) p0a p0w) ++ (oX6 (p0a 9) p0_8a p0_8k p0_8w p0_8l) ++ (oX0 (p0a 6) p0_5a p0_5k p0_5n p0_5w)) s.heap.size = A at hD hE hQ
  have hA : ∀ q : Nat, s.heap.size ≤ q → A q := fun q h => by rw [← hAe]; exact Or.inr h
  have hS : va_S A s.heap s.heap [] := va_S.rf
  have hP : va_P (dC, dI) cls ((oX11 (p0a 0) p0a p0w) ++ (oX6 (p0a 9) p0_8a p0_8k p0_8w p0_8l) ++ (oX0 (p0a 6) p0_5a p0_5k p0_5n p0_5w)) s.heap := hP
  have hl := lv_entry ([.ref (p0a 0), .int p1]) (n := 2) (Nat.le_of_ble_eq_true rfl)
  rw [lg_entry_eq]
  generalize (lg_sl ([.ref (p0a 0), .int p1]) ++ List.replicate (2 - (lg_sl ([.ref (p0a 0), .int p1])).length) Slot.unset).toArray = ls at hl ⊢
  have hl : lv_has ls 2 [(0, .ref (p0a 0)), (1, .int p1)] := hl
  obtain ⟨H, hHe⟩ : ∃ H, H = s.heap := ⟨_, rfl⟩
  obtain ⟨locs, hle⟩ : ∃ locs : List Loc, locs = [] := ⟨_, rfl⟩
  rw [← hHe] at hP
  have hS : va_S A s.heap H locs := by rw [hHe, hle]; exact hS
  show W p l e ({ frames := 1, cells := 0, slots := 0, locals := 21 } : Room) s m ([.ref (p0a 0), .int p1] : List Value).toArray below meth c s.heap [] 0 0 Q (F0 m 0 ls [])
  rw [← hle]
  refine wH9 hHe ?_
  unfold fX11_slots at hrun
  refine lv_aload_n hx hb dX11_slots_0 rfl (lv_at hl 0 rfl) ?_
  refine lv_iload_n hx hb dX11_slots_1 rfl (lv_at hl 1 rfl) ?_
  obtain ⟨o_1, hc_1, hrun⟩ := bnd9 hrun
  have hPc := hP.sub (ws' := ((oX11 (p0a 0) p0a p0w) ++ (oX6 (p0a 9) p0_8a p0_8k p0_8w p0_8l))) [0, 1, 2, 3, 4, 5, 6, 7, 8, 9, 10, 11] rfl
  have hDc := hD.sub (ws' := ((oX11 (p0a 0) p0a p0w) ++ (oX6 (p0a 9) p0_8a p0_8k p0_8w p0_8l))) [0, 1, 2, 3, 4, 5, 6, 7, 8, 9, 10, 11] (by decide) rfl
  have hKc := hK.sub (tys' := (tX6 p0_8k)) [0, 1, 2, 3, 4, 5, 6, 7, 8, 9] rfl
  have hFc := va_free (wc := ((oX11 (p0a 0) p0a p0w) ++ (oX6 (p0a 9) p0_8a p0_8k p0_8w p0_8l))) hD hS hA [0, 1, 2, 3, 4, 5, 6, 7, 8, 9, 10, 11] rfl
  refine va_callv (va_runV (As := [.int p1]) (rest := []) ⟨hx, hb, hml, hown, hts⟩ (kX11_needFunction l dC dI (p0a := (st0 (p0a 0) p0a)) (p0w := p0w) (p1 := p1) (p0_8a := p0_8a) (p0_8k := p0_8k) (p0_8w := p0_8w) (p0_8l := p0_8l) (sz := _) (o := o_1) (hrun := hc_1)) (cwV 1 hts (gi_V qw813 qw814 qw815 qw159 (gi_z qw812)) rfl rfl rfl (by decide +kernel) ⟨Nat.le_of_ble_eq_true rfl, Nat.le_of_ble_eq_true rfl⟩) ⟨PRE.blind, va_recv hKc hPc (ci := 11) (q0 := 0) rfl rfl, PRE.of hE hS hFc hPc hKc hDc⟩ rfl rfl hl.1 rfl (lv_room (Nat.le_of_ble_eq_true rfl)) dX11_slots_2 ⟨Nat.le_of_ble_eq_true rfl, Nat.le_of_ble_eq_true rfl⟩) hS (fun q _ h => hFc q h) hFc (fun u t H locs ht hvm hw hB hz1 hk1 hS => ?_)
  obtain ⟨hP, hD, hK⟩ := JOIN (wr := (oX0 (p0a 6) p0_5a p0_5k p0_5n p0_5w)) hP hD hK [0, 1, 2, 3, 4, 5, 6, 7, 8, 9, 10, 11] [12, 13, 14, 15, 16, 17, 18, 19, 20] [10, 11, 12, 13, 14, 15, 16, 17] rfl rfl (by decide) (by decide) rfl hk1 hFc ht hvm hB
  have hP : va_P (dC, dI) cls ((oX11 (p0a 0) p0a p0w) ++ (oX6 (p0a 9) p0_8a p0_8k p0_8w p0_8l) ++ (oX0 (p0a 6) p0_5a p0_5k p0_5n p0_5w)) H := hP.sub [9, 10, 11, 12, 13, 14, 15, 16, 17, 18, 19, 20, 0, 1, 2, 3, 4, 5, 6, 7, 8] rfl
  have hD : va_D A ((oX11 (p0a 0) p0a p0w) ++ (oX6 (p0a 9) p0_8a p0_8k p0_8w p0_8l) ++ (oX0 (p0a 6) p0_5a p0_5k p0_5n p0_5w)) := hD.sub [9, 10, 11, 12, 13, 14, 15, 16, 17, 18, 19, 20, 0, 1, 2, 3, 4, 5, 6, 7, 8] (by decide) rfl
  have hK : va_K (dC, dI) cls ((tX6 p0_8k) ++ (tX0 p0_5k)) s := hK.sub [8, 9, 10, 11, 12, 13, 14, 15, 16, 17, 0, 1, 2, 3, 4, 5, 6, 7] rfl
  refine lv_aload_n hx hb dX11_slots_5 rfl (lv_at hl 0 rfl) ?_
  refine va_get (D := (dC, dI)) (ci := 11) (v := .ref (p0a 6)) (C := RX11) (T := TX11) (N := 11) hx hb hts i_X11 hown hK hP 0 rfl rfl 5 (by decide) (hts _ qw810) (fun _ h9 => h9) rfl dX11_slots_6 ?_
  refine va_get (D := (dC, dI)) (ci := 8) (v := .int (p0_5w 0 5)) (C := RX0) (T := TX0) (N := 17) hx hb hts i_X0 hown hK hP 12 rfl rfl 5 (by decide) (hts _ qw816) (fun _ h9 => h9) rfl dX11_slots_9 ?_
  have J28 : ∀ (y0_28 : Int32) (H : Heap) (locs : List Loc) (ls : Array Slot), (fX11_slots_J28 y0_28) = some o → va_P (dC, dI) cls ((oX11 (p0a 0) p0a p0w) ++ (oX6 (p0a 9) p0_8a p0_8k p0_8w p0_8l) ++ (oX0 (p0a 6) p0_5a p0_5k p0_5n p0_5w)) H → va_D A ((oX11 (p0a 0) p0a p0w) ++ (oX6 (p0a 9) p0_8a p0_8k p0_8w p0_8l) ++ (oX0 (p0a 6) p0_5a p0_5k p0_5n p0_5w)) → va_S A s.heap H locs → lv_has ls 2 [] → W p l e ({ frames := 1, cells := 0, slots := 0, locals := 21 } : Room) s m ([.ref (p0a 0), .int p1] : List Value).toArray below meth c H locs 0 0 Q (F0 m 28 ls [.int y0_28]) := by
    intro y0_28 H locs ls hrun hP hD hS hl
    unfold fX11_slots_J28 at hrun
    have ho9 : y0_28 = o := Option.some.inj hrun
    have hP9 : va_P (dC, dI) cls ((oX11 (p0a 0) p0a p0w) ++ (oX6 (p0a 9) p0_8a p0_8k p0_8w p0_8l) ++ (oX0 (p0a 6) p0_5a p0_5k p0_5n p0_5w)) H := by first | exact hP | (rw [← ho9]; exact hP)
    have hD9 : va_D A ((oX11 (p0a 0) p0a p0w) ++ (oX6 (p0a 9) p0_8a p0_8k p0_8w p0_8l) ++ (oX0 (p0a 6) p0_5a p0_5k p0_5n p0_5w)) := by first | exact hD | (rw [← ho9]; exact hD)
    subst hQ
    exact W.iret (v := y0_28) hx hb hr (fun t ht hW => ⟨⟨y0_28, (), rfl, (by rw [← ho9]), ⟨by rw [ht]; exact hP9, va_K.moved hW.alike hK, hD9⟩⟩, hS.F ht⟩) hS.2.2 dX11_slots_28
  rcases br9 hrun with ⟨hc2, hrun⟩ | ⟨hc2, hrun⟩
  · refine lv_if_eq (tgt := 27) hx hb dX11_slots_12 (by decide) (fun _ => ?_) (fun c => absurd hc2 c)
    refine lv_iconst (v := 0) hx hb dX11_slots_27 (by decide) ?_
    exact J28 0 _ _ _ hrun hP hD hS (lv_sub hl [] rfl)
  · refine lv_if_eq (tgt := 27) hx hb dX11_slots_12 (by decide) (fun c => absurd c hc2) (fun _ => ?_)
    refine lv_aload_n hx hb dX11_slots_15 rfl (lv_at hl 0 rfl) ?_
    refine va_get (D := (dC, dI)) (ci := 11) (v := .ref (p0a 6)) (C := RX11) (T := TX11) (N := 11) hx hb hts i_X11 hown hK hP 0 rfl rfl 5 (by decide) (hts _ qw810) (fun _ h9 => h9) rfl dX11_slots_16 ?_
    refine va_get (D := (dC, dI)) (ci := 8) (v := .ref (p0_5a 3)) (C := RX0) (T := TX0) (N := 17) hx hb hts i_X0 hown hK hP 12 rfl rfl 2 (by decide) (hts _ qw871) (fun _ h9 => h9) rfl dX11_slots_19 ?_
    refine lv_iload_n hx hb dX11_slots_22 rfl (lv_at hl 1 rfl) ?_
    obtain ⟨hq3, hrun⟩ := chk9 hrun
    refine va_iald hx hb hK hP 13 10 rfl rfl (ixb_in hq3) dX11_slots_23 ?_
    refine lv_goto (tgt := 28) hx hb dX11_slots_24 (by decide) ?_
    exact J28 (p0_5w 3 (nn p1)) _ _ _ hrun hP hD hS (lv_sub hl [] rfl)
def fX11_word (p1 : Int32) (p0_6w : ST) : Option Int32 := ((fX11_needPlace p1 16).bind fun (o_1 : Unit) => (if ixb p1 16 = true then some (p0_6w 4 (nn p1)) else none))
set_option maxHeartbeats 16000000 in
set_option maxRecDepth 100000 in
theorem kX11_word {zs : Nat × Nat} (l : Launch) (dC : Nat → ClassId) (dI : Nat → Nat → Nat) (p0a : Nat → Nat) (p0w : ST) (p1 : Int32) (p0_6a : Nat → Nat) (p0_6k : Nat → ClassId) (p0_6n : Nat → Nat) (p0_6w : ST) (sz : Nat) (o : Int32) (hrun : fX11_word p1 p0_6w = some o) : Met l yX11_word (wz yX11_word cX11_word 2 (Option.some Jvm.ClassFile.FieldType.int)) ({ frames := 1, cells := 0, slots := 0, locals := 22 } : Room) (va_Pc [.ref (p0a 0), .int p1] (PRE zs dC dI ((oX11 (p0a 0) p0a p0w) ++ (oX3 (p0a 7) p0_6a p0_6k p0_6n p0_6w)) (tX3 p0_6k) sz)) (va_Qi (fun (r : Int32) (_ : Unit) => r = o) (fun _ t => POST dC dI ((oX11 (p0a 0) p0a p0w) ++ (oX3 (p0a 7) p0_6a p0_6k p0_6n p0_6w)) (tX3 p0_6k) (va_A ((oX11 (p0a 0) p0a p0w) ++ (oX3 (p0a 7) p0_6a p0_6k p0_6n p0_6w)) sz) t) (va_A ((oX11 (p0a 0) p0a p0w) ++ (oX3 (p0a 7) p0_6a p0_6k p0_6n p0_6w)) sz)) 0 0 (va_A ((oX11 (p0a 0) p0a p0w) ++ (oX3 (p0a 7) p0_6a p0_6k p0_6n p0_6w)) sz) := by
  refine Met.ofW (cc := cX11_word) (maxL := 2) (ret := (Option.some Jvm.ClassFile.FieldType.int)) (by decide) rfl ?_
  intro p e s m args below meth c s₁ B hml hv
  obtain ⟨rfl, hsz, hP, hK, hD0, hE⟩ := hv
  have hx := B.exec
  have hb := B.bytes
  have hr := B.returns
  have hts0 := atoms_spec (ws := wz yX11_word cX11_word 2 (Option.some Jvm.ClassFile.FieldType.int)) B.pre
  have hts : ∀ w ∈ gw, w.before _ s = true := fun w h => hts0 w (List.mem_cons_of_mem _ h)
  have hown : s.vm.findClass RX11 = some m.cls := findClass_of_methodNamed B.named
  have hlocks := B.notSynchronized
  subst hsz
  have hD := hD0.self (sz := s.heap.size)
  refine gQ9 ?_
  intro Q hQ
  generalize hAe : va_A ((oX11 (p0a 0) p0a p0w) ++ (oX3 (p0a 7) p0_6a p0_6k p0_6n p0_6w)) s.heap.size = A at hD hE hQ
  have hA : ∀ q : Nat, s.heap.size ≤ q → A q := fun q h => by rw [← hAe]; exact Or.inr h
  have hS : va_S A s.heap s.heap [] := va_S.rf
  have hP : va_P (dC, dI) cls ((oX11 (p0a 0) p0a p0w) ++ (oX3 (p0a 7) p0_6a p0_6k p0_6n p0_6w)) s.heap := hP
  have hl := lv_entry ([.ref (p0a 0), .int p1]) (n := 2) (Nat.le_of_ble_eq_true rfl)
  rw [lg_entry_eq]
  generalize (lg_sl ([.ref (p0a 0), .int p1]) ++ List.replicate (2 - (lg_sl ([.ref (p0a 0), .int p1])).length) Slot.unset).toArray = ls at hl ⊢
  have hl : lv_has ls 2 [(0, .ref (p0a 0)), (1, .int p1)] := hl
  obtain ⟨H, hHe⟩ : ∃ H, H = s.heap := ⟨_, rfl⟩
  obtain ⟨locs, hle⟩ : ∃ locs : List Loc, locs = [] := ⟨_, rfl⟩
  rw [← hHe] at hP
  have hS : va_S A s.heap H locs := by rw [hHe, hle]; exact hS
  show W p l e ({ frames := 1, cells := 0, slots := 0, locals := 22 } : Room) s m ([.ref (p0a 0), .int p1] : List Value).toArray below meth c s.heap [] 0 0 Q (F0 m 0 ls [])
  rw [← hle]
  refine wH9 hHe ?_
  unfold fX11_word at hrun
  refine lv_aload_n hx hb dX11_word_0 rfl (lv_at hl 0 rfl) ?_
  refine lv_iload_n hx hb dX11_word_1 rfl (lv_at hl 1 rfl) ?_
  refine lv_bipush (v := 16) hx hb dX11_word_2 (by decide) ?_
  obtain ⟨o_1, hc_1, hrun⟩ := bnd9 hrun
  have hPc := hP.sub (ws' := (oX11 (p0a 0) p0a p0w)) [0] rfl
  have hDc := hD.sub (ws' := (oX11 (p0a 0) p0a p0w)) [0] (by decide) rfl
  have hKc := hK.sub (tys' := ([] : List (ClassId × FieldType))) [] rfl
  have hFc := va_free (wc := (oX11 (p0a 0) p0a p0w)) hD hS hA [0] rfl
  refine va_callv (va_runV (As := [.int p1, .int 16]) (rest := []) ⟨hx, hb, hml, hown, hts⟩ (kX11_needPlace l dC dI (p0a := (st0 (p0a 0) p0a)) (p0w := p0w) (p1 := p1) (p2 := 16) (sz := _) (o := o_1) (hrun := hc_1)) (cwV 2 hts (gi_V qw873 qw874 qw875 qw159 (gi_z qw872)) rfl rfl rfl (by decide +kernel) ⟨Nat.le_of_ble_eq_true rfl, Nat.le_of_ble_eq_true rfl⟩) ⟨PRE.blind, va_recv hKc hPc (ci := 11) (q0 := 0) rfl rfl, PRE.of hE hS hFc hPc hKc hDc⟩ rfl rfl hl.1 rfl (lv_room (Nat.le_of_ble_eq_true rfl)) dX11_word_4 ⟨Nat.le_of_ble_eq_true rfl, Nat.le_of_ble_eq_true rfl⟩) hS (fun q _ h => hFc q h) hFc (fun u t H locs ht hvm hw hB hz1 hk1 hS => ?_)
  obtain ⟨hP, hD, hK⟩ := JOIN (wr := (oX3 (p0a 7) p0_6a p0_6k p0_6n p0_6w)) hP hD hK [0] [1, 2, 3, 4, 5, 6, 7, 8, 9, 10, 11] [0, 1, 2, 3, 4, 5, 6, 7, 8, 9] rfl rfl (by decide) (by decide) rfl hk1 hFc ht hvm hB
  have hP : va_P (dC, dI) cls ((oX11 (p0a 0) p0a p0w) ++ (oX3 (p0a 7) p0_6a p0_6k p0_6n p0_6w)) H := hP.sub [11, 0, 1, 2, 3, 4, 5, 6, 7, 8, 9, 10] rfl
  have hD : va_D A ((oX11 (p0a 0) p0a p0w) ++ (oX3 (p0a 7) p0_6a p0_6k p0_6n p0_6w)) := hD.sub [11, 0, 1, 2, 3, 4, 5, 6, 7, 8, 9, 10] (by decide) rfl
  have hK : va_K (dC, dI) cls (tX3 p0_6k) s := hK.sub [0, 1, 2, 3, 4, 5, 6, 7, 8, 9] rfl
  refine lv_aload_n hx hb dX11_word_7 rfl (lv_at hl 0 rfl) ?_
  refine va_get (D := (dC, dI)) (ci := 11) (v := .ref (p0a 7)) (C := RX11) (T := TX11) (N := 11) hx hb hts i_X11 hown hK hP 0 rfl rfl 6 (by decide) (hts _ qw819) (fun _ h9 => h9) rfl dX11_word_8 ?_
  refine va_get (D := (dC, dI)) (ci := 10) (v := .ref (p0_6a 4)) (C := RX3) (T := TX3) (N := 20) hx hb hts i_X3 hown hK hP 1 rfl rfl 3 (by decide) (hts _ qw831) (fun _ h9 => h9) rfl dX11_word_11 ?_
  refine lv_iload_n hx hb dX11_word_14 rfl (lv_at hl 1 rfl) ?_
  obtain ⟨hq2, hrun⟩ := chk9 hrun
  refine va_iald hx hb hK hP 2 0 rfl rfl (ixb_in hq2) dX11_word_15 ?_
  have ho9 : (p0_6w 4 (nn p1)) = o := Option.some.inj hrun
  have hP9 : va_P (dC, dI) cls ((oX11 (p0a 0) p0a p0w) ++ (oX3 (p0a 7) p0_6a p0_6k p0_6n p0_6w)) H := by first | exact hP | (rw [← ho9]; exact hP)
  have hD9 : va_D A ((oX11 (p0a 0) p0a p0w) ++ (oX3 (p0a 7) p0_6a p0_6k p0_6n p0_6w)) := by first | exact hD | (rw [← ho9]; exact hD)
  subst hQ
  exact W.iret (v := (p0_6w 4 (nn p1))) hx hb hr (fun t ht hW => ⟨⟨(p0_6w 4 (nn p1)), (), rfl, (by rw [← ho9]), ⟨by rw [ht]; exact hP9, va_K.moved hW.alike hK, hD9⟩⟩, hS.F ht⟩) hS.2.2 dX11_word_16
