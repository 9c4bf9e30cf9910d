abbrev cX11_needFunction : ByteArray := prog_1_method_50_code
def yX11_needFunction : MethodName := ⟨RX11, "needFunction", "(I)V"⟩
abbrev cX11_compute : ByteArray := prog_1_method_64_code
def yX11_compute : MethodName := ⟨RX11, "compute", "(III)I"⟩
abbrev cX11_digestStep : ByteArray := prog_1_method_62_code
def yX11_digestStep : MethodName := ⟨RX11, "digestStep", "(JLGearbox$Steps;I)J"⟩
abbrev cX11_feed : ByteArray := prog_1_method_2_code
def yX11_feed : MethodName := ⟨RX11, "feed", "(IIIII)I"⟩
abbrev cX10_append : ByteArray := prog_12_method_2_code
def yX10_append : MethodName := ⟨RX10, "append", "(I)V"⟩
abbrev cX11_functions : ByteArray := prog_1_method_7_code
def yX11_functions : MethodName := ⟨RX11, "functions", "()I"⟩
abbrev cX11_givesValue : ByteArray := prog_1_method_66_code
def yX11_givesValue : MethodName := ⟨RX11, "givesValue", "(I)Z"⟩
abbrev cX11_holds : ByteArray := prog_1_method_69_code
def yX11_holds : MethodName := ⟨RX11, "holds", "(JI)Z"⟩
abbrev cX11_isFailing : ByteArray := prog_1_method_63_code
def yX11_isFailing : MethodName := ⟨RX11, "isFailing", "(II)Z"⟩
abbrev cX11_isOperator : ByteArray := prog_1_method_65_code
def yX11_isOperator : MethodName := ⟨RX11, "isOperator", "(I)Z"⟩
abbrev cX11_needPlace : ByteArray := prog_1_method_51_code
def yX11_needPlace : MethodName := ⟨RX11, "needPlace", "(II)V"⟩
abbrev cX11_result : ByteArray := prog_1_method_44_code
def yX11_result : MethodName := ⟨RX11, "result", "()I"⟩
abbrev cX11_rounds : ByteArray := prog_1_method_41_code
def yX11_rounds : MethodName := ⟨RX11, "rounds", "(I)I"⟩
abbrev cX11_slots : ByteArray := prog_1_method_39_code
def yX11_slots : MethodName := ⟨RX11, "slots", "(I)I"⟩
abbrev cX11_usesLeft : ByteArray := prog_1_method_67_code
def yX11_usesLeft : MethodName := ⟨RX11, "usesLeft", "(I)Z"⟩
abbrev cX11_usesRight : ByteArray := prog_1_method_68_code
def yX11_usesRight : MethodName := ⟨RX11, "usesRight", "(I)Z"⟩
abbrev cX11_word : ByteArray := prog_1_method_46_code
def yX11_word : MethodName := ⟨RX11, "word", "(I)I"⟩
theorem dX10_append_0 : decode cX10_append 0 = .ok (.bipush 24, 2) := by decide +kernel
theorem dX10_append_2 : decode cX10_append 2 = .ok (.istore_n 2, 1) := by decide +kernel
theorem dX10_append_3 : decode cX10_append 3 = .ok (.iload_n 2, 1) := by decide +kernel
theorem dX10_append_4 : decode cX10_append 4 = .ok (.ifCond .lt 45, 3) := by decide +kernel
theorem dX10_append_7 : decode cX10_append 7 = .ok (.aload_n 0, 1) := by decide +kernel
theorem dX10_append_8 : decode cX10_append 8 = .ok (.getfield 15, 3) := by decide +kernel
theorem dX10_append_11 : decode cX10_append 11 = .ok (.sipush 1200, 3) := by decide +kernel
theorem dX10_append_14 : decode cX10_append 14 = .ok (.if_icmp .ge 35, 3) := by decide +kernel
theorem dX10_append_17 : decode cX10_append 17 = .ok (.aload_n 0, 1) := by decide +kernel
theorem dX10_append_18 : decode cX10_append 18 = .ok (.getfield 9, 3) := by decide +kernel
theorem dX10_append_21 : decode cX10_append 21 = .ok (.aload_n 0, 1) := by decide +kernel
theorem dX10_append_22 : decode cX10_append 22 = .ok (.getfield 15, 3) := by decide +kernel
theorem dX10_append_25 : decode cX10_append 25 = .ok (.iload_n 1, 1) := by decide +kernel
theorem dX10_append_26 : decode cX10_append 26 = .ok (.iload_n 2, 1) := by decide +kernel
theorem dX10_append_27 : decode cX10_append 27 = .ok (.iushr, 1) := by decide +kernel
theorem dX10_append_28 : decode cX10_append 28 = .ok (.sipush 255, 3) := by decide +kernel
theorem dX10_append_31 : decode cX10_append 31 = .ok (.iand, 1) := by decide +kernel
theorem dX10_append_32 : decode cX10_append 32 = .ok (.iastore, 1) := by decide +kernel
theorem dX10_append_33 : decode cX10_append 33 = .ok (.aload_n 0, 1) := by decide +kernel
theorem dX10_append_34 : decode cX10_append 34 = .ok (.dup, 1) := by decide +kernel
theorem dX10_append_35 : decode cX10_append 35 = .ok (.getfield 15, 3) := by decide +kernel
theorem dX10_append_38 : decode cX10_append 38 = .ok (.iconst 1, 1) := by decide +kernel
theorem dX10_append_39 : decode cX10_append 39 = .ok (.iadd, 1) := by decide +kernel
theorem dX10_append_40 : decode cX10_append 40 = .ok (.putfield 15, 3) := by decide +kernel
theorem dX10_append_43 : decode cX10_append 43 = .ok (.iinc 2 (-8), 3) := by decide +kernel
theorem dX10_append_46 : decode cX10_append 46 = .ok (.goto (-43), 3) := by decide +kernel
theorem dX10_append_49 : decode cX10_append 49 = .ok (.return_, 1) := by decide +kernel
theorem dX11_compute_0 : decode cX11_compute 0 = .ok (.iload_n 0, 1) := by decide +kernel
theorem dX11_compute_1 : decode cX11_compute 1 = .ok (.tableswitch 192 1 15 #[75, 79, 83, 87, 99, 111, 115, 119, 123, 130, 137, 148, 159, 170, 181], 75) := by decide +kernel
theorem dX11_compute_76 : decode cX11_compute 76 = .ok (.iload_n 1, 1) := by decide +kernel
theorem dX11_compute_77 : decode cX11_compute 77 = .ok (.iload_n 2, 1) := by decide +kernel
theorem dX11_compute_78 : decode cX11_compute 78 = .ok (.iadd, 1) := by decide +kernel
theorem dX11_compute_79 : decode cX11_compute 79 = .ok (.ireturn, 1) := by decide +kernel
theorem dX11_compute_80 : decode cX11_compute 80 = .ok (.iload_n 1, 1) := by decide +kernel
theorem dX11_compute_81 : decode cX11_compute 81 = .ok (.iload_n 2, 1) := by decide +kernel
theorem dX11_compute_82 : decode cX11_compute 82 = .ok (.isub, 1) := by decide +kernel
theorem dX11_compute_83 : decode cX11_compute 83 = .ok (.ireturn, 1) := by decide +kernel
theorem dX11_compute_84 : decode cX11_compute 84 = .ok (.iload_n 1, 1) := by decide +kernel
theorem dX11_compute_85 : decode cX11_compute 85 = .ok (.iload_n 2, 1) := by decide +kernel
theorem dX11_compute_86 : decode cX11_compute 86 = .ok (.imul, 1) := by decide +kernel
theorem dX11_compute_87 : decode cX11_compute 87 = .ok (.ireturn, 1) := by decide +kernel
theorem dX11_compute_88 : decode cX11_compute 88 = .ok (.iload_n 2, 1) := by decide +kernel
theorem dX11_compute_89 : decode cX11_compute 89 = .ok (.ifCond .ne 7, 3) := by decide +kernel
theorem dX11_compute_92 : decode cX11_compute 92 = .ok (.iconst 0, 1) := by decide +kernel
theorem dX11_compute_93 : decode cX11_compute 93 = .ok (.goto 6, 3) := by decide +kernel
theorem dX11_compute_96 : decode cX11_compute 96 = .ok (.iload_n 1, 1) := by decide +kernel
theorem dX11_compute_97 : decode cX11_compute 97 = .ok (.iload_n 2, 1) := by decide +kernel
theorem dX11_compute_98 : decode cX11_compute 98 = .ok (.idiv, 1) := by decide +kernel
theorem dX11_compute_99 : decode cX11_compute 99 = .ok (.ireturn, 1) := by decide +kernel
theorem dX11_compute_100 : decode cX11_compute 100 = .ok (.iload_n 2, 1) := by decide +kernel
theorem dX11_compute_101 : decode cX11_compute 101 = .ok (.ifCond .ne 7, 3) := by decide +kernel
theorem dX11_compute_104 : decode cX11_compute 104 = .ok (.iconst 0, 1) := by decide +kernel
theorem dX11_compute_105 : decode cX11_compute 105 = .ok (.goto 6, 3) := by decide +kernel
theorem dX11_compute_108 : decode cX11_compute 108 = .ok (.iload_n 1, 1) := by decide +kernel
theorem dX11_compute_109 : decode cX11_compute 109 = .ok (.iload_n 2, 1) := by decide +kernel
theorem dX11_compute_110 : decode cX11_compute 110 = .ok (.irem, 1) := by decide +kernel
theorem dX11_compute_111 : decode cX11_compute 111 = .ok (.ireturn, 1) := by decide +kernel
theorem dX11_compute_112 : decode cX11_compute 112 = .ok (.iload_n 1, 1) := by decide +kernel
theorem dX11_compute_113 : decode cX11_compute 113 = .ok (.iload_n 2, 1) := by decide +kernel
theorem dX11_compute_114 : decode cX11_compute 114 = .ok (.iand, 1) := by decide +kernel
theorem dX11_compute_115 : decode cX11_compute 115 = .ok (.ireturn, 1) := by decide +kernel
theorem dX11_compute_116 : decode cX11_compute 116 = .ok (.iload_n 1, 1) := by decide +kernel
theorem dX11_compute_117 : decode cX11_compute 117 = .ok (.iload_n 2, 1) := by decide +kernel
theorem dX11_compute_118 : decode cX11_compute 118 = .ok (.ior, 1) := by decide +kernel
theorem dX11_compute_119 : decode cX11_compute 119 = .ok (.ireturn, 1) := by decide +kernel
theorem dX11_compute_120 : decode cX11_compute 120 = .ok (.iload_n 1, 1) := by decide +kernel
theorem dX11_compute_121 : decode cX11_compute 121 = .ok (.iload_n 2, 1) := by decide +kernel
theorem dX11_compute_122 : decode cX11_compute 122 = .ok (.ixor, 1) := by decide +kernel
theorem dX11_compute_123 : decode cX11_compute 123 = .ok (.ireturn, 1) := by decide +kernel
theorem dX11_compute_124 : decode cX11_compute 124 = .ok (.iload_n 1, 1) := by decide +kernel
theorem dX11_compute_125 : decode cX11_compute 125 = .ok (.iload_n 2, 1) := by decide +kernel
theorem dX11_compute_126 : decode cX11_compute 126 = .ok (.bipush 31, 2) := by decide +kernel
theorem dX11_compute_128 : decode cX11_compute 128 = .ok (.iand, 1) := by decide +kernel
theorem dX11_compute_129 : decode cX11_compute 129 = .ok (.ishl, 1) := by decide +kernel
theorem dX11_compute_130 : decode cX11_compute 130 = .ok (.ireturn, 1) := by decide +kernel
theorem dX11_compute_131 : decode cX11_compute 131 = .ok (.iload_n 1, 1) := by decide +kernel
theorem dX11_compute_132 : decode cX11_compute 132 = .ok (.iload_n 2, 1) := by decide +kernel
theorem dX11_compute_133 : decode cX11_compute 133 = .ok (.bipush 31, 2) := by decide +kernel
theorem dX11_compute_135 : decode cX11_compute 135 = .ok (.iand, 1) := by decide +kernel
theorem dX11_compute_136 : decode cX11_compute 136 = .ok (.ishr, 1) := by decide +kernel
theorem dX11_compute_137 : decode cX11_compute 137 = .ok (.ireturn, 1) := by decide +kernel
theorem dX11_compute_138 : decode cX11_compute 138 = .ok (.iload_n 1, 1) := by decide +kernel
theorem dX11_compute_139 : decode cX11_compute 139 = .ok (.iload_n 2, 1) := by decide +kernel
theorem dX11_compute_140 : decode cX11_compute 140 = .ok (.if_icmp .ge 7, 3) := by decide +kernel
theorem dX11_compute_143 : decode cX11_compute 143 = .ok (.iconst 1, 1) := by decide +kernel
theorem dX11_compute_144 : decode cX11_compute 144 = .ok (.goto 4, 3) := by decide +kernel
theorem dX11_compute_147 : decode cX11_compute 147 = .ok (.iconst 0, 1) := by decide +kernel
theorem dX11_compute_148 : decode cX11_compute 148 = .ok (.ireturn, 1) := by decide +kernel
theorem dX11_compute_149 : decode cX11_compute 149 = .ok (.iload_n 1, 1) := by decide +kernel
theorem dX11_compute_150 : decode cX11_compute 150 = .ok (.iload_n 2, 1) := by decide +kernel
theorem dX11_compute_151 : decode cX11_compute 151 = .ok (.if_icmp .gt 7, 3) := by decide +kernel
theorem dX11_compute_154 : decode cX11_compute 154 = .ok (.iconst 1, 1) := by decide +kernel
theorem dX11_compute_155 : decode cX11_compute 155 = .ok (.goto 4, 3) := by decide +kernel
theorem dX11_compute_158 : decode cX11_compute 158 = .ok (.iconst 0, 1) := by decide +kernel
theorem dX11_compute_159 : decode cX11_compute 159 = .ok (.ireturn, 1) := by decide +kernel
theorem dX11_compute_160 : decode cX11_compute 160 = .ok (.iload_n 1, 1) := by decide +kernel
theorem dX11_compute_161 : decode cX11_compute 161 = .ok (.iload_n 2, 1) := by decide +kernel
theorem dX11_compute_162 : decode cX11_compute 162 = .ok (.if_icmp .le 7, 3) := by decide +kernel
theorem dX11_compute_165 : decode cX11_compute 165 = .ok (.iconst 1, 1) := by decide +kernel
theorem dX11_compute_166 : decode cX11_compute 166 = .ok (.goto 4, 3) := by decide +kernel
theorem dX11_compute_169 : decode cX11_compute 169 = .ok (.iconst 0, 1) := by decide +kernel
theorem dX11_compute_170 : decode cX11_compute 170 = .ok (.ireturn, 1) := by decide +kernel
theorem dX11_compute_171 : decode cX11_compute 171 = .ok (.iload_n 1, 1) := by decide +kernel
theorem dX11_compute_172 : decode cX11_compute 172 = .ok (.iload_n 2, 1) := by decide +kernel
theorem dX11_compute_173 : decode cX11_compute 173 = .ok (.if_icmp .lt 7, 3) := by decide +kernel
theorem dX11_compute_176 : decode cX11_compute 176 = .ok (.iconst 1, 1) := by decide +kernel
theorem dX11_compute_177 : decode cX11_compute 177 = .ok (.goto 4, 3) := by decide +kernel
theorem dX11_compute_180 : decode cX11_compute 180 = .ok (.iconst 0, 1) := by decide +kernel
theorem dX11_compute_181 : decode cX11_compute 181 = .ok (.ireturn, 1) := by decide +kernel
theorem dX11_compute_182 : decode cX11_compute 182 = .ok (.iload_n 1, 1) := by decide +kernel
theorem dX11_compute_183 : decode cX11_compute 183 = .ok (.iload_n 2, 1) := by decide +kernel
theorem dX11_compute_184 : decode cX11_compute 184 = .ok (.if_icmp .ne 7, 3) := by decide +kernel
theorem dX11_compute_187 : decode cX11_compute 187 = .ok (.iconst 1, 1) := by decide +kernel
theorem dX11_compute_188 : decode cX11_compute 188 = .ok (.goto 4, 3) := by decide +kernel
theorem dX11_compute_191 : decode cX11_compute 191 = .ok (.iconst 0, 1) := by decide +kernel
theorem dX11_compute_192 : decode cX11_compute 192 = .ok (.ireturn, 1) := by decide +kernel
theorem dX11_compute_193 : decode cX11_compute 193 = .ok (.iload_n 1, 1) := by decide +kernel
theorem dX11_compute_194 : decode cX11_compute 194 = .ok (.iload_n 2, 1) := by decide +kernel
theorem dX11_compute_195 : decode cX11_compute 195 = .ok (.if_icmp .eq 7, 3) := by decide +kernel
theorem dX11_compute_198 : decode cX11_compute 198 = .ok (.iconst 1, 1) := by decide +kernel
theorem dX11_compute_199 : decode cX11_compute 199 = .ok (.goto 4, 3) := by decide +kernel
theorem dX11_compute_202 : decode cX11_compute 202 = .ok (.iconst 0, 1) := by decide +kernel
theorem dX11_compute_203 : decode cX11_compute 203 = .ok (.ireturn, 1) := by decide +kernel
theorem dX11_digestStep_0 : decode cX11_digestStep 0 = .ok (.lload_n 0, 1) := by decide +kernel
theorem dX11_digestStep_1 : decode cX11_digestStep 1 = .ok (.lstore 4, 2) := by decide +kernel
theorem dX11_digestStep_3 : decode cX11_digestStep 3 = .ok (.lload 4, 2) := by decide +kernel
theorem dX11_digestStep_5 : decode cX11_digestStep 5 = .ok (.ldc2_w 323, 3) := by decide +kernel
theorem dX11_digestStep_8 : decode cX11_digestStep 8 = .ok (.lmul, 1) := by decide +kernel
theorem dX11_digestStep_9 : decode cX11_digestStep 9 = .ok (.aload_n 2, 1) := by decide +kernel
theorem dX11_digestStep_10 : decode cX11_digestStep 10 = .ok (.getfield 214, 3) := by decide +kernel
theorem dX11_digestStep_13 : decode cX11_digestStep 13 = .ok (.iload_n 3, 1) := by decide +kernel
theorem dX11_digestStep_14 : decode cX11_digestStep 14 = .ok (.iaload, 1) := by decide +kernel
theorem dX11_digestStep_15 : decode cX11_digestStep 15 = .ok (.i2l, 1) := by decide +kernel
theorem dX11_digestStep_16 : decode cX11_digestStep 16 = .ok (.ladd, 1) := by decide +kernel
theorem dX11_digestStep_17 : decode cX11_digestStep 17 = .ok (.lstore 4, 2) := by decide +kernel
theorem dX11_digestStep_19 : decode cX11_digestStep 19 = .ok (.lload 4, 2) := by decide +kernel
theorem dX11_digestStep_21 : decode cX11_digestStep 21 = .ok (.ldc2_w 323, 3) := by decide +kernel
theorem dX11_digestStep_24 : decode cX11_digestStep 24 = .ok (.lmul, 1) := by decide +kernel
theorem dX11_digestStep_25 : decode cX11_digestStep 25 = .ok (.aload_n 2, 1) := by decide +kernel
theorem dX11_digestStep_26 : decode cX11_digestStep 26 = .ok (.getfield 219, 3) := by decide +kernel
theorem dX11_digestStep_29 : decode cX11_digestStep 29 = .ok (.iload_n 3, 1) := by decide +kernel
theorem dX11_digestStep_30 : decode cX11_digestStep 30 = .ok (.iaload, 1) := by decide +kernel
theorem dX11_digestStep_31 : decode cX11_digestStep 31 = .ok (.i2l, 1) := by decide +kernel
theorem dX11_digestStep_32 : decode cX11_digestStep 32 = .ok (.ladd, 1) := by decide +kernel
theorem dX11_digestStep_33 : decode cX11_digestStep 33 = .ok (.lstore 4, 2) := by decide +kernel
theorem dX11_digestStep_35 : decode cX11_digestStep 35 = .ok (.lload 4, 2) := by decide +kernel
theorem dX11_digestStep_37 : decode cX11_digestStep 37 = .ok (.ldc2_w 323, 3) := by decide +kernel
theorem dX11_digestStep_40 : decode cX11_digestStep 40 = .ok (.lmul, 1) := by decide +kernel
theorem dX11_digestStep_41 : decode cX11_digestStep 41 = .ok (.aload_n 2, 1) := by decide +kernel
theorem dX11_digestStep_42 : decode cX11_digestStep 42 = .ok (.getfield 222, 3) := by decide +kernel
theorem dX11_digestStep_45 : decode cX11_digestStep 45 = .ok (.iload_n 3, 1) := by decide +kernel
theorem dX11_digestStep_46 : decode cX11_digestStep 46 = .ok (.iaload, 1) := by decide +kernel
theorem dX11_digestStep_47 : decode cX11_digestStep 47 = .ok (.i2l, 1) := by decide +kernel
theorem dX11_digestStep_48 : decode cX11_digestStep 48 = .ok (.ladd, 1) := by decide +kernel
theorem dX11_digestStep_49 : decode cX11_digestStep 49 = .ok (.lstore 4, 2) := by decide +kernel
theorem dX11_digestStep_51 : decode cX11_digestStep 51 = .ok (.lload 4, 2) := by decide +kernel
theorem dX11_digestStep_53 : decode cX11_digestStep 53 = .ok (.ldc2_w 323, 3) := by decide +kernel
theorem dX11_digestStep_56 : decode cX11_digestStep 56 = .ok (.lmul, 1) := by decide +kernel
theorem dX11_digestStep_57 : decode cX11_digestStep 57 = .ok (.aload_n 2, 1) := by decide +kernel
theorem dX11_digestStep_58 : decode cX11_digestStep 58 = .ok (.getfield 225, 3) := by decide +kernel
theorem dX11_digestStep_61 : decode cX11_digestStep 61 = .ok (.iload_n 3, 1) := by decide +kernel
theorem dX11_digestStep_62 : decode cX11_digestStep 62 = .ok (.iaload, 1) := by decide +kernel
theorem dX11_digestStep_63 : decode cX11_digestStep 63 = .ok (.i2l, 1) := by decide +kernel
theorem dX11_digestStep_64 : decode cX11_digestStep 64 = .ok (.ladd, 1) := by decide +kernel
theorem dX11_digestStep_65 : decode cX11_digestStep 65 = .ok (.lstore 4, 2) := by decide +kernel
theorem dX11_digestStep_67 : decode cX11_digestStep 67 = .ok (.lload 4, 2) := by decide +kernel
theorem dX11_digestStep_69 : decode cX11_digestStep 69 = .ok (.lreturn, 1) := by decide +kernel
theorem dX11_feed_0 : decode cX11_feed 0 = .ok (.aload_n 0, 1) := by decide +kernel
theorem dX11_feed_1 : decode cX11_feed 1 = .ok (.getfield 10, 3) := by decide +kernel
theorem dX11_feed_4 : decode cX11_feed 4 = .ok (.getfield 86, 3) := by decide +kernel
theorem dX11_feed_7 : decode cX11_feed 7 = .ok (.bipush 20, 2) := by decide +kernel
theorem dX11_feed_9 : decode cX11_feed 9 = .ok (.iadd, 1) := by decide +kernel
theorem dX11_feed_10 : decode cX11_feed 10 = .ok (.sipush 1200, 3) := by decide +kernel
theorem dX11_feed_13 : decode cX11_feed 13 = .ok (.if_icmp .le 13, 3) := by decide +kernel
theorem dX11_feed_26 : decode cX11_feed 26 = .ok (.aload_n 0, 1) := by decide +kernel
theorem dX11_feed_27 : decode cX11_feed 27 = .ok (.getfield 10, 3) := by decide +kernel
theorem dX11_feed_30 : decode cX11_feed 30 = .ok (.iload_n 1, 1) := by decide +kernel
theorem dX11_feed_31 : decode cX11_feed 31 = .ok (.invokevirtual 96, 3) := by decide +kernel
theorem dX11_feed_34 : decode cX11_feed 34 = .ok (.aload_n 0, 1) := by decide +kernel
theorem dX11_feed_35 : decode cX11_feed 35 = .ok (.getfield 10, 3) := by decide +kernel
theorem dX11_feed_38 : decode cX11_feed 38 = .ok (.iload_n 2, 1) := by decide +kernel
theorem dX11_feed_39 : decode cX11_feed 39 = .ok (.invokevirtual 96, 3) := by decide +kernel
theorem dX11_feed_42 : decode cX11_feed 42 = .ok (.aload_n 0, 1) := by decide +kernel
theorem dX11_feed_43 : decode cX11_feed 43 = .ok (.getfield 10, 3) := by decide +kernel
theorem dX11_feed_46 : decode cX11_feed 46 = .ok (.iload_n 3, 1) := by decide +kernel
theorem dX11_feed_47 : decode cX11_feed 47 = .ok (.invokevirtual 96, 3) := by decide +kernel
theorem dX11_feed_50 : decode cX11_feed 50 = .ok (.aload_n 0, 1) := by decide +kernel
theorem dX11_feed_51 : decode cX11_feed 51 = .ok (.getfield 10, 3) := by decide +kernel
theorem dX11_feed_54 : decode cX11_feed 54 = .ok (.iload 4, 2) := by decide +kernel
theorem dX11_feed_56 : decode cX11_feed 56 = .ok (.invokevirtual 96, 3) := by decide +kernel
theorem dX11_feed_59 : decode cX11_feed 59 = .ok (.aload_n 0, 1) := by decide +kernel
theorem dX11_feed_60 : decode cX11_feed 60 = .ok (.getfield 10, 3) := by decide +kernel
theorem dX11_feed_63 : decode cX11_feed 63 = .ok (.iload 5, 2) := by decide +kernel
theorem dX11_feed_65 : decode cX11_feed 65 = .ok (.invokevirtual 96, 3) := by decide +kernel
theorem dX11_feed_68 : decode cX11_feed 68 = .ok (.aload_n 0, 1) := by decide +kernel
theorem dX11_feed_69 : decode cX11_feed 69 = .ok (.getfield 10, 3) := by decide +kernel
theorem dX11_feed_72 : decode cX11_feed 72 = .ok (.getfield 86, 3) := by decide +kernel
theorem dX11_feed_75 : decode cX11_feed 75 = .ok (.ireturn, 1) := by decide +kernel
theorem dX11_functions_0 : decode cX11_functions 0 = .ok (.aload_n 0, 1) := by decide +kernel
theorem dX11_functions_1 : decode cX11_functions 1 = .ok (.getfield 61, 3) := by decide +kernel
theorem dX11_functions_4 : decode cX11_functions 4 = .ok (.getfield 112, 3) := by decide +kernel
theorem dX11_functions_7 : decode cX11_functions 7 = .ok (.ireturn, 1) := by decide +kernel
theorem dX11_givesValue_0 : decode cX11_givesValue 0 = .ok (.iload_n 0, 1) := by decide +kernel
theorem dX11_givesValue_1 : decode cX11_givesValue 1 = .ok (.ifCond .lt 9, 3) := by decide +kernel
theorem dX11_givesValue_4 : decode cX11_givesValue 4 = .ok (.iload_n 0, 1) := by decide +kernel
theorem dX11_givesValue_5 : decode cX11_givesValue 5 = .ok (.bipush 17, 2) := by decide +kernel
theorem dX11_givesValue_7 : decode cX11_givesValue 7 = .ok (.if_icmp .le 15, 3) := by decide +kernel
theorem dX11_givesValue_10 : decode cX11_givesValue 10 = .ok (.iload_n 0, 1) := by decide +kernel
theorem dX11_givesValue_11 : decode cX11_givesValue 11 = .ok (.bipush 20, 2) := by decide +kernel
theorem dX11_givesValue_13 : decode cX11_givesValue 13 = .ok (.if_icmp .eq 9, 3) := by decide +kernel
theorem dX11_givesValue_16 : decode cX11_givesValue 16 = .ok (.iload_n 0, 1) := by decide +kernel
theorem dX11_givesValue_17 : decode cX11_givesValue 17 = .ok (.bipush 21, 2) := by decide +kernel
theorem dX11_givesValue_19 : decode cX11_givesValue 19 = .ok (.if_icmp .ne 7, 3) := by decide +kernel
theorem dX11_givesValue_22 : decode cX11_givesValue 22 = .ok (.iconst 1, 1) := by decide +kernel
theorem dX11_givesValue_23 : decode cX11_givesValue 23 = .ok (.goto 4, 3) := by decide +kernel
theorem dX11_givesValue_26 : decode cX11_givesValue 26 = .ok (.iconst 0, 1) := by decide +kernel
theorem dX11_givesValue_27 : decode cX11_givesValue 27 = .ok (.ireturn, 1) := by decide +kernel
theorem dX11_holds_0 : decode cX11_holds 0 = .ok (.lload_n 0, 1) := by decide +kernel
theorem dX11_holds_1 : decode cX11_holds 1 = .ok (.iload_n 2, 1) := by decide +kernel
theorem dX11_holds_2 : decode cX11_holds 2 = .ok (.lushr, 1) := by decide +kernel
theorem dX11_holds_3 : decode cX11_holds 3 = .ok (.lconst 1, 1) := by decide +kernel
theorem dX11_holds_4 : decode cX11_holds 4 = .ok (.land, 1) := by decide +kernel
theorem dX11_holds_5 : decode cX11_holds 5 = .ok (.lconst 0, 1) := by decide +kernel
theorem dX11_holds_6 : decode cX11_holds 6 = .ok (.lcmp, 1) := by decide +kernel
theorem dX11_holds_7 : decode cX11_holds 7 = .ok (.ifCond .eq 7, 3) := by decide +kernel
theorem dX11_holds_10 : decode cX11_holds 10 = .ok (.iconst 1, 1) := by decide +kernel
theorem dX11_holds_11 : decode cX11_holds 11 = .ok (.goto 4, 3) := by decide +kernel
theorem dX11_holds_14 : decode cX11_holds 14 = .ok (.iconst 0, 1) := by decide +kernel
theorem dX11_holds_15 : decode cX11_holds 15 = .ok (.ireturn, 1) := by decide +kernel
theorem dX11_isFailing_0 : decode cX11_isFailing 0 = .ok (.iload_n 0, 1) := by decide +kernel
theorem dX11_isFailing_1 : decode cX11_isFailing 1 = .ok (.iconst 4, 1) := by decide +kernel
theorem dX11_isFailing_2 : decode cX11_isFailing 2 = .ok (.if_icmp .eq 8, 3) := by decide +kernel
theorem dX11_isFailing_5 : decode cX11_isFailing 5 = .ok (.iload_n 0, 1) := by decide +kernel
theorem dX11_isFailing_6 : decode cX11_isFailing 6 = .ok (.iconst 5, 1) := by decide +kernel
theorem dX11_isFailing_7 : decode cX11_isFailing 7 = .ok (.if_icmp .ne 11, 3) := by decide +kernel
theorem dX11_isFailing_10 : decode cX11_isFailing 10 = .ok (.iload_n 1, 1) := by decide +kernel
theorem dX11_isFailing_11 : decode cX11_isFailing 11 = .ok (.ifCond .ne 7, 3) := by decide +kernel
theorem dX11_isFailing_14 : decode cX11_isFailing 14 = .ok (.iconst 1, 1) := by decide +kernel
theorem dX11_isFailing_15 : decode cX11_isFailing 15 = .ok (.goto 4, 3) := by decide +kernel
theorem dX11_isFailing_18 : decode cX11_isFailing 18 = .ok (.iconst 0, 1) := by decide +kernel
theorem dX11_isFailing_19 : decode cX11_isFailing 19 = .ok (.ireturn, 1) := by decide +kernel
theorem dX11_isOperator_0 : decode cX11_isOperator 0 = .ok (.iload_n 0, 1) := by decide +kernel
theorem dX11_isOperator_1 : decode cX11_isOperator 1 = .ok (.iconst 1, 1) := by decide +kernel
theorem dX11_isOperator_2 : decode cX11_isOperator 2 = .ok (.if_icmp .lt 13, 3) := by decide +kernel
theorem dX11_isOperator_5 : decode cX11_isOperator 5 = .ok (.iload_n 0, 1) := by decide +kernel
theorem dX11_isOperator_6 : decode cX11_isOperator 6 = .ok (.bipush 16, 2) := by decide +kernel
theorem dX11_isOperator_8 : decode cX11_isOperator 8 = .ok (.if_icmp .gt 7, 3) := by decide +kernel
theorem dX11_isOperator_11 : decode cX11_isOperator 11 = .ok (.iconst 1, 1) := by decide +kernel
theorem dX11_isOperator_12 : decode cX11_isOperator 12 = .ok (.goto 4, 3) := by decide +kernel
theorem dX11_isOperator_15 : decode cX11_isOperator 15 = .ok (.iconst 0, 1) := by decide +kernel
theorem dX11_isOperator_16 : decode cX11_isOperator 16 = .ok (.ireturn, 1) := by decide +kernel
theorem dX11_needFunction_0 : decode cX11_needFunction 0 = .ok (.iload_n 1, 1) := by decide +kernel
theorem dX11_needFunction_1 : decode cX11_needFunction 1 = .ok (.ifCond .lt 14, 3) := by decide +kernel
theorem dX11_needFunction_4 : decode cX11_needFunction 4 = .ok (.iload_n 1, 1) := by decide +kernel
theorem dX11_needFunction_5 : decode cX11_needFunction 5 = .ok (.aload_n 0, 1) := by decide +kernel
theorem dX11_needFunction_6 : decode cX11_needFunction 6 = .ok (.getfield 61, 3) := by decide +kernel
theorem dX11_needFunction_9 : decode cX11_needFunction 9 = .ok (.getfield 112, 3) := by decide +kernel
theorem dX11_needFunction_12 : decode cX11_needFunction 12 = .ok (.if_icmp .lt 14, 3) := by decide +kernel
theorem dX11_needFunction_26 : decode cX11_needFunction 26 = .ok (.return_, 1) := by decide +kernel
theorem dX11_needPlace_0 : decode cX11_needPlace 0 = .ok (.iload_n 1, 1) := by decide +kernel
theorem dX11_needPlace_1 : decode cX11_needPlace 1 = .ok (.ifCond .lt 8, 3) := by decide +kernel
theorem dX11_needPlace_4 : decode cX11_needPlace 4 = .ok (.iload_n 1, 1) := by decide +kernel
theorem dX11_needPlace_5 : decode cX11_needPlace 5 = .ok (.iload_n 2, 1) := by decide +kernel
theorem dX11_needPlace_6 : decode cX11_needPlace 6 = .ok (.if_icmp .lt 14, 3) := by decide +kernel
theorem dX11_needPlace_20 : decode cX11_needPlace 20 = .ok (.return_, 1) := by decide +kernel
theorem dX11_result_0 : decode cX11_result 0 = .ok (.aload_n 0, 1) := by decide +kernel
theorem dX11_result_1 : decode cX11_result 1 = .ok (.getfield 73, 3) := by decide +kernel
theorem dX11_result_4 : decode cX11_result 4 = .ok (.getfield 298, 3) := by decide +kernel
theorem dX11_result_7 : decode cX11_result 7 = .ok (.ireturn, 1) := by decide +kernel
theorem dX11_rounds_0 : decode cX11_rounds 0 = .ok (.aload_n 0, 1) := by decide +kernel
theorem dX11_rounds_1 : decode cX11_rounds 1 = .ok (.iload_n 1, 1) := by decide +kernel
theorem dX11_rounds_2 : decode cX11_rounds 2 = .ok (.invokevirtual 142, 3) := by decide +kernel
theorem dX11_rounds_5 : decode cX11_rounds 5 = .ok (.aload_n 0, 1) := by decide +kernel
theorem dX11_rounds_6 : decode cX11_rounds 6 = .ok (.getfield 54, 3) := by decide +kernel
theorem dX11_rounds_9 : decode cX11_rounds 9 = .ok (.getfield 138, 3) := by decide +kernel
theorem dX11_rounds_12 : decode cX11_rounds 12 = .ok (.ifCond .eq 15, 3) := by decide +kernel
theorem dX11_rounds_15 : decode cX11_rounds 15 = .ok (.aload_n 0, 1) := by decide +kernel
theorem dX11_rounds_16 : decode cX11_rounds 16 = .ok (.getfield 54, 3) := by decide +kernel
theorem dX11_rounds_19 : decode cX11_rounds 19 = .ok (.getfield 281, 3) := by decide +kernel
theorem dX11_rounds_22 : decode cX11_rounds 22 = .ok (.iload_n 1, 1) := by decide +kernel
theorem dX11_rounds_23 : decode cX11_rounds 23 = .ok (.iaload, 1) := by decide +kernel
theorem dX11_rounds_24 : decode cX11_rounds 24 = .ok (.goto 4, 3) := by decide +kernel
theorem dX11_rounds_27 : decode cX11_rounds 27 = .ok (.iconst 0, 1) := by decide +kernel
theorem dX11_rounds_28 : decode cX11_rounds 28 = .ok (.ireturn, 1) := by decide +kernel
theorem dX11_slots_0 : decode cX11_slots 0 = .ok (.aload_n 0, 1) := by decide +kernel
theorem dX11_slots_1 : decode cX11_slots 1 = .ok (.iload_n 1, 1) := by decide +kernel
theorem dX11_slots_2 : decode cX11_slots 2 = .ok (.invokevirtual 142, 3) := by decide +kernel
theorem dX11_slots_5 : decode cX11_slots 5 = .ok (.aload_n 0, 1) := by decide +kernel
theorem dX11_slots_6 : decode cX11_slots 6 = .ok (.getfield 54, 3) := by decide +kernel
theorem dX11_slots_9 : decode cX11_slots 9 = .ok (.getfield 138, 3) := by decide +kernel
theorem dX11_slots_12 : decode cX11_slots 12 = .ok (.ifCond .eq 15, 3) := by decide +kernel
theorem dX11_slots_15 : decode cX11_slots 15 = .ok (.aload_n 0, 1) := by decide +kernel
theorem dX11_slots_16 : decode cX11_slots 16 = .ok (.getfield 54, 3) := by decide +kernel
theorem dX11_slots_19 : decode cX11_slots 19 = .ok (.getfield 275, 3) := by decide +kernel
theorem dX11_slots_22 : decode cX11_slots 22 = .ok (.iload_n 1, 1) := by decide +kernel
theorem dX11_slots_23 : decode cX11_slots 23 = .ok (.iaload, 1) := by decide +kernel
theorem dX11_slots_24 : decode cX11_slots 24 = .ok (.goto 4, 3) := by decide +kernel
theorem dX11_slots_27 : decode cX11_slots 27 = .ok (.iconst 0, 1) := by decide +kernel
theorem dX11_slots_28 : decode cX11_slots 28 = .ok (.ireturn, 1) := by decide +kernel
theorem dX11_usesLeft_0 : decode cX11_usesLeft 0 = .ok (.iload_n 0, 1) := by decide +kernel
theorem dX11_usesLeft_1 : decode cX11_usesLeft 1 = .ok (.iconst 1, 1) := by decide +kernel
theorem dX11_usesLeft_2 : decode cX11_usesLeft 2 = .ok (.if_icmp .lt 9, 3) := by decide +kernel
theorem dX11_usesLeft_5 : decode cX11_usesLeft 5 = .ok (.iload_n 0, 1) := by decide +kernel
theorem dX11_usesLeft_6 : decode cX11_usesLeft 6 = .ok (.bipush 19, 2) := by decide +kernel
theorem dX11_usesLeft_8 : decode cX11_usesLeft 8 = .ok (.if_icmp .le 15, 3) := by decide +kernel
theorem dX11_usesLeft_11 : decode cX11_usesLeft 11 = .ok (.iload_n 0, 1) := by decide +kernel
theorem dX11_usesLeft_12 : decode cX11_usesLeft 12 = .ok (.bipush 25, 2) := by decide +kernel
theorem dX11_usesLeft_14 : decode cX11_usesLeft 14 = .ok (.if_icmp .eq 9, 3) := by decide +kernel
theorem dX11_usesLeft_17 : decode cX11_usesLeft 17 = .ok (.iload_n 0, 1) := by decide +kernel
theorem dX11_usesLeft_18 : decode cX11_usesLeft 18 = .ok (.bipush 27, 2) := by decide +kernel
theorem dX11_usesLeft_20 : decode cX11_usesLeft 20 = .ok (.if_icmp .ne 7, 3) := by decide +kernel
theorem dX11_usesLeft_23 : decode cX11_usesLeft 23 = .ok (.iconst 1, 1) := by decide +kernel
theorem dX11_usesLeft_24 : decode cX11_usesLeft 24 = .ok (.goto 4, 3) := by decide +kernel
theorem dX11_usesLeft_27 : decode cX11_usesLeft 27 = .ok (.iconst 0, 1) := by decide +kernel
theorem dX11_usesLeft_28 : decode cX11_usesLeft 28 = .ok (.ireturn, 1) := by decide +kernel
theorem dX11_usesRight_0 : decode cX11_usesRight 0 = .ok (.iload_n 0, 1) := by decide +kernel
theorem dX11_usesRight_1 : decode cX11_usesRight 1 = .ok (.invokestatic 377, 3) := by decide +kernel
theorem dX11_usesRight_4 : decode cX11_usesRight 4 = .ok (.ifCond .ne 9, 3) := by decide +kernel
theorem dX11_usesRight_7 : decode cX11_usesRight 7 = .ok (.iload_n 0, 1) := by decide +kernel
theorem dX11_usesRight_8 : decode cX11_usesRight 8 = .ok (.bipush 18, 2) := by decide +kernel
theorem dX11_usesRight_10 : decode cX11_usesRight 10 = .ok (.if_icmp .ne 7, 3) := by decide +kernel
theorem dX11_usesRight_13 : decode cX11_usesRight 13 = .ok (.iconst 1, 1) := by decide +kernel
theorem dX11_usesRight_14 : decode cX11_usesRight 14 = .ok (.goto 4, 3) := by decide +kernel
theorem dX11_usesRight_17 : decode cX11_usesRight 17 = .ok (.iconst 0, 1) := by decide +kernel
theorem dX11_usesRight_18 : decode cX11_usesRight 18 = .ok (.ireturn, 1) := by decide +kernel
theorem dX11_word_0 : decode cX11_word 0 = .ok (.aload_n 0, 1) := by decide +kernel
theorem dX11_word_1 : decode cX11_word 1 = .ok (.iload_n 1, 1) := by decide +kernel
theorem dX11_word_2 : decode cX11_word 2 = .ok (.bipush 16, 2) := by decide +kernel
theorem dX11_word_4 : decode cX11_word 4 = .ok (.invokevirtual 168, 3) := by decide +kernel
theorem dX11_word_7 : decode cX11_word 7 = .ok (.aload_n 0, 1) := by decide +kernel
theorem dX11_word_8 : decode cX11_word 8 = .ok (.getfield 73, 3) := by decide +kernel
theorem dX11_word_11 : decode cX11_word 11 = .ok (.getfield 303, 3) := by decide +kernel
theorem dX11_word_14 : decode cX11_word 14 = .ok (.iload_n 1, 1) := by decide +kernel
theorem dX11_word_15 : decode cX11_word 15 = .ok (.iaload, 1) := by decide +kernel
theorem dX11_word_16 : decode cX11_word 16 = .ok (.ireturn, 1) := by decide +kernel
theorem qw110 : Cond.fieldLink RX11 61 "Gearbox" "program" "LGearbox$Program;" ∈ gw := mq_4 (i := 57) rfl rfl
theorem qw111 : Cond.fieldLink RX11 112 "Gearbox$Program" "functions" "I" ∈ gw := mq_3 (i := 153) rfl rfl
theorem qw112 : Cond.fieldLink RX11 54 "Gearbox" "allocator" "LGearbox$Allocator;" ∈ gw := mq_4 (i := 54) rfl rfl
theorem qw116 : Cond.code yX11_needFunction cX11_needFunction 2 (Option.none : Option Jvm.ClassFile.FieldType) ∈ gw := mq_9 (i := 142) rfl rfl
theorem qw117 : Cond.methodLink RX11 142 yX11_needFunction ∈ gw := mq_9 (i := 139) rfl rfl
theorem qw118 : Cond.instanceMethod yX11_needFunction ∈ gw := mq_9 (i := 141) rfl rfl
theorem qw119 : Cond.selects RX11 yX11_needFunction yX11_needFunction ∈ gw := mk_s (i := 0) rfl rfl
theorem qw120 : Cond.initialized RX11 ∈ gw := mq_1 (i := 16) rfl rfl
theorem qw121 : Cond.fieldLink RX11 138 "Gearbox$Allocator" "hasCode" "Z" ∈ gw := mq_3 (i := 98) rfl rfl
theorem qw124 : Cond.fieldLink RX11 73 "Gearbox" "machine" "LGearbox$Machine;" ∈ gw := mq_4 (i := 55) rfl rfl
theorem qw128 : Cond.constantLong RX11 323 (31) ∈ gw := mq_10 (i := 66) rfl rfl
theorem qw131 : Cond.fieldLink RX11 298 "Gearbox$Machine" "result" "I" ∈ gw := mq_3 (i := 225) rfl rfl
theorem qw133 : Cond.fieldLink RX11 303 "Gearbox$Machine" "memory" "[I" ∈ gw := mq_3 (i := 229) rfl rfl
theorem qw144 : Cond.fieldLink RX11 214 "Gearbox$Steps" "kind" "[I" ∈ gw := mq_1 (i := 167) rfl rfl
theorem qw145 : Cond.fieldLink RX11 219 "Gearbox$Steps" "gives" "[I" ∈ gw := mq_1 (i := 174) rfl rfl
theorem qw146 : Cond.fieldLink RX11 222 "Gearbox$Steps" "left" "[I" ∈ gw := mq_1 (i := 181) rfl rfl
theorem qw147 : Cond.fieldLink RX11 225 "Gearbox$Steps" "right" "[I" ∈ gw := mq_1 (i := 188) rfl rfl
theorem qw155 : Cond.fieldLink RX11 10 "Gearbox" "tokens" "LGearbox$Tokens;" ∈ gw := mq_4 (i := 49) rfl rfl
theorem qw156 : Cond.fieldLink RX11 86 "Gearbox$Tokens" "length" "I" ∈ gw := mq_1 (i := 51) rfl rfl
theorem qw157 : Cond.fieldLink RX10 15 "Gearbox$Tokens" "length" "I" ∈ gw := mq_1 (i := 52) rfl rfl
theorem qw158 : Cond.code yX10_append cX10_append 3 (Option.none : Option Jvm.ClassFile.FieldType) ∈ gw := mq_11 (i := 55) rfl rfl
theorem qw159 : Cond.methodLink RX11 96 yX10_append ∈ gw := mq_11 (i := 52) rfl rfl
theorem qw160 : Cond.instanceMethod yX10_append ∈ gw := mq_11 (i := 53) rfl rfl
theorem qw161 : Cond.selects RX10 yX10_append yX10_append ∈ gw := mq_11 (i := 54) rfl rfl
theorem qw162 : Cond.initialized RX10 ∈ gw := mq_1 (i := 17) rfl rfl
theorem qw187 : Cond.fieldLink RX11 281 "Gearbox$Allocator" "roundCounts" "[I" ∈ gw := mq_3 (i := 96) rfl rfl
theorem qw189 : Cond.fieldLink RX11 275 "Gearbox$Allocator" "slotCounts" "[I" ∈ gw := mq_3 (i := 92) rfl rfl
theorem qw190 : Cond.code yX11_isOperator cX11_isOperator 1 (Option.some Jvm.ClassFile.FieldType.boolean) ∈ gw := mq_5 (i := 206) rfl rfl
theorem qw191 : Cond.methodLink RX11 377 yX11_isOperator ∈ gw := mq_5 (i := 204) rfl rfl
theorem qw192 : Cond.static yX11_isOperator ∈ gw := mq_5 (i := 205) rfl rfl
theorem qw193 : Cond.code yX11_needPlace cX11_needPlace 3 (Option.none : Option Jvm.ClassFile.FieldType) ∈ gw := mq_10 (i := 37) rfl rfl
theorem qw194 : Cond.methodLink RX11 168 yX11_needPlace ∈ gw := mq_10 (i := 34) rfl rfl
theorem qw195 : Cond.instanceMethod yX11_needPlace ∈ gw := mq_10 (i := 36) rfl rfl
theorem qw196 : Cond.selects RX11 yX11_needPlace yX11_needPlace ∈ gw := mk_s (i := 1) rfl rfl
def sX11_compute_r (p0 : Int32) (p1 : Int32) (p2 : Int32) : Int32 := (if p0 = 1 then (p1 + p2) else (if p0 = 2 then (p1 - p2) else (if p0 = 3 then (p1 * p2) else (if p0 = 4 then (if p2 = 0 then 0 else (p1 / p2)) else (if p0 = 5 then (if p2 = 0 then 0 else (p1 - p1 / p2 * p2)) else (if p0 = 6 then (p1 &&& p2) else (if p0 = 7 then (p1 ||| p2) else (if p0 = 8 then (p1 ^^^ p2) else (if p0 = 9 then (p1 <<< ((p2 &&& 31) &&& 31)) else (if p0 = 10 then (p1 >>> ((p2 &&& 31) &&& 31)) else (if p0 = 11 then (if p2 ≤ p1 then 0 else 1) else (if p0 = 12 then (if p2 < p1 then 0 else 1) else (if p0 = 13 then (if p1 ≤ p2 then 0 else 1) else (if p0 = 14 then (if p1 < p2 then 0 else 1) else (if p0 = 15 then (if p1 = p2 then 1 else 0) else (if p1 = p2 then 0 else 1))))))))))))))))
set_option maxHeartbeats 4000000 in
set_option maxRecDepth 100000 in
theorem kX11_compute {zs : Nat × Nat} (l : Launch) (dC : Nat → ClassId) (dI : Nat → Nat → Nat) (p0 : Int32) (p1 : Int32) (p2 : Int32) (sz : Nat)  : Met l yX11_compute (wz yX11_compute cX11_compute 3 (Option.some Jvm.ClassFile.FieldType.int)) ({ frames := 0, cells := 0, slots := 0, locals := 0 }) (va_Pc [.int p0, .int p1, .int p2] (PRE zs dC dI [] [] sz)) (va_Qi (fun (r : Int32) (_ : Unit) => r = (sX11_compute_r p0 p1 p2)) (fun _ t => POST dC dI [] [] (va_A [] sz) t) (va_A [] sz)) 0 0 (va_A [] sz) := by
  refine Met.ofW (cc := cX11_compute) (maxL := 3) (ret := (Option.some Jvm.ClassFile.FieldType.int)) (by decide) rfl ?_
  intro p e s m args below meth c s₁ B hml hv
  obtain ⟨rfl, hsz, hP, hK, hD0, hE⟩ := hv
  have hx := B.exec
  have hb := B.bytes
  have hr := B.returns
  have hts0 := atoms_spec (ws := wz yX11_compute cX11_compute 3 (Option.some Jvm.ClassFile.FieldType.int)) B.pre
  have hts : ∀ w ∈ gw, w.before _ s = true := fun w h => hts0 w (List.mem_cons_of_mem _ h)
  have hown : s.vm.findClass RX11 = some m.cls := findClass_of_methodNamed B.named
  have hlocks := B.notSynchronized
  subst hsz
  have hD := hD0.self (sz := s.heap.size)
  generalize hAe : va_A [] s.heap.size = A at hD hE ⊢
  have hA : ∀ q : Nat, s.heap.size ≤ q → A q := fun q h => by rw [← hAe]; exact Or.inr h
  have hS : va_S A s.heap s.heap [] := va_S.rf
  have hP : va_P (dC, dI) cls [] s.heap := hP
  have hl := lv_entry ([.int p0, .int p1, .int p2]) (n := 3) (Nat.le_of_ble_eq_true rfl)
  rw [lg_entry_eq]
  generalize (lg_sl ([.int p0, .int p1, .int p2]) ++ List.replicate (3 - (lg_sl ([.int p0, .int p1, .int p2])).length) Slot.unset).toArray = ls at hl ⊢
  have hl : lv_has ls 3 [(0, .int p0), (1, .int p1), (2, .int p2)] := hl
  refine lv_iload_n hx hb dX11_compute_0 rfl (lv_at hl 0 rfl) ?_
  by_cases hc1 : p0 = 1
  · refine lv_tableIn (off := 75) (tgt := 76) hx hb dX11_compute_1 (by rw [hc1]; decide) (by rw [hc1]; decide) (by rw [hc1]; rfl) (by decide) ?_
    refine lv_iload_n hx hb dX11_compute_76 rfl (lv_at hl 1 rfl) ?_
    refine lv_iload_n hx hb dX11_compute_77 rfl (lv_at hl 2 rfl) ?_
    refine lv_iadd hx hb dX11_compute_78 ?_
    have e_sX11_compute_r : sX11_compute_r p0 p1 p2 = (p1 + p2) := by unfold sX11_compute_r; rw [if_pos hc1]
    have hP9 : va_P (dC, dI) cls [] s.heap := by exact hP.sub [] rfl
    have hD9 : va_D A [] := by exact hD.sub [] (by decide) rfl
    have hK9 : va_K (dC, dI) cls [] s := hK.sub [] rfl
    refine W.widen (k := 0) (n := 0) (Nat.le_of_ble_eq_true rfl) (Nat.le_of_ble_eq_true rfl) ?_
    exact W.iret (v := (p1 + p2)) hx hb hr (fun t ht hW => ⟨⟨(p1 + p2), (), rfl, e_sX11_compute_r.symm, ⟨by rw [ht]; exact hP9, va_K.moved hW.alike hK9, hD9⟩⟩, hS.F ht⟩) hS.2.2 dX11_compute_79
  · by_cases hc2 : p0 = 2
    · refine lv_tableIn (off := 79) (tgt := 80) hx hb dX11_compute_1 (by rw [hc2]; decide) (by rw [hc2]; decide) (by rw [hc2]; rfl) (by decide) ?_
      refine lv_iload_n hx hb dX11_compute_80 rfl (lv_at hl 1 rfl) ?_
      refine lv_iload_n hx hb dX11_compute_81 rfl (lv_at hl 2 rfl) ?_
      refine lv_isub hx hb dX11_compute_82 ?_
      have e_sX11_compute_r : sX11_compute_r p0 p1 p2 = (p1 - p2) := by unfold sX11_compute_r; rw [if_neg hc1, if_pos hc2]
      have hP9 : va_P (dC, dI) cls [] s.heap := by exact hP.sub [] rfl
      have hD9 : va_D A [] := by exact hD.sub [] (by decide) rfl
      have hK9 : va_K (dC, dI) cls [] s := hK.sub [] rfl
      refine W.widen (k := 0) (n := 0) (Nat.le_of_ble_eq_true rfl) (Nat.le_of_ble_eq_true rfl) ?_
      exact W.iret (v := (p1 - p2)) hx hb hr (fun t ht hW => ⟨⟨(p1 - p2), (), rfl, e_sX11_compute_r.symm, ⟨by rw [ht]; exact hP9, va_K.moved hW.alike hK9, hD9⟩⟩, hS.F ht⟩) hS.2.2 dX11_compute_83
    · by_cases hc3 : p0 = 3
      · refine lv_tableIn (off := 83) (tgt := 84) hx hb dX11_compute_1 (by rw [hc3]; decide) (by rw [hc3]; decide) (by rw [hc3]; rfl) (by decide) ?_
        refine lv_iload_n hx hb dX11_compute_84 rfl (lv_at hl 1 rfl) ?_
        refine lv_iload_n hx hb dX11_compute_85 rfl (lv_at hl 2 rfl) ?_
        refine lv_imul hx hb dX11_compute_86 ?_
        have e_sX11_compute_r : sX11_compute_r p0 p1 p2 = (p1 * p2) := by unfold sX11_compute_r; rw [if_neg hc1, if_neg hc2, if_pos hc3]
        have hP9 : va_P (dC, dI) cls [] s.heap := by exact hP.sub [] rfl
        have hD9 : va_D A [] := by exact hD.sub [] (by decide) rfl
        have hK9 : va_K (dC, dI) cls [] s := hK.sub [] rfl
        refine W.widen (k := 0) (n := 0) (Nat.le_of_ble_eq_true rfl) (Nat.le_of_ble_eq_true rfl) ?_
        exact W.iret (v := (p1 * p2)) hx hb hr (fun t ht hW => ⟨⟨(p1 * p2), (), rfl, e_sX11_compute_r.symm, ⟨by rw [ht]; exact hP9, va_K.moved hW.alike hK9, hD9⟩⟩, hS.F ht⟩) hS.2.2 dX11_compute_87
      · by_cases hc4 : p0 = 4
        · refine lv_tableIn (off := 87) (tgt := 88) hx hb dX11_compute_1 (by rw [hc4]; decide) (by rw [hc4]; decide) (by rw [hc4]; rfl) (by decide) ?_
          refine lv_iload_n hx hb dX11_compute_88 rfl (lv_at hl 2 rfl) ?_
          by_cases hc5 : p2 = 0
          · refine lv_if_ne (tgt := 96) hx hb dX11_compute_89 (by decide) (fun c => absurd hc5 c) (fun _ => ?_)
            refine lv_iconst (v := 0) hx hb dX11_compute_92 (by decide) ?_
            refine lv_goto (tgt := 99) hx hb dX11_compute_93 (by decide) ?_
            have e_sX11_compute_r : sX11_compute_r p0 p1 p2 = 0 := by unfold sX11_compute_r; rw [if_neg hc1, if_neg hc2, if_neg hc3, if_pos hc4, if_pos hc5]
            have hP9 : va_P (dC, dI) cls [] s.heap := by exact hP.sub [] rfl
            have hD9 : va_D A [] := by exact hD.sub [] (by decide) rfl
            have hK9 : va_K (dC, dI) cls [] s := hK.sub [] rfl
            refine W.widen (k := 0) (n := 0) (Nat.le_of_ble_eq_true rfl) (Nat.le_of_ble_eq_true rfl) ?_
            exact W.iret (v := 0) hx hb hr (fun t ht hW => ⟨⟨0, (), rfl, e_sX11_compute_r.symm, ⟨by rw [ht]; exact hP9, va_K.moved hW.alike hK9, hD9⟩⟩, hS.F ht⟩) hS.2.2 dX11_compute_99
          · refine lv_if_ne (tgt := 96) hx hb dX11_compute_89 (by decide) (fun _ => ?_) (fun c => absurd c hc5)
            refine lv_iload_n hx hb dX11_compute_96 rfl (lv_at hl 1 rfl) ?_
            refine lv_iload_n hx hb dX11_compute_97 rfl (lv_at hl 2 rfl) ?_
            refine lv_idiv hx hb dX11_compute_98 hc5 ?_
            have e_sX11_compute_r : sX11_compute_r p0 p1 p2 = (p1 / p2) := by unfold sX11_compute_r; rw [if_neg hc1, if_neg hc2, if_neg hc3, if_pos hc4, if_neg hc5]
            have hP9 : va_P (dC, dI) cls [] s.heap := by exact hP.sub [] rfl
            have hD9 : va_D A [] := by exact hD.sub [] (by decide) rfl
            have hK9 : va_K (dC, dI) cls [] s := hK.sub [] rfl
            refine W.widen (k := 0) (n := 0) (Nat.le_of_ble_eq_true rfl) (Nat.le_of_ble_eq_true rfl) ?_
            exact W.iret (v := (p1 / p2)) hx hb hr (fun t ht hW => ⟨⟨(p1 / p2), (), rfl, e_sX11_compute_r.symm, ⟨by rw [ht]; exact hP9, va_K.moved hW.alike hK9, hD9⟩⟩, hS.F ht⟩) hS.2.2 dX11_compute_99
        · by_cases hc6 : p0 = 5
          · refine lv_tableIn (off := 99) (tgt := 100) hx hb dX11_compute_1 (by rw [hc6]; decide) (by rw [hc6]; decide) (by rw [hc6]; rfl) (by decide) ?_
            refine lv_iload_n hx hb dX11_compute_100 rfl (lv_at hl 2 rfl) ?_
            by_cases hc7 : p2 = 0
            · refine lv_if_ne (tgt := 108) hx hb dX11_compute_101 (by decide) (fun c => absurd hc7 c) (fun _ => ?_)
              refine lv_iconst (v := 0) hx hb dX11_compute_104 (by decide) ?_
              refine lv_goto (tgt := 111) hx hb dX11_compute_105 (by decide) ?_
              have e_sX11_compute_r : sX11_compute_r p0 p1 p2 = 0 := by unfold sX11_compute_r; rw [if_neg hc1, if_neg hc2, if_neg hc3, if_neg hc4, if_pos hc6, if_pos hc7]
              have hP9 : va_P (dC, dI) cls [] s.heap := by exact hP.sub [] rfl
              have hD9 : va_D A [] := by exact hD.sub [] (by decide) rfl
              have hK9 : va_K (dC, dI) cls [] s := hK.sub [] rfl
              refine W.widen (k := 0) (n := 0) (Nat.le_of_ble_eq_true rfl) (Nat.le_of_ble_eq_true rfl) ?_
              exact W.iret (v := 0) hx hb hr (fun t ht hW => ⟨⟨0, (), rfl, e_sX11_compute_r.symm, ⟨by rw [ht]; exact hP9, va_K.moved hW.alike hK9, hD9⟩⟩, hS.F ht⟩) hS.2.2 dX11_compute_111
            · refine lv_if_ne (tgt := 108) hx hb dX11_compute_101 (by decide) (fun _ => ?_) (fun c => absurd c hc7)
              refine lv_iload_n hx hb dX11_compute_108 rfl (lv_at hl 1 rfl) ?_
              refine lv_iload_n hx hb dX11_compute_109 rfl (lv_at hl 2 rfl) ?_
              refine lv_irem hx hb dX11_compute_110 hc7 ?_
              have e_sX11_compute_r : sX11_compute_r p0 p1 p2 = (p1 - p1 / p2 * p2) := by unfold sX11_compute_r; rw [if_neg hc1, if_neg hc2, if_neg hc3, if_neg hc4, if_pos hc6, if_neg hc7]
              have hP9 : va_P (dC, dI) cls [] s.heap := by exact hP.sub [] rfl
              have hD9 : va_D A [] := by exact hD.sub [] (by decide) rfl
              have hK9 : va_K (dC, dI) cls [] s := hK.sub [] rfl
              refine W.widen (k := 0) (n := 0) (Nat.le_of_ble_eq_true rfl) (Nat.le_of_ble_eq_true rfl) ?_
              exact W.iret (v := (p1 - p1 / p2 * p2)) hx hb hr (fun t ht hW => ⟨⟨(p1 - p1 / p2 * p2), (), rfl, e_sX11_compute_r.symm, ⟨by rw [ht]; exact hP9, va_K.moved hW.alike hK9, hD9⟩⟩, hS.F ht⟩) hS.2.2 dX11_compute_111
          · by_cases hc8 : p0 = 6
            · refine lv_tableIn (off := 111) (tgt := 112) hx hb dX11_compute_1 (by rw [hc8]; decide) (by rw [hc8]; decide) (by rw [hc8]; rfl) (by decide) ?_
              refine lv_iload_n hx hb dX11_compute_112 rfl (lv_at hl 1 rfl) ?_
              refine lv_iload_n hx hb dX11_compute_113 rfl (lv_at hl 2 rfl) ?_
              refine lv_iand hx hb dX11_compute_114 ?_
              have e_sX11_compute_r : sX11_compute_r p0 p1 p2 = (p1 &&& p2) := by unfold sX11_compute_r; rw [if_neg hc1, if_neg hc2, if_neg hc3, if_neg hc4, if_neg hc6, if_pos hc8]
              have hP9 : va_P (dC, dI) cls [] s.heap := by exact hP.sub [] rfl
              have hD9 : va_D A [] := by exact hD.sub [] (by decide) rfl
              have hK9 : va_K (dC, dI) cls [] s := hK.sub [] rfl
              refine W.widen (k := 0) (n := 0) (Nat.le_of_ble_eq_true rfl) (Nat.le_of_ble_eq_true rfl) ?_
              exact W.iret (v := (p1 &&& p2)) hx hb hr (fun t ht hW => ⟨⟨(p1 &&& p2), (), rfl, e_sX11_compute_r.symm, ⟨by rw [ht]; exact hP9, va_K.moved hW.alike hK9, hD9⟩⟩, hS.F ht⟩) hS.2.2 dX11_compute_115
            · by_cases hc9 : p0 = 7
              · refine lv_tableIn (off := 115) (tgt := 116) hx hb dX11_compute_1 (by rw [hc9]; decide) (by rw [hc9]; decide) (by rw [hc9]; rfl) (by decide) ?_
                refine lv_iload_n hx hb dX11_compute_116 rfl (lv_at hl 1 rfl) ?_
                refine lv_iload_n hx hb dX11_compute_117 rfl (lv_at hl 2 rfl) ?_
                refine lv_ior hx hb dX11_compute_118 ?_
                have e_sX11_compute_r : sX11_compute_r p0 p1 p2 = (p1 ||| p2) := by unfold sX11_compute_r; rw [if_neg hc1, if_neg hc2, if_neg hc3, if_neg hc4, if_neg hc6, if_neg hc8, if_pos hc9]
                have hP9 : va_P (dC, dI) cls [] s.heap := by exact hP.sub [] rfl
                have hD9 : va_D A [] := by exact hD.sub [] (by decide) rfl
                have hK9 : va_K (dC, dI) cls [] s := hK.sub [] rfl
                refine W.widen (k := 0) (n := 0) (Nat.le_of_ble_eq_true rfl) (Nat.le_of_ble_eq_true rfl) ?_
                exact W.iret (v := (p1 ||| p2)) hx hb hr (fun t ht hW => ⟨⟨(p1 ||| p2), (), rfl, e_sX11_compute_r.symm, ⟨by rw [ht]; exact hP9, va_K.moved hW.alike hK9, hD9⟩⟩, hS.F ht⟩) hS.2.2 dX11_compute_119
              · by_cases hc10 : p0 = 8
                · refine lv_tableIn (off := 119) (tgt := 120) hx hb dX11_compute_1 (by rw [hc10]; decide) (by rw [hc10]; decide) (by rw [hc10]; rfl) (by decide) ?_
                  refine lv_iload_n hx hb dX11_compute_120 rfl (lv_at hl 1 rfl) ?_
                  refine lv_iload_n hx hb dX11_compute_121 rfl (lv_at hl 2 rfl) ?_
                  refine lv_ixor hx hb dX11_compute_122 ?_
                  have e_sX11_compute_r : sX11_compute_r p0 p1 p2 = (p1 ^^^ p2) := by unfold sX11_compute_r; rw [if_neg hc1, if_neg hc2, if_neg hc3, if_neg hc4, if_neg hc6, if_neg hc8, if_neg hc9, if_pos hc10]
                  have hP9 : va_P (dC, dI) cls [] s.heap := by exact hP.sub [] rfl
                  have hD9 : va_D A [] := by exact hD.sub [] (by decide) rfl
                  have hK9 : va_K (dC, dI) cls [] s := hK.sub [] rfl
                  refine W.widen (k := 0) (n := 0) (Nat.le_of_ble_eq_true rfl) (Nat.le_of_ble_eq_true rfl) ?_
                  exact W.iret (v := (p1 ^^^ p2)) hx hb hr (fun t ht hW => ⟨⟨(p1 ^^^ p2), (), rfl, e_sX11_compute_r.symm, ⟨by rw [ht]; exact hP9, va_K.moved hW.alike hK9, hD9⟩⟩, hS.F ht⟩) hS.2.2 dX11_compute_123
                · by_cases hc11 : p0 = 9
                  · refine lv_tableIn (off := 123) (tgt := 124) hx hb dX11_compute_1 (by rw [hc11]; decide) (by rw [hc11]; decide) (by rw [hc11]; rfl) (by decide) ?_
                    refine lv_iload_n hx hb dX11_compute_124 rfl (lv_at hl 1 rfl) ?_
                    refine lv_iload_n hx hb dX11_compute_125 rfl (lv_at hl 2 rfl) ?_
                    refine lv_bipush (v := 31) hx hb dX11_compute_126 (by decide) ?_
                    refine lv_iand hx hb dX11_compute_128 ?_
                    refine lv_ishl hx hb dX11_compute_129 ?_
                    have e_sX11_compute_r : sX11_compute_r p0 p1 p2 = (p1 <<< ((p2 &&& 31) &&& 31)) := by unfold sX11_compute_r; rw [if_neg hc1, if_neg hc2, if_neg hc3, if_neg hc4, if_neg hc6, if_neg hc8, if_neg hc9, if_neg hc10, if_pos hc11]
                    have hP9 : va_P (dC, dI) cls [] s.heap := by exact hP.sub [] rfl
                    have hD9 : va_D A [] := by exact hD.sub [] (by decide) rfl
                    have hK9 : va_K (dC, dI) cls [] s := hK.sub [] rfl
                    refine W.widen (k := 0) (n := 0) (Nat.le_of_ble_eq_true rfl) (Nat.le_of_ble_eq_true rfl) ?_
                    exact W.iret (v := (p1 <<< ((p2 &&& 31) &&& 31))) hx hb hr (fun t ht hW => ⟨⟨(p1 <<< ((p2 &&& 31) &&& 31)), (), rfl, e_sX11_compute_r.symm, ⟨by rw [ht]; exact hP9, va_K.moved hW.alike hK9, hD9⟩⟩, hS.F ht⟩) hS.2.2 dX11_compute_130
                  · by_cases hc12 : p0 = 10
                    · refine lv_tableIn (off := 130) (tgt := 131) hx hb dX11_compute_1 (by rw [hc12]; decide) (by rw [hc12]; decide) (by rw [hc12]; rfl) (by decide) ?_
                      refine lv_iload_n hx hb dX11_compute_131 rfl (lv_at hl 1 rfl) ?_
                      refine lv_iload_n hx hb dX11_compute_132 rfl (lv_at hl 2 rfl) ?_
                      refine lv_bipush (v := 31) hx hb dX11_compute_133 (by decide) ?_
                      refine lv_iand hx hb dX11_compute_135 ?_
                      refine lv_ishr hx hb dX11_compute_136 ?_
                      have e_sX11_compute_r : sX11_compute_r p0 p1 p2 = (p1 >>> ((p2 &&& 31) &&& 31)) := by unfold sX11_compute_r; rw [if_neg hc1, if_neg hc2, if_neg hc3, if_neg hc4, if_neg hc6, if_neg hc8, if_neg hc9, if_neg hc10, if_neg hc11, if_pos hc12]
                      have hP9 : va_P (dC, dI) cls [] s.heap := by exact hP.sub [] rfl
                      have hD9 : va_D A [] := by exact hD.sub [] (by decide) rfl
                      have hK9 : va_K (dC, dI) cls [] s := hK.sub [] rfl
                      refine W.widen (k := 0) (n := 0) (Nat.le_of_ble_eq_true rfl) (Nat.le_of_ble_eq_true rfl) ?_
                      exact W.iret (v := (p1 >>> ((p2 &&& 31) &&& 31))) hx hb hr (fun t ht hW => ⟨⟨(p1 >>> ((p2 &&& 31) &&& 31)), (), rfl, e_sX11_compute_r.symm, ⟨by rw [ht]; exact hP9, va_K.moved hW.alike hK9, hD9⟩⟩, hS.F ht⟩) hS.2.2 dX11_compute_137
                    · by_cases hc13 : p0 = 11
                      · refine lv_tableIn (off := 137) (tgt := 138) hx hb dX11_compute_1 (by rw [hc13]; decide) (by rw [hc13]; decide) (by rw [hc13]; rfl) (by decide) ?_
                        refine lv_iload_n hx hb dX11_compute_138 rfl (lv_at hl 1 rfl) ?_
                        refine lv_iload_n hx hb dX11_compute_139 rfl (lv_at hl 2 rfl) ?_
                        by_cases hc14 : p2 ≤ p1
                        · refine lv_icmp_ge (tgt := 147) hx hb dX11_compute_140 (by decide) (fun _ => ?_) (fun c => absurd hc14 c)
                          refine lv_iconst (v := 0) hx hb dX11_compute_147 (by decide) ?_
                          have e_sX11_compute_r : sX11_compute_r p0 p1 p2 = 0 := by unfold sX11_compute_r; rw [if_neg hc1, if_neg hc2, if_neg hc3, if_neg hc4, if_neg hc6, if_neg hc8, if_neg hc9, if_neg hc10, if_neg hc11, if_neg hc12, if_pos hc13, if_pos hc14]
                          have hP9 : va_P (dC, dI) cls [] s.heap := by exact hP.sub [] rfl
                          have hD9 : va_D A [] := by exact hD.sub [] (by decide) rfl
                          have hK9 : va_K (dC, dI) cls [] s := hK.sub [] rfl
                          refine W.widen (k := 0) (n := 0) (Nat.le_of_ble_eq_true rfl) (Nat.le_of_ble_eq_true rfl) ?_
                          exact W.iret (v := 0) hx hb hr (fun t ht hW => ⟨⟨0, (), rfl, e_sX11_compute_r.symm, ⟨by rw [ht]; exact hP9, va_K.moved hW.alike hK9, hD9⟩⟩, hS.F ht⟩) hS.2.2 dX11_compute_148
                        · refine lv_icmp_ge (tgt := 147) hx hb dX11_compute_140 (by decide) (fun c => absurd c hc14) (fun _ => ?_)
                          refine lv_iconst (v := 1) hx hb dX11_compute_143 (by decide) ?_
                          refine lv_goto (tgt := 148) hx hb dX11_compute_144 (by decide) ?_
                          have e_sX11_compute_r : sX11_compute_r p0 p1 p2 = 1 := by unfold sX11_compute_r; rw [if_neg hc1, if_neg hc2, if_neg hc3, if_neg hc4, if_neg hc6, if_neg hc8, if_neg hc9, if_neg hc10, if_neg hc11, if_neg hc12, if_pos hc13, if_neg hc14]
                          have hP9 : va_P (dC, dI) cls [] s.heap := by exact hP.sub [] rfl
                          have hD9 : va_D A [] := by exact hD.sub [] (by decide) rfl
                          have hK9 : va_K (dC, dI) cls [] s := hK.sub [] rfl
                          refine W.widen (k := 0) (n := 0) (Nat.le_of_ble_eq_true rfl) (Nat.le_of_ble_eq_true rfl) ?_
                          exact W.iret (v := 1) hx hb hr (fun t ht hW => ⟨⟨1, (), rfl, e_sX11_compute_r.symm, ⟨by rw [ht]; exact hP9, va_K.moved hW.alike hK9, hD9⟩⟩, hS.F ht⟩) hS.2.2 dX11_compute_148
                      · by_cases hc15 : p0 = 12
                        · refine lv_tableIn (off := 148) (tgt := 149) hx hb dX11_compute_1 (by rw [hc15]; decide) (by rw [hc15]; decide) (by rw [hc15]; rfl) (by decide) ?_
                          refine lv_iload_n hx hb dX11_compute_149 rfl (lv_at hl 1 rfl) ?_
                          refine lv_iload_n hx hb dX11_compute_150 rfl (lv_at hl 2 rfl) ?_
                          by_cases hc16 : p2 < p1
                          · refine lv_icmp_gt (tgt := 158) hx hb dX11_compute_151 (by decide) (fun _ => ?_) (fun c => absurd hc16 c)
                            refine lv_iconst (v := 0) hx hb dX11_compute_158 (by decide) ?_
                            have e_sX11_compute_r : sX11_compute_r p0 p1 p2 = 0 := by unfold sX11_compute_r; rw [if_neg hc1, if_neg hc2, if_neg hc3, if_neg hc4, if_neg hc6, if_neg hc8, if_neg hc9, if_neg hc10, if_neg hc11, if_neg hc12, if_neg hc13, if_pos hc15, if_pos hc16]
                            have hP9 : va_P (dC, dI) cls [] s.heap := by exact hP.sub [] rfl
                            have hD9 : va_D A [] := by exact hD.sub [] (by decide) rfl
                            have hK9 : va_K (dC, dI) cls [] s := hK.sub [] rfl
                            refine W.widen (k := 0) (n := 0) (Nat.le_of_ble_eq_true rfl) (Nat.le_of_ble_eq_true rfl) ?_
                            exact W.iret (v := 0) hx hb hr (fun t ht hW => ⟨⟨0, (), rfl, e_sX11_compute_r.symm, ⟨by rw [ht]; exact hP9, va_K.moved hW.alike hK9, hD9⟩⟩, hS.F ht⟩) hS.2.2 dX11_compute_159
                          · refine lv_icmp_gt (tgt := 158) hx hb dX11_compute_151 (by decide) (fun c => absurd c hc16) (fun _ => ?_)
                            refine lv_iconst (v := 1) hx hb dX11_compute_154 (by decide) ?_
                            refine lv_goto (tgt := 159) hx hb dX11_compute_155 (by decide) ?_
                            have e_sX11_compute_r : sX11_compute_r p0 p1 p2 = 1 := by unfold sX11_compute_r; rw [if_neg hc1, if_neg hc2, if_neg hc3, if_neg hc4, if_neg hc6, if_neg hc8, if_neg hc9, if_neg hc10, if_neg hc11, if_neg hc12, if_neg hc13, if_pos hc15, if_neg hc16]
                            have hP9 : va_P (dC, dI) cls [] s.heap := by exact hP.sub [] rfl
                            have hD9 : va_D A [] := by exact hD.sub [] (by decide) rfl
                            have hK9 : va_K (dC, dI) cls [] s := hK.sub [] rfl
                            refine W.widen (k := 0) (n := 0) (Nat.le_of_ble_eq_true rfl) (Nat.le_of_ble_eq_true rfl) ?_
                            exact W.iret (v := 1) hx hb hr (fun t ht hW => ⟨⟨1, (), rfl, e_sX11_compute_r.symm, ⟨by rw [ht]; exact hP9, va_K.moved hW.alike hK9, hD9⟩⟩, hS.F ht⟩) hS.2.2 dX11_compute_159
                        · by_cases hc17 : p0 = 13
                          · refine lv_tableIn (off := 159) (tgt := 160) hx hb dX11_compute_1 (by rw [hc17]; decide) (by rw [hc17]; decide) (by rw [hc17]; rfl) (by decide) ?_
                            refine lv_iload_n hx hb dX11_compute_160 rfl (lv_at hl 1 rfl) ?_
                            refine lv_iload_n hx hb dX11_compute_161 rfl (lv_at hl 2 rfl) ?_
                            by_cases hc18 : p1 ≤ p2
                            · refine lv_icmp_le (tgt := 169) hx hb dX11_compute_162 (by decide) (fun _ => ?_) (fun c => absurd hc18 c)
                              refine lv_iconst (v := 0) hx hb dX11_compute_169 (by decide) ?_
                              have e_sX11_compute_r : sX11_compute_r p0 p1 p2 = 0 := by unfold sX11_compute_r; rw [if_neg hc1, if_neg hc2, if_neg hc3, if_neg hc4, if_neg hc6, if_neg hc8, if_neg hc9, if_neg hc10, if_neg hc11, if_neg hc12, if_neg hc13, if_neg hc15, if_pos hc17, if_pos hc18]
                              have hP9 : va_P (dC, dI) cls [] s.heap := by exact hP.sub [] rfl
                              have hD9 : va_D A [] := by exact hD.sub [] (by decide) rfl
                              have hK9 : va_K (dC, dI) cls [] s := hK.sub [] rfl
                              refine W.widen (k := 0) (n := 0) (Nat.le_of_ble_eq_true rfl) (Nat.le_of_ble_eq_true rfl) ?_
                              exact W.iret (v := 0) hx hb hr (fun t ht hW => ⟨⟨0, (), rfl, e_sX11_compute_r.symm, ⟨by rw [ht]; exact hP9, va_K.moved hW.alike hK9, hD9⟩⟩, hS.F ht⟩) hS.2.2 dX11_compute_170
                            · refine lv_icmp_le (tgt := 169) hx hb dX11_compute_162 (by decide) (fun c => absurd c hc18) (fun _ => ?_)
                              refine lv_iconst (v := 1) hx hb dX11_compute_165 (by decide) ?_
                              refine lv_goto (tgt := 170) hx hb dX11_compute_166 (by decide) ?_
                              have e_sX11_compute_r : sX11_compute_r p0 p1 p2 = 1 := by unfold sX11_compute_r; rw [if_neg hc1, if_neg hc2, if_neg hc3, if_neg hc4, if_neg hc6, if_neg hc8, if_neg hc9, if_neg hc10, if_neg hc11, if_neg hc12, if_neg hc13, if_neg hc15, if_pos hc17, if_neg hc18]
                              have hP9 : va_P (dC, dI) cls [] s.heap := by exact hP.sub [] rfl
                              have hD9 : va_D A [] := by exact hD.sub [] (by decide) rfl
                              have hK9 : va_K (dC, dI) cls [] s := hK.sub [] rfl
                              refine W.widen (k := 0) (n := 0) (Nat.le_of_ble_eq_true rfl) (Nat.le_of_ble_eq_true rfl) ?_
                              exact W.iret (v := 1) hx hb hr (fun t ht hW => ⟨⟨1, (), rfl, e_sX11_compute_r.symm, ⟨by rw [ht]; exact hP9, va_K.moved hW.alike hK9, hD9⟩⟩, hS.F ht⟩) hS.2.2 dX11_compute_170
                          · by_cases hc19 : p0 = 14
                            · refine lv_tableIn (off := 170) (tgt := 171) hx hb dX11_compute_1 (by rw [hc19]; decide) (by rw [hc19]; decide) (by rw [hc19]; rfl) (by decide) ?_
                              refine lv_iload_n hx hb dX11_compute_171 rfl (lv_at hl 1 rfl) ?_
                              refine lv_iload_n hx hb dX11_compute_172 rfl (lv_at hl 2 rfl) ?_
                              by_cases hc20 : p1 < p2
                              · refine lv_icmp_lt (tgt := 180) hx hb dX11_compute_173 (by decide) (fun _ => ?_) (fun c => absurd hc20 c)
                                refine lv_iconst (v := 0) hx hb dX11_compute_180 (by decide) ?_
                                have e_sX11_compute_r : sX11_compute_r p0 p1 p2 = 0 := by unfold sX11_compute_r; rw [if_neg hc1, if_neg hc2, if_neg hc3, if_neg hc4, if_neg hc6, if_neg hc8, if_neg hc9, if_neg hc10, if_neg hc11, if_neg hc12, if_neg hc13, if_neg hc15, if_neg hc17, if_pos hc19, if_pos hc20]
                                have hP9 : va_P (dC, dI) cls [] s.heap := by exact hP.sub [] rfl
                                have hD9 : va_D A [] := by exact hD.sub [] (by decide) rfl
                                have hK9 : va_K (dC, dI) cls [] s := hK.sub [] rfl
                                refine W.widen (k := 0) (n := 0) (Nat.le_of_ble_eq_true rfl) (Nat.le_of_ble_eq_true rfl) ?_
                                exact W.iret (v := 0) hx hb hr (fun t ht hW => ⟨⟨0, (), rfl, e_sX11_compute_r.symm, ⟨by rw [ht]; exact hP9, va_K.moved hW.alike hK9, hD9⟩⟩, hS.F ht⟩) hS.2.2 dX11_compute_181
                              · refine lv_icmp_lt (tgt := 180) hx hb dX11_compute_173 (by decide) (fun c => absurd c hc20) (fun _ => ?_)
                                refine lv_iconst (v := 1) hx hb dX11_compute_176 (by decide) ?_
                                refine lv_goto (tgt := 181) hx hb dX11_compute_177 (by decide) ?_
                                have e_sX11_compute_r : sX11_compute_r p0 p1 p2 = 1 := by unfold sX11_compute_r; rw [if_neg hc1, if_neg hc2, if_neg hc3, if_neg hc4, if_neg hc6, if_neg hc8, if_neg hc9, if_neg hc10, if_neg hc11, if_neg hc12, if_neg hc13, if_neg hc15, if_neg hc17, if_pos hc19, if_neg hc20]
                                have hP9 : va_P (dC, dI) cls [] s.heap := by exact hP.sub [] rfl
                                have hD9 : va_D A [] := by exact hD.sub [] (by decide) rfl
                                have hK9 : va_K (dC, dI) cls [] s := hK.sub [] rfl
                                refine W.widen (k := 0) (n := 0) (Nat.le_of_ble_eq_true rfl) (Nat.le_of_ble_eq_true rfl) ?_
                                exact W.iret (v := 1) hx hb hr (fun t ht hW => ⟨⟨1, (), rfl, e_sX11_compute_r.symm, ⟨by rw [ht]; exact hP9, va_K.moved hW.alike hK9, hD9⟩⟩, hS.F ht⟩) hS.2.2 dX11_compute_181
                            · by_cases hc21 : p0 = 15
                              · refine lv_tableIn (off := 181) (tgt := 182) hx hb dX11_compute_1 (by rw [hc21]; decide) (by rw [hc21]; decide) (by rw [hc21]; rfl) (by decide) ?_
                                refine lv_iload_n hx hb dX11_compute_182 rfl (lv_at hl 1 rfl) ?_
                                refine lv_iload_n hx hb dX11_compute_183 rfl (lv_at hl 2 rfl) ?_
                                by_cases hc22 : p1 = p2
                                · refine lv_icmp_ne (tgt := 191) hx hb dX11_compute_184 (by decide) (fun c => absurd hc22 c) (fun _ => ?_)
                                  refine lv_iconst (v := 1) hx hb dX11_compute_187 (by decide) ?_
                                  refine lv_goto (tgt := 192) hx hb dX11_compute_188 (by decide) ?_
                                  have e_sX11_compute_r : sX11_compute_r p0 p1 p2 = 1 := by unfold sX11_compute_r; rw [if_neg hc1, if_neg hc2, if_neg hc3, if_neg hc4, if_neg hc6, if_neg hc8, if_neg hc9, if_neg hc10, if_neg hc11, if_neg hc12, if_neg hc13, if_neg hc15, if_neg hc17, if_neg hc19, if_pos hc21, if_pos hc22]
                                  have hP9 : va_P (dC, dI) cls [] s.heap := by exact hP.sub [] rfl
                                  have hD9 : va_D A [] := by exact hD.sub [] (by decide) rfl
                                  have hK9 : va_K (dC, dI) cls [] s := hK.sub [] rfl
                                  refine W.widen (k := 0) (n := 0) (Nat.le_of_ble_eq_true rfl) (Nat.le_of_ble_eq_true rfl) ?_
                                  exact W.iret (v := 1) hx hb hr (fun t ht hW => ⟨⟨1, (), rfl, e_sX11_compute_r.symm, ⟨by rw [ht]; exact hP9, va_K.moved hW.alike hK9, hD9⟩⟩, hS.F ht⟩) hS.2.2 dX11_compute_192
                                · refine lv_icmp_ne (tgt := 191) hx hb dX11_compute_184 (by decide) (fun _ => ?_) (fun c => absurd c hc22)
                                  refine lv_iconst (v := 0) hx hb dX11_compute_191 (by decide) ?_
                                  have e_sX11_compute_r : sX11_compute_r p0 p1 p2 = 0 := by unfold sX11_compute_r; rw [if_neg hc1, if_neg hc2, if_neg hc3, if_neg hc4, if_neg hc6, if_neg hc8, if_neg hc9, if_neg hc10, if_neg hc11, if_neg hc12, if_neg hc13, if_neg hc15, if_neg hc17, if_neg hc19, if_pos hc21, if_neg hc22]
                                  have hP9 : va_P (dC, dI) cls [] s.heap := by exact hP.sub [] rfl
                                  have hD9 : va_D A [] := by exact hD.sub [] (by decide) rfl
                                  have hK9 : va_K (dC, dI) cls [] s := hK.sub [] rfl
                                  refine W.widen (k := 0) (n := 0) (Nat.le_of_ble_eq_true rfl) (Nat.le_of_ble_eq_true rfl) ?_
                                  exact W.iret (v := 0) hx hb hr (fun t ht hW => ⟨⟨0, (), rfl, e_sX11_compute_r.symm, ⟨by rw [ht]; exact hP9, va_K.moved hW.alike hK9, hD9⟩⟩, hS.F ht⟩) hS.2.2 dX11_compute_192
                              · refine lv_tableOut (tgt := 193) hx hb dX11_compute_1 (by have g0 := lv_neT hc1 (show Int32.toInt 1 = 1 by decide); have g1 := lv_neT hc2 (show Int32.toInt 2 = 2 by decide); have g2 := lv_neT hc3 (show Int32.toInt 3 = 3 by decide); have g3 := lv_neT hc4 (show Int32.toInt 4 = 4 by decide); have g4 := lv_neT hc6 (show Int32.toInt 5 = 5 by decide); have g5 := lv_neT hc8 (show Int32.toInt 6 = 6 by decide); have g6 := lv_neT hc9 (show Int32.toInt 7 = 7 by decide); have g7 := lv_neT hc10 (show Int32.toInt 8 = 8 by decide); have g8 := lv_neT hc11 (show Int32.toInt 9 = 9 by decide); have g9 := lv_neT hc12 (show Int32.toInt 10 = 10 by decide); have g10 := lv_neT hc13 (show Int32.toInt 11 = 11 by decide); have g11 := lv_neT hc15 (show Int32.toInt 12 = 12 by decide); have g12 := lv_neT hc17 (show Int32.toInt 13 = 13 by decide); have g13 := lv_neT hc19 (show Int32.toInt 14 = 14 by decide); have g14 := lv_neT hc21 (show Int32.toInt 15 = 15 by decide); omega) (by decide) ?_
                                refine lv_iload_n hx hb dX11_compute_193 rfl (lv_at hl 1 rfl) ?_
                                refine lv_iload_n hx hb dX11_compute_194 rfl (lv_at hl 2 rfl) ?_
                                by_cases hc23 : p1 = p2
                                · refine lv_icmp_eq (tgt := 202) hx hb dX11_compute_195 (by decide) (fun _ => ?_) (fun c => absurd hc23 c)
                                  refine lv_iconst (v := 0) hx hb dX11_compute_202 (by decide) ?_
                                  have e_sX11_compute_r : sX11_compute_r p0 p1 p2 = 0 := by unfold sX11_compute_r; rw [if_neg hc1, if_neg hc2, if_neg hc3, if_neg hc4, if_neg hc6, if_neg hc8, if_neg hc9, if_neg hc10, if_neg hc11, if_neg hc12, if_neg hc13, if_neg hc15, if_neg hc17, if_neg hc19, if_neg hc21, if_pos hc23]
                                  have hP9 : va_P (dC, dI) cls [] s.heap := by exact hP.sub [] rfl
                                  have hD9 : va_D A [] := by exact hD.sub [] (by decide) rfl
                                  have hK9 : va_K (dC, dI) cls [] s := hK.sub [] rfl
                                  refine W.widen (k := 0) (n := 0) (Nat.le_of_ble_eq_true rfl) (Nat.le_of_ble_eq_true rfl) ?_
                                  exact W.iret (v := 0) hx hb hr (fun t ht hW => ⟨⟨0, (), rfl, e_sX11_compute_r.symm, ⟨by rw [ht]; exact hP9, va_K.moved hW.alike hK9, hD9⟩⟩, hS.F ht⟩) hS.2.2 dX11_compute_203
                                · refine lv_icmp_eq (tgt := 202) hx hb dX11_compute_195 (by decide) (fun c => absurd c hc23) (fun _ => ?_)
                                  refine lv_iconst (v := 1) hx hb dX11_compute_198 (by decide) ?_
                                  refine lv_goto (tgt := 203) hx hb dX11_compute_199 (by decide) ?_
                                  have e_sX11_compute_r : sX11_compute_r p0 p1 p2 = 1 := by unfold sX11_compute_r; rw [if_neg hc1, if_neg hc2, if_neg hc3, if_neg hc4, if_neg hc6, if_neg hc8, if_neg hc9, if_neg hc10, if_neg hc11, if_neg hc12, if_neg hc13, if_neg hc15, if_neg hc17, if_neg hc19, if_neg hc21, if_neg hc23]
                                  have hP9 : va_P (dC, dI) cls [] s.heap := by exact hP.sub [] rfl
                                  have hD9 : va_D A [] := by exact hD.sub [] (by decide) rfl
                                  have hK9 : va_K (dC, dI) cls [] s := hK.sub [] rfl
                                  refine W.widen (k := 0) (n := 0) (Nat.le_of_ble_eq_true rfl) (Nat.le_of_ble_eq_true rfl) ?_
                                  exact W.iret (v := 1) hx hb hr (fun t ht hW => ⟨⟨1, (), rfl, e_sX11_compute_r.symm, ⟨by rw [ht]; exact hP9, va_K.moved hW.alike hK9, hD9⟩⟩, hS.F ht⟩) hS.2.2 dX11_compute_203
set_option maxHeartbeats 4000000 in
set_option maxRecDepth 100000 in
theorem kX11_digestStep {zs : Nat × Nat} (l : Launch) (dC : Nat → ClassId) (dI : Nat → Nat → Nat) (p0 : Int64) (p1O : Nat) (p1_count : Int32) (p1_kindA : Nat) (p1_kindN : Nat) (p1_kindC : ClassId) (p1_kindF : Nat → Int32) (p1_givesA : Nat) (p1_givesN : Nat) (p1_givesC : ClassId) (p1_givesF : Nat → Int32) (p1_leftA : Nat) (p1_leftN : Nat) (p1_leftC : ClassId) (p1_leftF : Nat → Int32) (p1_rightA : Nat) (p1_rightN : Nat) (p1_rightC : ClassId) (p1_rightF : Nat → Int32) (p1_nextA : Nat) (p2 : Int32) (sz : Nat) (hq1 : vp_in p2 p1_kindN) (hq2 : vp_in p2 p1_givesN) (hq3 : vp_in p2 p1_leftN) (hq4 : vp_in p2 p1_rightN) : Met l yX11_digestStep (wz yX11_digestStep cX11_digestStep 6 (Option.some Jvm.ClassFile.FieldType.long)) ({ frames := 0, cells := 0, slots := 0, locals := 0 }) (va_Pc [.long p0, .ref p1O, .int p2] (PRE zs dC dI [(p1O, .inr (3, [.int p1_count, .ref p1_kindA, .ref p1_givesA, .ref p1_leftA, .ref p1_rightA, .ref p1_nextA])), (p1_kindA, .inl (p1_kindC, p1_kindN, .inl p1_kindF)), (p1_givesA, .inl (p1_givesC, p1_givesN, .inl p1_givesF)), (p1_leftA, .inl (p1_leftC, p1_leftN, .inl p1_leftF)), (p1_rightA, .inl (p1_rightC, p1_rightN, .inl p1_rightF))] [(p1_kindC, .int), (p1_givesC, .int), (p1_leftC, .int), (p1_rightC, .int)] sz)) (va_Ql (fun (r : Int64) (_ : Unit) => r = ((((((((p0 * 31) + (((p1_kindF (Int32.toNatClampNeg p2))).toInt64)) * 31) + (((p1_givesF (Int32.toNatClampNeg p2))).toInt64)) * 31) + (((p1_leftF (Int32.toNatClampNeg p2))).toInt64)) * 31) + (((p1_rightF (Int32.toNatClampNeg p2))).toInt64))) (fun _ t => POST dC dI [(p1O, .inr (3, [.int p1_count, .ref p1_kindA, .ref p1_givesA, .ref p1_leftA, .ref p1_rightA, .ref p1_nextA])), (p1_kindA, .inl (p1_kindC, p1_kindN, .inl p1_kindF)), (p1_givesA, .inl (p1_givesC, p1_givesN, .inl p1_givesF)), (p1_leftA, .inl (p1_leftC, p1_leftN, .inl p1_leftF)), (p1_rightA, .inl (p1_rightC, p1_rightN, .inl p1_rightF))] [(p1_kindC, .int), (p1_givesC, .int), (p1_leftC, .int), (p1_rightC, .int)] (va_A [(p1O, .inr (3, [.int p1_count, .ref p1_kindA, .ref p1_givesA, .ref p1_leftA, .ref p1_rightA, .ref p1_nextA])), (p1_kindA, .inl (p1_kindC, p1_kindN, .inl p1_kindF)), (p1_givesA, .inl (p1_givesC, p1_givesN, .inl p1_givesF)), (p1_leftA, .inl (p1_leftC, p1_leftN, .inl p1_leftF)), (p1_rightA, .inl (p1_rightC, p1_rightN, .inl p1_rightF))] sz) t) (va_A [(p1O, .inr (3, [.int p1_count, .ref p1_kindA, .ref p1_givesA, .ref p1_leftA, .ref p1_rightA, .ref p1_nextA])), (p1_kindA, .inl (p1_kindC, p1_kindN, .inl p1_kindF)), (p1_givesA, .inl (p1_givesC, p1_givesN, .inl p1_givesF)), (p1_leftA, .inl (p1_leftC, p1_leftN, .inl p1_leftF)), (p1_rightA, .inl (p1_rightC, p1_rightN, .inl p1_rightF))] sz)) 0 0 (va_A [(p1O, .inr (3, [.int p1_count, .ref p1_kindA, .ref p1_givesA, .ref p1_leftA, .ref p1_rightA, .ref p1_nextA])), (p1_kindA, .inl (p1_kindC, p1_kindN, .inl p1_kindF)), (p1_givesA, .inl (p1_givesC, p1_givesN, .inl p1_givesF)), (p1_leftA, .inl (p1_leftC, p1_leftN, .inl p1_leftF)), (p1_rightA, .inl (p1_rightC, p1_rightN, .inl p1_rightF))] sz) := by
  refine Met.ofW (cc := cX11_digestStep) (maxL := 6) (ret := (Option.some Jvm.ClassFile.FieldType.long)) (by decide) rfl ?_
  intro p e s m args below meth c s₁ B hml hv
  obtain ⟨rfl, hsz, hP, hK, hD0, hE⟩ := hv
  have hx := B.exec
  have hb := B.bytes
  have hr := B.returns
  have hts0 := atoms_spec (ws := wz yX11_digestStep cX11_digestStep 6 (Option.some Jvm.ClassFile.FieldType.long)) B.pre
  have hts : ∀ w ∈ gw, w.before _ s = true := fun w h => hts0 w (List.mem_cons_of_mem _ h)
  have hown : s.vm.findClass RX11 = some m.cls := findClass_of_methodNamed B.named
  have hlocks := B.notSynchronized
  subst hsz
  have hD := hD0.self (sz := s.heap.size)
  generalize hAe : va_A [(p1O, .inr (3, [.int p1_count, .ref p1_kindA, .ref p1_givesA, .ref p1_leftA, .ref p1_rightA, .ref p1_nextA])), (p1_kindA, .inl (p1_kindC, p1_kindN, .inl p1_kindF)), (p1_givesA, .inl (p1_givesC, p1_givesN, .inl p1_givesF)), (p1_leftA, .inl (p1_leftC, p1_leftN, .inl p1_leftF)), (p1_rightA, .inl (p1_rightC, p1_rightN, .inl p1_rightF))] s.heap.size = A at hD hE ⊢
  have hA : ∀ q : Nat, s.heap.size ≤ q → A q := fun q h => by rw [← hAe]; exact Or.inr h
  have hS : va_S A s.heap s.heap [] := va_S.rf
  have hP : va_P (dC, dI) cls [(p1O, .inr (3, [.int p1_count, .ref p1_kindA, .ref p1_givesA, .ref p1_leftA, .ref p1_rightA, .ref p1_nextA])), (p1_kindA, .inl (p1_kindC, p1_kindN, .inl p1_kindF)), (p1_givesA, .inl (p1_givesC, p1_givesN, .inl p1_givesF)), (p1_leftA, .inl (p1_leftC, p1_leftN, .inl p1_leftF)), (p1_rightA, .inl (p1_rightC, p1_rightN, .inl p1_rightF))] s.heap := hP
  have hl := lv_entry ([.long p0, .ref p1O, .int p2]) (n := 6) (Nat.le_of_ble_eq_true rfl)
  rw [lg_entry_eq]
  generalize (lg_sl ([.long p0, .ref p1O, .int p2]) ++ List.replicate (6 - (lg_sl ([.long p0, .ref p1O, .int p2])).length) Slot.unset).toArray = ls at hl ⊢
  have hl : lv_has ls 6 [(0, .long p0), (2, .ref p1O), (3, .int p2)] := hl
  refine lv_lload_n hx hb dX11_digestStep_0 rfl (lv_at hl 0 rfl) ?_
  refine lv_lstore (lv' := [(4, .long p0), (0, .long p0), (2, .ref p1O), (3, .int p2)]) hx hb dX11_digestStep_1 hl (by decide) rfl (fun ls hl => ?_)
  refine lv_lload hx hb dX11_digestStep_3 (lv_at hl 0 rfl) ?_
  refine lv_ldc2 (v := 31) hx hb hown (hts _ qw128) dX11_digestStep_5 ?_
  refine lv_lmul hx hb dX11_digestStep_8 ?_
  refine lv_aload_n hx hb dX11_digestStep_9 rfl (lv_at hl 2 rfl) ?_
  refine va_get (D := (dC, dI)) (ci := 3) (v := .ref p1_kindA) (C := RX9) (T := TX9) (N := 6) hx hb hts i_X9 hown hK hP 0 rfl rfl 1 (by decide) (hts _ qw144) (fun _ h9 => h9) rfl dX11_digestStep_10 ?_
  refine lv_iload_n hx hb dX11_digestStep_13 rfl (lv_at hl 3 rfl) ?_
  refine va_iald hx hb hK hP 1 0 rfl rfl (hq1) dX11_digestStep_14 ?_
  refine lv_i2l (v := ((p1_kindF (Int32.toNatClampNeg p2))).toInt64) hx hb dX11_digestStep_15 rfl ?_
  refine lv_ladd hx hb dX11_digestStep_16 ?_
  refine lv_lstore (lv' := [(4, .long ((p0 * 31) + (((p1_kindF (Int32.toNatClampNeg p2))).toInt64))), (0, .long p0), (2, .ref p1O), (3, .int p2)]) hx hb dX11_digestStep_17 hl (by decide) rfl (fun ls hl => ?_)
  refine lv_lload hx hb dX11_digestStep_19 (lv_at hl 0 rfl) ?_
  refine lv_ldc2 (v := 31) hx hb hown (hts _ qw128) dX11_digestStep_21 ?_
  refine lv_lmul hx hb dX11_digestStep_24 ?_
  refine lv_aload_n hx hb dX11_digestStep_25 rfl (lv_at hl 2 rfl) ?_
  refine va_get (D := (dC, dI)) (ci := 3) (v := .ref p1_givesA) (C := RX9) (T := TX9) (N := 6) hx hb hts i_X9 hown hK hP 0 rfl rfl 2 (by decide) (hts _ qw145) (fun _ h9 => h9) rfl dX11_digestStep_26 ?_
  refine lv_iload_n hx hb dX11_digestStep_29 rfl (lv_at hl 3 rfl) ?_
  refine va_iald hx hb hK hP 2 1 rfl rfl (hq2) dX11_digestStep_30 ?_
  refine lv_i2l (v := ((p1_givesF (Int32.toNatClampNeg p2))).toInt64) hx hb dX11_digestStep_31 rfl ?_
  refine lv_ladd hx hb dX11_digestStep_32 ?_
  refine lv_lstore (lv' := [(4, .long ((((p0 * 31) + (((p1_kindF (Int32.toNatClampNeg p2))).toInt64)) * 31) + (((p1_givesF (Int32.toNatClampNeg p2))).toInt64))), (0, .long p0), (2, .ref p1O), (3, .int p2)]) hx hb dX11_digestStep_33 hl (by decide) rfl (fun ls hl => ?_)
  refine lv_lload hx hb dX11_digestStep_35 (lv_at hl 0 rfl) ?_
  refine lv_ldc2 (v := 31) hx hb hown (hts _ qw128) dX11_digestStep_37 ?_
  refine lv_lmul hx hb dX11_digestStep_40 ?_
  refine lv_aload_n hx hb dX11_digestStep_41 rfl (lv_at hl 2 rfl) ?_
  refine va_get (D := (dC, dI)) (ci := 3) (v := .ref p1_leftA) (C := RX9) (T := TX9) (N := 6) hx hb hts i_X9 hown hK hP 0 rfl rfl 3 (by decide) (hts _ qw146) (fun _ h9 => h9) rfl dX11_digestStep_42 ?_
  refine lv_iload_n hx hb dX11_digestStep_45 rfl (lv_at hl 3 rfl) ?_
  refine va_iald hx hb hK hP 3 2 rfl rfl (hq3) dX11_digestStep_46 ?_
  refine lv_i2l (v := ((p1_leftF (Int32.toNatClampNeg p2))).toInt64) hx hb dX11_digestStep_47 rfl ?_
  refine lv_ladd hx hb dX11_digestStep_48 ?_
  refine lv_lstore (lv' := [(4, .long ((((((p0 * 31) + (((p1_kindF (Int32.toNatClampNeg p2))).toInt64)) * 31) + (((p1_givesF (Int32.toNatClampNeg p2))).toInt64)) * 31) + (((p1_leftF (Int32.toNatClampNeg p2))).toInt64))), (0, .long p0), (2, .ref p1O), (3, .int p2)]) hx hb dX11_digestStep_49 hl (by decide) rfl (fun ls hl => ?_)
  refine lv_lload hx hb dX11_digestStep_51 (lv_at hl 0 rfl) ?_
  refine lv_ldc2 (v := 31) hx hb hown (hts _ qw128) dX11_digestStep_53 ?_
  refine lv_lmul hx hb dX11_digestStep_56 ?_
  refine lv_aload_n hx hb dX11_digestStep_57 rfl (lv_at hl 2 rfl) ?_
  refine va_get (D := (dC, dI)) (ci := 3) (v := .ref p1_rightA) (C := RX9) (T := TX9) (N := 6) hx hb hts i_X9 hown hK hP 0 rfl rfl 4 (by decide) (hts _ qw147) (fun _ h9 => h9) rfl dX11_digestStep_58 ?_
  refine lv_iload_n hx hb dX11_digestStep_61 rfl (lv_at hl 3 rfl) ?_
  refine va_iald hx hb hK hP 4 3 rfl rfl (hq4) dX11_digestStep_62 ?_
  refine lv_i2l (v := ((p1_rightF (Int32.toNatClampNeg p2))).toInt64) hx hb dX11_digestStep_63 rfl ?_
  refine lv_ladd hx hb dX11_digestStep_64 ?_
  refine lv_lstore (lv' := [(4, .long ((((((((p0 * 31) + (((p1_kindF (Int32.toNatClampNeg p2))).toInt64)) * 31) + (((p1_givesF (Int32.toNatClampNeg p2))).toInt64)) * 31) + (((p1_leftF (Int32.toNatClampNeg p2))).toInt64)) * 31) + (((p1_rightF (Int32.toNatClampNeg p2))).toInt64))), (0, .long p0), (2, .ref p1O), (3, .int p2)]) hx hb dX11_digestStep_65 hl (by decide) rfl (fun ls hl => ?_)
  refine lv_lload hx hb dX11_digestStep_67 (lv_at hl 0 rfl) ?_
  have hP9 : va_P (dC, dI) cls [(p1O, .inr (3, [.int p1_count, .ref p1_kindA, .ref p1_givesA, .ref p1_leftA, .ref p1_rightA, .ref p1_nextA])), (p1_kindA, .inl (p1_kindC, p1_kindN, .inl p1_kindF)), (p1_givesA, .inl (p1_givesC, p1_givesN, .inl p1_givesF)), (p1_leftA, .inl (p1_leftC, p1_leftN, .inl p1_leftF)), (p1_rightA, .inl (p1_rightC, p1_rightN, .inl p1_rightF))] s.heap := by exact hP.sub [0, 1, 2, 3, 4] rfl
  have hD9 : va_D A [(p1O, .inr (3, [.int p1_count, .ref p1_kindA, .ref p1_givesA, .ref p1_leftA, .ref p1_rightA, .ref p1_nextA])), (p1_kindA, .inl (p1_kindC, p1_kindN, .inl p1_kindF)), (p1_givesA, .inl (p1_givesC, p1_givesN, .inl p1_givesF)), (p1_leftA, .inl (p1_leftC, p1_leftN, .inl p1_leftF)), (p1_rightA, .inl (p1_rightC, p1_rightN, .inl p1_rightF))] := by exact hD.sub [0, 1, 2, 3, 4] (by decide) rfl
  have hK9 : va_K (dC, dI) cls [(p1_kindC, .int), (p1_givesC, .int), (p1_leftC, .int), (p1_rightC, .int)] s := hK.sub [0, 1, 2, 3] rfl
  refine W.widen (k := 0) (n := 0) (Nat.le_of_ble_eq_true rfl) (Nat.le_of_ble_eq_true rfl) ?_
  exact W.lret (v := ((((((((p0 * 31) + (((p1_kindF (Int32.toNatClampNeg p2))).toInt64)) * 31) + (((p1_givesF (Int32.toNatClampNeg p2))).toInt64)) * 31) + (((p1_leftF (Int32.toNatClampNeg p2))).toInt64)) * 31) + (((p1_rightF (Int32.toNatClampNeg p2))).toInt64))) hx hb hr (fun t ht hW => ⟨⟨((((((((p0 * 31) + (((p1_kindF (Int32.toNatClampNeg p2))).toInt64)) * 31) + (((p1_givesF (Int32.toNatClampNeg p2))).toInt64)) * 31) + (((p1_leftF (Int32.toNatClampNeg p2))).toInt64)) * 31) + (((p1_rightF (Int32.toNatClampNeg p2))).toInt64)), (), rfl, rfl, ⟨by rw [ht]; exact hP9, va_K.moved hW.alike hK9, hD9⟩⟩, hS.F ht⟩) hS.2.2 dX11_digestStep_69
def sX10_append_n23_0_1 (i14 : Int32) : Int32 := (if 1200 ≤ i14 then i14 else (if 1200 ≤ (i14 + 1) then (i14 + 1) else (if 1200 ≤ ((i14 + 1) + 1) then ((i14 + 1) + 1) else (if 1200 ≤ (((i14 + 1) + 1) + 1) then (((i14 + 1) + 1) + 1) else ((((i14 + 1) + 1) + 1) + 1)))))
def sX10_append_n23_1 (i1 : Int32) (i14 : Int32) (F22 : Nat → Int32) : Nat → Int32 := (if 1200 ≤ i14 then F22 else (if 1200 ≤ (i14 + 1) then (upd F22 (Int32.toNatClampNeg i14) ((((i1 : Int32).toUInt32 >>> ((24 : Int32).toUInt32 &&& Int32.toUInt32 31)).toInt32) &&& 255)) else (if 1200 ≤ ((i14 + 1) + 1) then (upd (upd F22 (Int32.toNatClampNeg i14) ((((i1 : Int32).toUInt32 >>> ((24 : Int32).toUInt32 &&& Int32.toUInt32 31)).toInt32) &&& 255)) (Int32.toNatClampNeg (i14 + 1)) ((((i1 : Int32).toUInt32 >>> ((16 : Int32).toUInt32 &&& Int32.toUInt32 31)).toInt32) &&& 255)) else (if 1200 ≤ (((i14 + 1) + 1) + 1) then (upd (upd (upd F22 (Int32.toNatClampNeg i14) ((((i1 : Int32).toUInt32 >>> ((24 : Int32).toUInt32 &&& Int32.toUInt32 31)).toInt32) &&& 255)) (Int32.toNatClampNeg (i14 + 1)) ((((i1 : Int32).toUInt32 >>> ((16 : Int32).toUInt32 &&& Int32.toUInt32 31)).toInt32) &&& 255)) (Int32.toNatClampNeg ((i14 + 1) + 1)) ((((i1 : Int32).toUInt32 >>> ((8 : Int32).toUInt32 &&& Int32.toUInt32 31)).toInt32) &&& 255)) else (upd (upd (upd (upd F22 (Int32.toNatClampNeg i14) ((((i1 : Int32).toUInt32 >>> ((24 : Int32).toUInt32 &&& Int32.toUInt32 31)).toInt32) &&& 255)) (Int32.toNatClampNeg (i14 + 1)) ((((i1 : Int32).toUInt32 >>> ((16 : Int32).toUInt32 &&& Int32.toUInt32 31)).toInt32) &&& 255)) (Int32.toNatClampNeg ((i14 + 1) + 1)) ((((i1 : Int32).toUInt32 >>> ((8 : Int32).toUInt32 &&& Int32.toUInt32 31)).toInt32) &&& 255)) (Int32.toNatClampNeg (((i14 + 1) + 1) + 1)) ((((i1 : Int32).toUInt32 >>> ((0 : Int32).toUInt32 &&& Int32.toUInt32 31)).toInt32) &&& 255))))))
set_option maxHeartbeats 4000000 in
set_option maxRecDepth 100000 in
theorem kX10_append_n23 {zs : Nat × Nat} (l : Launch) (dC : Nat → ClassId) (dI : Nat → Nat → Nat) (a0 : Nat) (i1 : Int32) (a13 : Nat) (i14 : Int32) (i15 : Int32) (i16 : Int32) (i17 : Int32) (j18 : Int64) (i19 : Int32) (i20 : Int32) (k21 : ClassId) (F22 : Nat → Int32) (sz : Nat) (hq1 : ¬ (1200 ≤ i14) → vp_in i14 1200) (hq2 : ¬ (1200 ≤ i14) → ¬ (1200 ≤ (i14 + 1)) → vp_in (i14 + 1) 1200) (hq3 : ¬ (1200 ≤ i14) → ¬ (1200 ≤ (i14 + 1)) → ¬ (1200 ≤ ((i14 + 1) + 1)) → vp_in ((i14 + 1) + 1) 1200) (hq4 : ¬ (1200 ≤ i14) → ¬ (1200 ≤ (i14 + 1)) → ¬ (1200 ≤ ((i14 + 1) + 1)) → ¬ (1200 ≤ (((i14 + 1) + 1) + 1)) → vp_in (((i14 + 1) + 1) + 1) 1200) : Met l yX10_append (wz yX10_append cX10_append 3 (Option.none : Option Jvm.ClassFile.FieldType)) ({ frames := 0, cells := 0, slots := 0, locals := 0 }) (va_Pc [.ref a0, .int i1] (PRE zs dC dI [(a0, .inr (0, [.ref a13, .int i14, .int i15, .int i16, .int i17, .long j18, .int i19, .int i20])), (a13, .inl (k21, 1200, .inl F22))] [(k21, .int)] sz)) (va_Qv (fun (_ : Unit) => True) (fun _ t => POST dC dI [(a0, .inr (0, [.ref a13, .int (sX10_append_n23_0_1 i14), .int i15, .int i16, .int i17, .long j18, .int i19, .int i20])), (a13, .inl (k21, 1200, .inl (sX10_append_n23_1 i1 i14 F22)))] [(k21, .int)] (va_A [(a0, .inr (0, [.ref a13, .int i14, .int i15, .int i16, .int i17, .long j18, .int i19, .int i20])), (a13, .inl (k21, 1200, .inl F22))] sz) t) (va_A [(a0, .inr (0, [.ref a13, .int i14, .int i15, .int i16, .int i17, .long j18, .int i19, .int i20])), (a13, .inl (k21, 1200, .inl F22))] sz)) 0 0 (va_A [(a0, .inr (0, [.ref a13, .int i14, .int i15, .int i16, .int i17, .long j18, .int i19, .int i20])), (a13, .inl (k21, 1200, .inl F22))] sz) := by
  refine Met.ofW (cc := cX10_append) (maxL := 3) (ret := (Option.none : Option Jvm.ClassFile.FieldType)) (by decide) rfl ?_
  intro p e s m args below meth c s₁ B hml hv
  obtain ⟨rfl, hsz, hP, hK, hD0, hE⟩ := hv
  have hx := B.exec
  have hb := B.bytes
  have hr := B.returns
  have hts0 := atoms_spec (ws := wz yX10_append cX10_append 3 (Option.none : Option Jvm.ClassFile.FieldType)) B.pre
  have hts : ∀ w ∈ gw, w.before _ s = true := fun w h => hts0 w (List.mem_cons_of_mem _ h)
  have hown : s.vm.findClass RX10 = some m.cls := findClass_of_methodNamed B.named
  have hlocks := B.notSynchronized
  subst hsz
  have hD := hD0.self (sz := s.heap.size)
  generalize hAe : va_A [(a0, .inr (0, [.ref a13, .int i14, .int i15, .int i16, .int i17, .long j18, .int i19, .int i20])), (a13, .inl (k21, 1200, .inl F22))] s.heap.size = A at hD hE ⊢
  have hA : ∀ q : Nat, s.heap.size ≤ q → A q := fun q h => by rw [← hAe]; exact Or.inr h
  have hS : va_S A s.heap s.heap [] := va_S.rf
  have hP : va_P (dC, dI) cls [(a0, .inr (0, [.ref a13, .int i14, .int i15, .int i16, .int i17, .long j18, .int i19, .int i20])), (a13, .inl (k21, 1200, .inl F22))] s.heap := hP
  have hl := lv_entry ([.ref a0, .int i1]) (n := 3) (Nat.le_of_ble_eq_true rfl)
  rw [lg_entry_eq]
  generalize (lg_sl ([.ref a0, .int i1]) ++ List.replicate (3 - (lg_sl ([.ref a0, .int i1])).length) Slot.unset).toArray = ls at hl ⊢
  have hl : lv_has ls 3 [(0, .ref a0), (1, .int i1)] := hl
  refine lv_bipush (v := 24) hx hb dX10_append_0 (by decide) ?_
  refine lv_istore_n (lv' := [(2, .int 24), (0, .ref a0), (1, .int i1)]) hx hb dX10_append_2 rfl hl (by decide) rfl (fun ls hl => ?_)
  refine lv_iload_n hx hb dX10_append_3 rfl (lv_at hl 0 rfl) ?_
  refine lv_if_lt (tgt := 49) hx hb dX10_append_4 (by decide) (fun c => absurd c (by decide)) (fun _ => ?_)
  refine lv_aload_n hx hb dX10_append_7 rfl (lv_at hl 1 rfl) ?_
  refine va_get (D := (dC, dI)) (ci := 0) (v := .int i14) (C := RX10) (T := TX10) (N := 8) hx hb hts i_X10 hown hK hP 0 rfl rfl 1 (by decide) (hts _ qw157) (fun _ h9 => h9) rfl dX10_append_8 ?_
  refine lv_sipush (v := 1200) hx hb dX10_append_11 (by decide) ?_
  by_cases hc1 : 1200 ≤ i14
  · refine lv_icmp_ge (tgt := 49) hx hb dX10_append_14 (by decide) (fun _ => ?_) (fun c => absurd hc1 c)
    have e_sX10_append_n23_0_1 : sX10_append_n23_0_1 i14 = i14 := by unfold sX10_append_n23_0_1; rw [if_pos hc1]
    have e_sX10_append_n23_1 : sX10_append_n23_1 i1 i14 F22 = F22 := by unfold sX10_append_n23_1; rw [if_pos hc1]
    have hP9 : va_P (dC, dI) cls [(a0, .inr (0, [.ref a13, .int (sX10_append_n23_0_1 i14), .int i15, .int i16, .int i17, .long j18, .int i19, .int i20])), (a13, .inl (k21, 1200, .inl (sX10_append_n23_1 i1 i14 F22)))] s.heap := by rw [e_sX10_append_n23_0_1, e_sX10_append_n23_1]; exact hP.sub [0, 1] rfl
    have hD9 : va_D A [(a0, .inr (0, [.ref a13, .int (sX10_append_n23_0_1 i14), .int i15, .int i16, .int i17, .long j18, .int i19, .int i20])), (a13, .inl (k21, 1200, .inl (sX10_append_n23_1 i1 i14 F22)))] := by rw [e_sX10_append_n23_0_1, e_sX10_append_n23_1]; exact hD.sub [0, 1] (by decide) rfl
    have hK9 : va_K (dC, dI) cls [(k21, .int)] s := hK.sub [0] rfl
    refine W.widen (k := 0) (n := 0) (Nat.le_of_ble_eq_true rfl) (Nat.le_of_ble_eq_true rfl) ?_
    exact W.vret hx hb hr (fun t ht hW => ⟨⟨(), rfl, trivial, ⟨by rw [ht]; exact hP9, va_K.moved hW.alike hK9, hD9⟩⟩, hS.F ht⟩) hS.2.2 dX10_append_49
  · refine lv_icmp_ge (tgt := 49) hx hb dX10_append_14 (by decide) (fun c => absurd c hc1) (fun _ => ?_)
    refine lv_aload_n hx hb dX10_append_17 rfl (lv_at hl 1 rfl) ?_
    refine va_get (D := (dC, dI)) (ci := 0) (v := .ref a13) (C := RX10) (T := TX10) (N := 8) hx hb hts i_X10 hown hK hP 0 rfl rfl 0 (by decide) (hts _ qw3) (fun _ h9 => h9) rfl dX10_append_18 ?_
    refine lv_aload_n hx hb dX10_append_21 rfl (lv_at hl 1 rfl) ?_
    refine va_get (D := (dC, dI)) (ci := 0) (v := .int i14) (C := RX10) (T := TX10) (N := 8) hx hb hts i_X10 hown hK hP 0 rfl rfl 1 (by decide) (hts _ qw157) (fun _ h9 => h9) rfl dX10_append_22 ?_
    refine lv_iload_n hx hb dX10_append_25 rfl (lv_at hl 2 rfl) ?_
    refine lv_iload_n hx hb dX10_append_26 rfl (lv_at hl 0 rfl) ?_
    refine lv_iushr (v := (((i1 : Int32).toUInt32 >>> ((24 : Int32).toUInt32 &&& Int32.toUInt32 31)).toInt32)) hx hb dX10_append_27 rfl ?_
    refine lv_sipush (v := 255) hx hb dX10_append_28 (by decide) ?_
    refine lv_iand hx hb dX10_append_31 ?_
    refine va_iast hx hb hK hP hD hS 1 0 rfl rfl (hq1 hc1) dX10_append_32 (fun H locs hP hD hS => ?_)
    have hP : va_P (dC, dI) cls [(a0, .inr (0, [.ref a13, .int i14, .int i15, .int i16, .int i17, .long j18, .int i19, .int i20])), (a13, .inl (k21, 1200, .inl (upd F22 (Int32.toNatClampNeg i14) ((((i1 : Int32).toUInt32 >>> ((24 : Int32).toUInt32 &&& Int32.toUInt32 31)).toInt32) &&& 255))))] H := hP
    have hD : va_D A [(a0, .inr (0, [.ref a13, .int i14, .int i15, .int i16, .int i17, .long j18, .int i19, .int i20])), (a13, .inl (k21, 1200, .inl (upd F22 (Int32.toNatClampNeg i14) ((((i1 : Int32).toUInt32 >>> ((24 : Int32).toUInt32 &&& Int32.toUInt32 31)).toInt32) &&& 255))))] := hD
    refine lv_aload_n hx hb dX10_append_33 rfl (lv_at hl 1 rfl) ?_
    refine lv_dup hx hb dX10_append_34 rfl ?_
    refine va_get (D := (dC, dI)) (ci := 0) (v := .int i14) (C := RX10) (T := TX10) (N := 8) hx hb hts i_X10 hown hK hP 0 rfl rfl 1 (by decide) (hts _ qw157) (fun _ h9 => h9) rfl dX10_append_35 ?_
    refine lv_iconst (v := 1) hx hb dX10_append_38 (by decide) ?_
    refine lv_iadd hx hb dX10_append_39 ?_
    refine va_put (D := (dC, dI)) (ci := 0) (v := .int (i14 + 1)) (ty := .int) (C := RX10) (T := TX10) (N := 8) hx hb hts i_X10 tyX10 tyX10_ok nmX10 hown hK hP hD hS 0 rfl rfl 1 (by decide) (hts _ qw157) (fun _ h9 => h9) rfl (by decide +kernel) rfl rfl (Nat.le_of_ble_eq_true rfl) dX10_append_40 (fun H locs hP hD hS => ?_)
    have hP : va_P (dC, dI) cls [(a0, .inr (0, [.ref a13, .int (i14 + 1), .int i15, .int i16, .int i17, .long j18, .int i19, .int i20])), (a13, .inl (k21, 1200, .inl (upd F22 (Int32.toNatClampNeg i14) ((((i1 : Int32).toUInt32 >>> ((24 : Int32).toUInt32 &&& Int32.toUInt32 31)).toInt32) &&& 255))))] H := hP
    have hD : va_D A [(a0, .inr (0, [.ref a13, .int (i14 + 1), .int i15, .int i16, .int i17, .long j18, .int i19, .int i20])), (a13, .inl (k21, 1200, .inl (upd F22 (Int32.toNatClampNeg i14) ((((i1 : Int32).toUInt32 >>> ((24 : Int32).toUInt32 &&& Int32.toUInt32 31)).toInt32) &&& 255))))] := hD
    refine lv_iinc (v := 16) (lv' := [(2, .int 16), (0, .ref a0), (1, .int i1)]) hx hb dX10_append_43 hl (k := 0) rfl (by decide) (by decide) rfl (fun ls hl => ?_)
    refine lv_goto (tgt := 3) hx hb dX10_append_46 (by decide) ?_
    refine lv_iload_n hx hb dX10_append_3 rfl (lv_at hl 0 rfl) ?_
    refine lv_if_lt (tgt := 49) hx hb dX10_append_4 (by decide) (fun c => absurd c (by decide)) (fun _ => ?_)
    refine lv_aload_n hx hb dX10_append_7 rfl (lv_at hl 1 rfl) ?_
    refine va_get (D := (dC, dI)) (ci := 0) (v := .int (i14 + 1)) (C := RX10) (T := TX10) (N := 8) hx hb hts i_X10 hown hK hP 0 rfl rfl 1 (by decide) (hts _ qw157) (fun _ h9 => h9) rfl dX10_append_8 ?_
    refine lv_sipush (v := 1200) hx hb dX10_append_11 (by decide) ?_
    by_cases hc2 : 1200 ≤ (i14 + 1)
    · refine lv_icmp_ge (tgt := 49) hx hb dX10_append_14 (by decide) (fun _ => ?_) (fun c => absurd hc2 c)
      have e_sX10_append_n23_0_1 : sX10_append_n23_0_1 i14 = (i14 + 1) := by unfold sX10_append_n23_0_1; rw [if_neg hc1, if_pos hc2]
      have e_sX10_append_n23_1 : sX10_append_n23_1 i1 i14 F22 = (upd F22 (Int32.toNatClampNeg i14) ((((i1 : Int32).toUInt32 >>> ((24 : Int32).toUInt32 &&& Int32.toUInt32 31)).toInt32) &&& 255)) := by unfold sX10_append_n23_1; rw [if_neg hc1, if_pos hc2]
      have hP9 : va_P (dC, dI) cls [(a0, .inr (0, [.ref a13, .int (sX10_append_n23_0_1 i14), .int i15, .int i16, .int i17, .long j18, .int i19, .int i20])), (a13, .inl (k21, 1200, .inl (sX10_append_n23_1 i1 i14 F22)))] H := by rw [e_sX10_append_n23_0_1, e_sX10_append_n23_1]; exact hP.sub [0, 1] rfl
      have hD9 : va_D A [(a0, .inr (0, [.ref a13, .int (sX10_append_n23_0_1 i14), .int i15, .int i16, .int i17, .long j18, .int i19, .int i20])), (a13, .inl (k21, 1200, .inl (sX10_append_n23_1 i1 i14 F22)))] := by rw [e_sX10_append_n23_0_1, e_sX10_append_n23_1]; exact hD.sub [0, 1] (by decide) rfl
      have hK9 : va_K (dC, dI) cls [(k21, .int)] s := hK.sub [0] rfl
      refine W.widen (k := 0) (n := 0) (Nat.le_of_ble_eq_true rfl) (Nat.le_of_ble_eq_true rfl) ?_
      exact W.vret hx hb hr (fun t ht hW => ⟨⟨(), rfl, trivial, ⟨by rw [ht]; exact hP9, va_K.moved hW.alike hK9, hD9⟩⟩, hS.F ht⟩) hS.2.2 dX10_append_49
    · refine lv_icmp_ge (tgt := 49) hx hb dX10_append_14 (by decide) (fun c => absurd c hc2) (fun _ => ?_)
      refine lv_aload_n hx hb dX10_append_17 rfl (lv_at hl 1 rfl) ?_
      refine va_get (D := (dC, dI)) (ci := 0) (v := .ref a13) (C := RX10) (T := TX10) (N := 8) hx hb hts i_X10 hown hK hP 0 rfl rfl 0 (by decide) (hts _ qw3) (fun _ h9 => h9) rfl dX10_append_18 ?_
      refine lv_aload_n hx hb dX10_append_21 rfl (lv_at hl 1 rfl) ?_
      refine va_get (D := (dC, dI)) (ci := 0) (v := .int (i14 + 1)) (C := RX10) (T := TX10) (N := 8) hx hb hts i_X10 hown hK hP 0 rfl rfl 1 (by decide) (hts _ qw157) (fun _ h9 => h9) rfl dX10_append_22 ?_
      refine lv_iload_n hx hb dX10_append_25 rfl (lv_at hl 2 rfl) ?_
      refine lv_iload_n hx hb dX10_append_26 rfl (lv_at hl 0 rfl) ?_
      refine lv_iushr (v := (((i1 : Int32).toUInt32 >>> ((16 : Int32).toUInt32 &&& Int32.toUInt32 31)).toInt32)) hx hb dX10_append_27 rfl ?_
      refine lv_sipush (v := 255) hx hb dX10_append_28 (by decide) ?_
      refine lv_iand hx hb dX10_append_31 ?_
      refine va_iast hx hb hK hP hD hS 1 0 rfl rfl (hq2 hc1 hc2) dX10_append_32 (fun H locs hP hD hS => ?_)
      have hP : va_P (dC, dI) cls [(a0, .inr (0, [.ref a13, .int (i14 + 1), .int i15, .int i16, .int i17, .long j18, .int i19, .int i20])), (a13, .inl (k21, 1200, .inl (upd (upd F22 (Int32.toNatClampNeg i14) ((((i1 : Int32).toUInt32 >>> ((24 : Int32).toUInt32 &&& Int32.toUInt32 31)).toInt32) &&& 255)) (Int32.toNatClampNeg (i14 + 1)) ((((i1 : Int32).toUInt32 >>> ((16 : Int32).toUInt32 &&& Int32.toUInt32 31)).toInt32) &&& 255))))] H := hP
      have hD : va_D A [(a0, .inr (0, [.ref a13, .int (i14 + 1), .int i15, .int i16, .int i17, .long j18, .int i19, .int i20])), (a13, .inl (k21, 1200, .inl (upd (upd F22 (Int32.toNatClampNeg i14) ((((i1 : Int32).toUInt32 >>> ((24 : Int32).toUInt32 &&& Int32.toUInt32 31)).toInt32) &&& 255)) (Int32.toNatClampNeg (i14 + 1)) ((((i1 : Int32).toUInt32 >>> ((16 : Int32).toUInt32 &&& Int32.toUInt32 31)).toInt32) &&& 255))))] := hD
      refine lv_aload_n hx hb dX10_append_33 rfl (lv_at hl 1 rfl) ?_
      refine lv_dup hx hb dX10_append_34 rfl ?_
      refine va_get (D := (dC, dI)) (ci := 0) (v := .int (i14 + 1)) (C := RX10) (T := TX10) (N := 8) hx hb hts i_X10 hown hK hP 0 rfl rfl 1 (by decide) (hts _ qw157) (fun _ h9 => h9) rfl dX10_append_35 ?_
      refine lv_iconst (v := 1) hx hb dX10_append_38 (by decide) ?_
      refine lv_iadd hx hb dX10_append_39 ?_
      refine va_put (D := (dC, dI)) (ci := 0) (v := .int ((i14 + 1) + 1)) (ty := .int) (C := RX10) (T := TX10) (N := 8) hx hb hts i_X10 tyX10 tyX10_ok nmX10 hown hK hP hD hS 0 rfl rfl 1 (by decide) (hts _ qw157) (fun _ h9 => h9) rfl (by decide +kernel) rfl rfl (Nat.le_of_ble_eq_true rfl) dX10_append_40 (fun H locs hP hD hS => ?_)
      have hP : va_P (dC, dI) cls [(a0, .inr (0, [.ref a13, .int ((i14 + 1) + 1), .int i15, .int i16, .int i17, .long j18, .int i19, .int i20])), (a13, .inl (k21, 1200, .inl (upd (upd F22 (Int32.toNatClampNeg i14) ((((i1 : Int32).toUInt32 >>> ((24 : Int32).toUInt32 &&& Int32.toUInt32 31)).toInt32) &&& 255)) (Int32.toNatClampNeg (i14 + 1)) ((((i1 : Int32).toUInt32 >>> ((16 : Int32).toUInt32 &&& Int32.toUInt32 31)).toInt32) &&& 255))))] H := hP
      have hD : va_D A [(a0, .inr (0, [.ref a13, .int ((i14 + 1) + 1), .int i15, .int i16, .int i17, .long j18, .int i19, .int i20])), (a13, .inl (k21, 1200, .inl (upd (upd F22 (Int32.toNatClampNeg i14) ((((i1 : Int32).toUInt32 >>> ((24 : Int32).toUInt32 &&& Int32.toUInt32 31)).toInt32) &&& 255)) (Int32.toNatClampNeg (i14 + 1)) ((((i1 : Int32).toUInt32 >>> ((16 : Int32).toUInt32 &&& Int32.toUInt32 31)).toInt32) &&& 255))))] := hD
      refine lv_iinc (v := 8) (lv' := [(2, .int 8), (0, .ref a0), (1, .int i1)]) hx hb dX10_append_43 hl (k := 0) rfl (by decide) (by decide) rfl (fun ls hl => ?_)
      refine lv_goto (tgt := 3) hx hb dX10_append_46 (by decide) ?_
      refine lv_iload_n hx hb dX10_append_3 rfl (lv_at hl 0 rfl) ?_
      refine lv_if_lt (tgt := 49) hx hb dX10_append_4 (by decide) (fun c => absurd c (by decide)) (fun _ => ?_)
      refine lv_aload_n hx hb dX10_append_7 rfl (lv_at hl 1 rfl) ?_
      refine va_get (D := (dC, dI)) (ci := 0) (v := .int ((i14 + 1) + 1)) (C := RX10) (T := TX10) (N := 8) hx hb hts i_X10 hown hK hP 0 rfl rfl 1 (by decide) (hts _ qw157) (fun _ h9 => h9) rfl dX10_append_8 ?_
      refine lv_sipush (v := 1200) hx hb dX10_append_11 (by decide) ?_
      by_cases hc3 : 1200 ≤ ((i14 + 1) + 1)
      · refine lv_icmp_ge (tgt := 49) hx hb dX10_append_14 (by decide) (fun _ => ?_) (fun c => absurd hc3 c)
        have e_sX10_append_n23_0_1 : sX10_append_n23_0_1 i14 = ((i14 + 1) + 1) := by unfold sX10_append_n23_0_1; rw [if_neg hc1, if_neg hc2, if_pos hc3]
        have e_sX10_append_n23_1 : sX10_append_n23_1 i1 i14 F22 = (upd (upd F22 (Int32.toNatClampNeg i14) ((((i1 : Int32).toUInt32 >>> ((24 : Int32).toUInt32 &&& Int32.toUInt32 31)).toInt32) &&& 255)) (Int32.toNatClampNeg (i14 + 1)) ((((i1 : Int32).toUInt32 >>> ((16 : Int32).toUInt32 &&& Int32.toUInt32 31)).toInt32) &&& 255)) := by unfold sX10_append_n23_1; rw [if_neg hc1, if_neg hc2, if_pos hc3]
        have hP9 : va_P (dC, dI) cls [(a0, .inr (0, [.ref a13, .int (sX10_append_n23_0_1 i14), .int i15, .int i16, .int i17, .long j18, .int i19, .int i20])), (a13, .inl (k21, 1200, .inl (sX10_append_n23_1 i1 i14 F22)))] H := by rw [e_sX10_append_n23_0_1, e_sX10_append_n23_1]; exact hP.sub [0, 1] rfl
        have hD9 : va_D A [(a0, .inr (0, [.ref a13, .int (sX10_append_n23_0_1 i14), .int i15, .int i16, .int i17, .long j18, .int i19, .int i20])), (a13, .inl (k21, 1200, .inl (sX10_append_n23_1 i1 i14 F22)))] := by rw [e_sX10_append_n23_0_1, e_sX10_append_n23_1]; exact hD.sub [0, 1] (by decide) rfl
        have hK9 : va_K (dC, dI) cls [(k21, .int)] s := hK.sub [0] rfl
        refine W.widen (k := 0) (n := 0) (Nat.le_of_ble_eq_true rfl) (Nat.le_of_ble_eq_true rfl) ?_
        exact W.vret hx hb hr (fun t ht hW => ⟨⟨(), rfl, trivial, ⟨by rw [ht]; exact hP9, va_K.moved hW.alike hK9, hD9⟩⟩, hS.F ht⟩) hS.2.2 dX10_append_49
      · refine lv_icmp_ge (tgt := 49) hx hb dX10_append_14 (by decide) (fun c => absurd c hc3) (fun _ => ?_)
        refine lv_aload_n hx hb dX10_append_17 rfl (lv_at hl 1 rfl) ?_
        refine va_get (D := (dC, dI)) (ci := 0) (v := .ref a13) (C := RX10) (T := TX10) (N := 8) hx hb hts i_X10 hown hK hP 0 rfl rfl 0 (by decide) (hts _ qw3) (fun _ h9 => h9) rfl dX10_append_18 ?_
        refine lv_aload_n hx hb dX10_append_21 rfl (lv_at hl 1 rfl) ?_
        refine va_get (D := (dC, dI)) (ci := 0) (v := .int ((i14 + 1) + 1)) (C := RX10) (T := TX10) (N := 8) hx hb hts i_X10 hown hK hP 0 rfl rfl 1 (by decide) (hts _ qw157) (fun _ h9 => h9) rfl dX10_append_22 ?_
        refine lv_iload_n hx hb dX10_append_25 rfl (lv_at hl 2 rfl) ?_
        refine lv_iload_n hx hb dX10_append_26 rfl (lv_at hl 0 rfl) ?_
        refine lv_iushr (v := (((i1 : Int32).toUInt32 >>> ((8 : Int32).toUInt32 &&& Int32.toUInt32 31)).toInt32)) hx hb dX10_append_27 rfl ?_
        refine lv_sipush (v := 255) hx hb dX10_append_28 (by decide) ?_
        refine lv_iand hx hb dX10_append_31 ?_
        refine va_iast hx hb hK hP hD hS 1 0 rfl rfl (hq3 hc1 hc2 hc3) dX10_append_32 (fun H locs hP hD hS => ?_)
        have hP : va_P (dC, dI) cls [(a0, .inr (0, [.ref a13, .int ((i14 + 1) + 1), .int i15, .int i16, .int i17, .long j18, .int i19, .int i20])), (a13, .inl (k21, 1200, .inl (upd (upd (upd F22 (Int32.toNatClampNeg i14) ((((i1 : Int32).toUInt32 >>> ((24 : Int32).toUInt32 &&& Int32.toUInt32 31)).toInt32) &&& 255)) (Int32.toNatClampNeg (i14 + 1)) ((((i1 : Int32).toUInt32 >>> ((16 : Int32).toUInt32 &&& Int32.toUInt32 31)).toInt32) &&& 255)) (Int32.toNatClampNeg ((i14 + 1) + 1)) ((((i1 : Int32).toUInt32 >>> ((8 : Int32).toUInt32 &&& Int32.toUInt32 31)).toInt32) &&& 255))))] H := hP
        have hD : va_D A [(a0, .inr (0, [.ref a13, .int ((i14 + 1) + 1), .int i15, .int i16, .int i17, .long j18, .int i19, .int i20])), (a13, .inl (k21, 1200, .inl (upd (upd (upd F22 (Int32.toNatClampNeg i14) ((((i1 : Int32).toUInt32 >>> ((24 : Int32).toUInt32 &&& Int32.toUInt32 31)).toInt32) &&& 255)) (Int32.toNatClampNeg (i14 + 1)) ((((i1 : Int32).toUInt32 >>> ((16 : Int32).toUInt32 &&& Int32.toUInt32 31)).toInt32) &&& 255)) (Int32.toNatClampNeg ((i14 + 1) + 1)) ((((i1 : Int32).toUInt32 >>> ((8 : Int32).toUInt32 &&& Int32.toUInt32 31)).toInt32) &&& 255))))] := hD
        refine lv_aload_n hx hb dX10_append_33 rfl (lv_at hl 1 rfl) ?_
        refine lv_dup hx hb dX10_append_34 rfl ?_
        refine va_get (D := (dC, dI)) (ci := 0) (v := .int ((i14 + 1) + 1)) (C := RX10) (T := TX10) (N := 8) hx hb hts i_X10 hown hK hP 0 rfl rfl 1 (by decide) (hts _ qw157) (fun _ h9 => h9) rfl dX10_append_35 ?_
        refine lv_iconst (v := 1) hx hb dX10_append_38 (by decide) ?_
        refine lv_iadd hx hb dX10_append_39 ?_
        refine va_put (D := (dC, dI)) (ci := 0) (v := .int (((i14 + 1) + 1) + 1)) (ty := .int) (C := RX10) (T := TX10) (N := 8) hx hb hts i_X10 tyX10 tyX10_ok nmX10 hown hK hP hD hS 0 rfl rfl 1 (by decide) (hts _ qw157) (fun _ h9 => h9) rfl (by decide +kernel) rfl rfl (Nat.le_of_ble_eq_true rfl) dX10_append_40 (fun H locs hP hD hS => ?_)
        have hP : va_P (dC, dI) cls [(a0, .inr (0, [.ref a13, .int (((i14 + 1) + 1) + 1), .int i15, .int i16, .int i17, .long j18, .int i19, .int i20])), (a13, .inl (k21, 1200, .inl (upd (upd (upd F22 (Int32.toNatClampNeg i14) ((((i1 : Int32).toUInt32 >>> ((24 : Int32).toUInt32 &&& Int32.toUInt32 31)).toInt32) &&& 255)) (Int32.toNatClampNeg (i14 + 1)) ((((i1 : Int32).toUInt32 >>> ((16 : Int32).toUInt32 &&& Int32.toUInt32 31)).toInt32) &&& 255)) (Int32.toNatClampNeg ((i14 + 1) + 1)) ((((i1 : Int32).toUInt32 >>> ((8 : Int32).toUInt32 &&& Int32.toUInt32 31)).toInt32) &&& 255))))] H := hP
        have hD : va_D A [(a0, .inr (0, [.ref a13, .int (((i14 + 1) + 1) + 1), .int i15, .int i16, .int i17, .long j18, .int i19, .int i20])), (a13, .inl (k21, 1200, .inl (upd (upd (upd F22 (Int32.toNatClampNeg i14) ((((i1 : Int32).toUInt32 >>> ((24 : Int32).toUInt32 &&& Int32.toUInt32 31)).toInt32) &&& 255)) (Int32.toNatClampNeg (i14 + 1)) ((((i1 : Int32).toUInt32 >>> ((16 : Int32).toUInt32 &&& Int32.toUInt32 31)).toInt32) &&& 255)) (Int32.toNatClampNeg ((i14 + 1) + 1)) ((((i1 : Int32).toUInt32 >>> ((8 : Int32).toUInt32 &&& Int32.toUInt32 31)).toInt32) &&& 255))))] := hD
        refine lv_iinc (v := 0) (lv' := [(2, .int 0), (0, .ref a0), (1, .int i1)]) hx hb dX10_append_43 hl (k := 0) rfl (by decide) (by decide) rfl (fun ls hl => ?_)
        refine lv_goto (tgt := 3) hx hb dX10_append_46 (by decide) ?_
        refine lv_iload_n hx hb dX10_append_3 rfl (lv_at hl 0 rfl) ?_
        refine lv_if_lt (tgt := 49) hx hb dX10_append_4 (by decide) (fun c => absurd c (by decide)) (fun _ => ?_)
        refine lv_aload_n hx hb dX10_append_7 rfl (lv_at hl 1 rfl) ?_
        refine va_get (D := (dC, dI)) (ci := 0) (v := .int (((i14 + 1) + 1) + 1)) (C := RX10) (T := TX10) (N := 8) hx hb hts i_X10 hown hK hP 0 rfl rfl 1 (by decide) (hts _ qw157) (fun _ h9 => h9) rfl dX10_append_8 ?_
        refine lv_sipush (v := 1200) hx hb dX10_append_11 (by decide) ?_
        by_cases hc4 : 1200 ≤ (((i14 + 1) + 1) + 1)
        · refine lv_icmp_ge (tgt := 49) hx hb dX10_append_14 (by decide) (fun _ => ?_) (fun c => absurd hc4 c)
          have e_sX10_append_n23_0_1 : sX10_append_n23_0_1 i14 = (((i14 + 1) + 1) + 1) := by unfold sX10_append_n23_0_1; rw [if_neg hc1, if_neg hc2, if_neg hc3, if_pos hc4]
          have e_sX10_append_n23_1 : sX10_append_n23_1 i1 i14 F22 = (upd (upd (upd F22 (Int32.toNatClampNeg i14) ((((i1 : Int32).toUInt32 >>> ((24 : Int32).toUInt32 &&& Int32.toUInt32 31)).toInt32) &&& 255)) (Int32.toNatClampNeg (i14 + 1)) ((((i1 : Int32).toUInt32 >>> ((16 : Int32).toUInt32 &&& Int32.toUInt32 31)).toInt32) &&& 255)) (Int32.toNatClampNeg ((i14 + 1) + 1)) ((((i1 : Int32).toUInt32 >>> ((8 : Int32).toUInt32 &&& Int32.toUInt32 31)).toInt32) &&& 255)) := by unfold sX10_append_n23_1; rw [if_neg hc1, if_neg hc2, if_neg hc3, if_pos hc4]
          have hP9 : va_P (dC, dI) cls [(a0, .inr (0, [.ref a13, .int (sX10_append_n23_0_1 i14), .int i15, .int i16, .int i17, .long j18, .int i19, .int i20])), (a13, .inl (k21, 1200, .inl (sX10_append_n23_1 i1 i14 F22)))] H := by rw [e_sX10_append_n23_0_1, e_sX10_append_n23_1]; exact hP.sub [0, 1] rfl
          have hD9 : va_D A [(a0, .inr (0, [.ref a13, .int (sX10_append_n23_0_1 i14), .int i15, .int i16, .int i17, .long j18, .int i19, .int i20])), (a13, .inl (k21, 1200, .inl (sX10_append_n23_1 i1 i14 F22)))] := by rw [e_sX10_append_n23_0_1, e_sX10_append_n23_1]; exact hD.sub [0, 1] (by decide) rfl
          have hK9 : va_K (dC, dI) cls [(k21, .int)] s := hK.sub [0] rfl
          refine W.widen (k := 0) (n := 0) (Nat.le_of_ble_eq_true rfl) (Nat.le_of_ble_eq_true rfl) ?_
          exact W.vret hx hb hr (fun t ht hW => ⟨⟨(), rfl, trivial, ⟨by rw [ht]; exact hP9, va_K.moved hW.alike hK9, hD9⟩⟩, hS.F ht⟩) hS.2.2 dX10_append_49
        · refine lv_icmp_ge (tgt := 49) hx hb dX10_append_14 (by decide) (fun c => absurd c hc4) (fun _ => ?_)
          refine lv_aload_n hx hb dX10_append_17 rfl (lv_at hl 1 rfl) ?_
          refine va_get (D := (dC, dI)) (ci := 0) (v := .ref a13) (C := RX10) (T := TX10) (N := 8) hx hb hts i_X10 hown hK hP 0 rfl rfl 0 (by decide) (hts _ qw3) (fun _ h9 => h9) rfl dX10_append_18 ?_
          refine lv_aload_n hx hb dX10_append_21 rfl (lv_at hl 1 rfl) ?_
          refine va_get (D := (dC, dI)) (ci := 0) (v := .int (((i14 + 1) + 1) + 1)) (C := RX10) (T := TX10) (N := 8) hx hb hts i_X10 hown hK hP 0 rfl rfl 1 (by decide) (hts _ qw157) (fun _ h9 => h9) rfl dX10_append_22 ?_
          refine lv_iload_n hx hb dX10_append_25 rfl (lv_at hl 2 rfl) ?_
          refine lv_iload_n hx hb dX10_append_26 rfl (lv_at hl 0 rfl) ?_
          refine lv_iushr (v := (((i1 : Int32).toUInt32 >>> ((0 : Int32).toUInt32 &&& Int32.toUInt32 31)).toInt32)) hx hb dX10_append_27 rfl ?_
          refine lv_sipush (v := 255) hx hb dX10_append_28 (by decide) ?_
          refine lv_iand hx hb dX10_append_31 ?_
          refine va_iast hx hb hK hP hD hS 1 0 rfl rfl (hq4 hc1 hc2 hc3 hc4) dX10_append_32 (fun H locs hP hD hS => ?_)
          have hP : va_P (dC, dI) cls [(a0, .inr (0, [.ref a13, .int (((i14 + 1) + 1) + 1), .int i15, .int i16, .int i17, .long j18, .int i19, .int i20])), (a13, .inl (k21, 1200, .inl (upd (upd (upd (upd F22 (Int32.toNatClampNeg i14) ((((i1 : Int32).toUInt32 >>> ((24 : Int32).toUInt32 &&& Int32.toUInt32 31)).toInt32) &&& 255)) (Int32.toNatClampNeg (i14 + 1)) ((((i1 : Int32).toUInt32 >>> ((16 : Int32).toUInt32 &&& Int32.toUInt32 31)).toInt32) &&& 255)) (Int32.toNatClampNeg ((i14 + 1) + 1)) ((((i1 : Int32).toUInt32 >>> ((8 : Int32).toUInt32 &&& Int32.toUInt32 31)).toInt32) &&& 255)) (Int32.toNatClampNeg (((i14 + 1) + 1) + 1)) ((((i1 : Int32).toUInt32 >>> ((0 : Int32).toUInt32 &&& Int32.toUInt32 31)).toInt32) &&& 255))))] H := hP
          have hD : va_D A [(a0, .inr (0, [.ref a13, .int (((i14 + 1) + 1) + 1), .int i15, .int i16, .int i17, .long j18, .int i19, .int i20])), (a13, .inl (k21, 1200, .inl (upd (upd (upd (upd F22 (Int32.toNatClampNeg i14) ((((i1 : Int32).toUInt32 >>> ((24 : Int32).toUInt32 &&& Int32.toUInt32 31)).toInt32) &&& 255)) (Int32.toNatClampNeg (i14 + 1)) ((((i1 : Int32).toUInt32 >>> ((16 : Int32).toUInt32 &&& Int32.toUInt32 31)).toInt32) &&& 255)) (Int32.toNatClampNeg ((i14 + 1) + 1)) ((((i1 : Int32).toUInt32 >>> ((8 : Int32).toUInt32 &&& Int32.toUInt32 31)).toInt32) &&& 255)) (Int32.toNatClampNeg (((i14 + 1) + 1) + 1)) ((((i1 : Int32).toUInt32 >>> ((0 : Int32).toUInt32 &&& Int32.toUInt32 31)).toInt32) &&& 255))))] := hD
          refine lv_aload_n hx hb dX10_append_33 rfl (lv_at hl 1 rfl) ?_
          refine lv_dup hx hb dX10_append_34 rfl ?_
          refine va_get (D := (dC, dI)) (ci := 0) (v := .int (((i14 + 1) + 1) + 1)) (C := RX10) (T := TX10) (N := 8) hx hb hts i_X10 hown hK hP 0 rfl rfl 1 (by decide) (hts _ qw157) (fun _ h9 => h9) rfl dX10_append_35 ?_
          refine lv_iconst (v := 1) hx hb dX10_append_38 (by decide) ?_
          refine lv_iadd hx hb dX10_append_39 ?_
          refine va_put (D := (dC, dI)) (ci := 0) (v := .int ((((i14 + 1) + 1) + 1) + 1)) (ty := .int) (C := RX10) (T := TX10) (N := 8) hx hb hts i_X10 tyX10 tyX10_ok nmX10 hown hK hP hD hS 0 rfl rfl 1 (by decide) (hts _ qw157) (fun _ h9 => h9) rfl (by decide +kernel) rfl rfl (Nat.le_of_ble_eq_true rfl) dX10_append_40 (fun H locs hP hD hS => ?_)
          have hP : va_P (dC, dI) cls [(a0, .inr (0, [.ref a13, .int ((((i14 + 1) + 1) + 1) + 1), .int i15, .int i16, .int i17, .long j18, .int i19, .int i20])), (a13, .inl (k21, 1200, .inl (upd (upd (upd (upd F22 (Int32.toNatClampNeg i14) ((((i1 : Int32).toUInt32 >>> ((24 : Int32).toUInt32 &&& Int32.toUInt32 31)).toInt32) &&& 255)) (Int32.toNatClampNeg (i14 + 1)) ((((i1 : Int32).toUInt32 >>> ((16 : Int32).toUInt32 &&& Int32.toUInt32 31)).toInt32) &&& 255)) (Int32.toNatClampNeg ((i14 + 1) + 1)) ((((i1 : Int32).toUInt32 >>> ((8 : Int32).toUInt32 &&& Int32.toUInt32 31)).toInt32) &&& 255)) (Int32.toNatClampNeg (((i14 + 1) + 1) + 1)) ((((i1 : Int32).toUInt32 >>> ((0 : Int32).toUInt32 &&& Int32.toUInt32 31)).toInt32) &&& 255))))] H := hP
          have hD : va_D A [(a0, .inr (0, [.ref a13, .int ((((i14 + 1) + 1) + 1) + 1), .int i15, .int i16, .int i17, .long j18, .int i19, .int i20])), (a13, .inl (k21, 1200, .inl (upd (upd (upd (upd F22 (Int32.toNatClampNeg i14) ((((i1 : Int32).toUInt32 >>> ((24 : Int32).toUInt32 &&& Int32.toUInt32 31)).toInt32) &&& 255)) (Int32.toNatClampNeg (i14 + 1)) ((((i1 : Int32).toUInt32 >>> ((16 : Int32).toUInt32 &&& Int32.toUInt32 31)).toInt32) &&& 255)) (Int32.toNatClampNeg ((i14 + 1) + 1)) ((((i1 : Int32).toUInt32 >>> ((8 : Int32).toUInt32 &&& Int32.toUInt32 31)).toInt32) &&& 255)) (Int32.toNatClampNeg (((i14 + 1) + 1) + 1)) ((((i1 : Int32).toUInt32 >>> ((0 : Int32).toUInt32 &&& Int32.toUInt32 31)).toInt32) &&& 255))))] := hD
          refine lv_iinc (v := (-8)) (lv' := [(2, .int (-8)), (0, .ref a0), (1, .int i1)]) hx hb dX10_append_43 hl (k := 0) rfl (by decide) (by decide) rfl (fun ls hl => ?_)
          refine lv_goto (tgt := 3) hx hb dX10_append_46 (by decide) ?_
          refine lv_iload_n hx hb dX10_append_3 rfl (lv_at hl 0 rfl) ?_
          refine lv_if_lt (tgt := 49) hx hb dX10_append_4 (by decide) (fun _ => ?_) (fun c => absurd (by decide) c)
          have e_sX10_append_n23_0_1 : sX10_append_n23_0_1 i14 = ((((i14 + 1) + 1) + 1) + 1) := by unfold sX10_append_n23_0_1; rw [if_neg hc1, if_neg hc2, if_neg hc3, if_neg hc4]
          have e_sX10_append_n23_1 : sX10_append_n23_1 i1 i14 F22 = (upd (upd (upd (upd F22 (Int32.toNatClampNeg i14) ((((i1 : Int32).toUInt32 >>> ((24 : Int32).toUInt32 &&& Int32.toUInt32 31)).toInt32) &&& 255)) (Int32.toNatClampNeg (i14 + 1)) ((((i1 : Int32).toUInt32 >>> ((16 : Int32).toUInt32 &&& Int32.toUInt32 31)).toInt32) &&& 255)) (Int32.toNatClampNeg ((i14 + 1) + 1)) ((((i1 : Int32).toUInt32 >>> ((8 : Int32).toUInt32 &&& Int32.toUInt32 31)).toInt32) &&& 255)) (Int32.toNatClampNeg (((i14 + 1) + 1) + 1)) ((((i1 : Int32).toUInt32 >>> ((0 : Int32).toUInt32 &&& Int32.toUInt32 31)).toInt32) &&& 255)) := by unfold sX10_append_n23_1; rw [if_neg hc1, if_neg hc2, if_neg hc3, if_neg hc4]
          have hP9 : va_P (dC, dI) cls [(a0, .inr (0, [.ref a13, .int (sX10_append_n23_0_1 i14), .int i15, .int i16, .int i17, .long j18, .int i19, .int i20])), (a13, .inl (k21, 1200, .inl (sX10_append_n23_1 i1 i14 F22)))] H := by rw [e_sX10_append_n23_0_1, e_sX10_append_n23_1]; exact hP.sub [0, 1] rfl
          have hD9 : va_D A [(a0, .inr (0, [.ref a13, .int (sX10_append_n23_0_1 i14), .int i15, .int i16, .int i17, .long j18, .int i19, .int i20])), (a13, .inl (k21, 1200, .inl (sX10_append_n23_1 i1 i14 F22)))] := by rw [e_sX10_append_n23_0_1, e_sX10_append_n23_1]; exact hD.sub [0, 1] (by decide) rfl
          have hK9 : va_K (dC, dI) cls [(k21, .int)] s := hK.sub [0] rfl
          refine W.widen (k := 0) (n := 0) (Nat.le_of_ble_eq_true rfl) (Nat.le_of_ble_eq_true rfl) ?_
          exact W.vret hx hb hr (fun t ht hW => ⟨⟨(), rfl, trivial, ⟨by rw [ht]; exact hP9, va_K.moved hW.alike hK9, hD9⟩⟩, hS.F ht⟩) hS.2.2 dX10_append_49
set_option maxHeartbeats 4000000 in
set_option maxRecDepth 100000 in
theorem kX11_feed {zs : Nat × Nat} (l : Launch) (dC : Nat → ClassId) (dI : Nat → Nat → Nat) (h0 : Nat) (w_flowsR : Nat) (w_endsR : Nat) (w_errorPlace : Int32) (w_tokensO : Nat) (w_tokens_tapeA : Nat) (w_tokens_tapeC : ClassId) (w_tokens_tapeF : Nat → Int32) (w_tokens_length : Int32) (w_tokens_kind : Int32) (w_tokens_place : Int32) (w_tokens_figure : Int32) (w_tokens_name : Int64) (w_tokens_after : Int32) (w_tokens_count : Int32) (w_readerO : Nat) (w_makerO : Nat) (w_passesO : Nat) (w_allocatorO : Nat) (w_machineO : Nat) (w_programO : Nat) (w_spareO : Nat) (p0 : Int32) (p1 : Int32) (p2 : Int32) (p3 : Int32) (p4 : Int32) (sz : Nat) (hq1 : (w_tokens_length + 20) ≤ 1200 → (¬ (1200 ≤ w_tokens_length) → vp_in w_tokens_length 1200)) (hq2 : (w_tokens_length + 20) ≤ 1200 → (¬ (1200 ≤ w_tokens_length) → ¬ (1200 ≤ (w_tokens_length + 1)) → vp_in (w_tokens_length + 1) 1200)) (hq3 : (w_tokens_length + 20) ≤ 1200 → (¬ (1200 ≤ w_tokens_length) → ¬ (1200 ≤ (w_tokens_length + 1)) → ¬ (1200 ≤ ((w_tokens_length + 1) + 1)) → vp_in ((w_tokens_length + 1) + 1) 1200)) (hq4 : (w_tokens_length + 20) ≤ 1200 → (¬ (1200 ≤ w_tokens_length) → ¬ (1200 ≤ (w_tokens_length + 1)) → ¬ (1200 ≤ ((w_tokens_length + 1) + 1)) → ¬ (1200 ≤ (((w_tokens_length + 1) + 1) + 1)) → vp_in (((w_tokens_length + 1) + 1) + 1) 1200)) (hq5 : (w_tokens_length + 20) ≤ 1200 → (¬ (1200 ≤ (sX10_append_n23_0_1 w_tokens_length)) → vp_in (sX10_append_n23_0_1 w_tokens_length) 1200)) (hq6 : (w_tokens_length + 20) ≤ 1200 → (¬ (1200 ≤ (sX10_append_n23_0_1 w_tokens_length)) → ¬ (1200 ≤ ((sX10_append_n23_0_1 w_tokens_length) + 1)) → vp_in ((sX10_append_n23_0_1 w_tokens_length) + 1) 1200)) (hq7 : (w_tokens_length + 20) ≤ 1200 → (¬ (1200 ≤ (sX10_append_n23_0_1 w_tokens_length)) → ¬ (1200 ≤ ((sX10_append_n23_0_1 w_tokens_length) + 1)) → ¬ (1200 ≤ (((sX10_append_n23_0_1 w_tokens_length) + 1) + 1)) → vp_in (((sX10_append_n23_0_1 w_tokens_length) + 1) + 1) 1200)) (hq8 : (w_tokens_length + 20) ≤ 1200 → (¬ (1200 ≤ (sX10_append_n23_0_1 w_tokens_length)) → ¬ (1200 ≤ ((sX10_append_n23_0_1 w_tokens_length) + 1)) → ¬ (1200 ≤ (((sX10_append_n23_0_1 w_tokens_length) + 1) + 1)) → ¬ (1200 ≤ ((((sX10_append_n23_0_1 w_tokens_length) + 1) + 1) + 1)) → vp_in ((((sX10_append_n23_0_1 w_tokens_length) + 1) + 1) + 1) 1200)) (hq9 : (w_tokens_length + 20) ≤ 1200 → (¬ (1200 ≤ (sX10_append_n23_0_1 (sX10_append_n23_0_1 w_tokens_length))) → vp_in (sX10_append_n23_0_1 (sX10_append_n23_0_1 w_tokens_length)) 1200)) (hq10 : (w_tokens_length + 20) ≤ 1200 → (¬ (1200 ≤ (sX10_append_n23_0_1 (sX10_append_n23_0_1 w_tokens_length))) → ¬ (1200 ≤ ((sX10_append_n23_0_1 (sX10_append_n23_0_1 w_tokens_length)) + 1)) → vp_in ((sX10_append_n23_0_1 (sX10_append_n23_0_1 w_tokens_length)) + 1) 1200)) (hq11 : (w_tokens_length + 20) ≤ 1200 → (¬ (1200 ≤ (sX10_append_n23_0_1 (sX10_append_n23_0_1 w_tokens_length))) → ¬ (1200 ≤ ((sX10_append_n23_0_1 (sX10_append_n23_0_1 w_tokens_length)) + 1)) → ¬ (1200 ≤ (((sX10_append_n23_0_1 (sX10_append_n23_0_1 w_tokens_length)) + 1) + 1)) → vp_in (((sX10_append_n23_0_1 (sX10_append_n23_0_1 w_tokens_length)) + 1) + 1) 1200)) (hq12 : (w_tokens_length + 20) ≤ 1200 → (¬ (1200 ≤ (sX10_append_n23_0_1 (sX10_append_n23_0_1 w_tokens_length))) → ¬ (1200 ≤ ((sX10_append_n23_0_1 (sX10_append_n23_0_1 w_tokens_length)) + 1)) → ¬ (1200 ≤ (((sX10_append_n23_0_1 (sX10_append_n23_0_1 w_tokens_length)) + 1) + 1)) → ¬ (1200 ≤ ((((sX10_append_n23_0_1 (sX10_append_n23_0_1 w_tokens_length)) + 1) + 1) + 1)) → vp_in ((((sX10_append_n23_0_1 (sX10_append_n23_0_1 w_tokens_length)) + 1) + 1) + 1) 1200)) (hq13 : (w_tokens_length + 20) ≤ 1200 → (¬ (1200 ≤ (sX10_append_n23_0_1 (sX10_append_n23_0_1 (sX10_append_n23_0_1 w_tokens_length)))) → vp_in (sX10_append_n23_0_1 (sX10_append_n23_0_1 (sX10_append_n23_0_1 w_tokens_length))) 1200)) (hq14 : (w_tokens_length + 20) ≤ 1200 → (¬ (1200 ≤ (sX10_append_n23_0_1 (sX10_append_n23_0_1 (sX10_append_n23_0_1 w_tokens_length)))) → ¬ (1200 ≤ ((sX10_append_n23_0_1 (sX10_append_n23_0_1 (sX10_append_n23_0_1 w_tokens_length))) + 1)) → vp_in ((sX10_append_n23_0_1 (sX10_append_n23_0_1 (sX10_append_n23_0_1 w_tokens_length))) + 1) 1200)) (hq15 : (w_tokens_length + 20) ≤ 1200 → (¬ (1200 ≤ (sX10_append_n23_0_1 (sX10_append_n23_0_1 (sX10_append_n23_0_1 w_tokens_length)))) → ¬ (1200 ≤ ((sX10_append_n23_0_1 (sX10_append_n23_0_1 (sX10_append_n23_0_1 w_tokens_length))) + 1)) → ¬ (1200 ≤ (((sX10_append_n23_0_1 (sX10_append_n23_0_1 (sX10_append_n23_0_1 w_tokens_length))) + 1) + 1)) → vp_in (((sX10_append_n23_0_1 (sX10_append_n23_0_1 (sX10_append_n23_0_1 w_tokens_length))) + 1) + 1) 1200)) (hq16 : (w_tokens_length + 20) ≤ 1200 → (¬ (1200 ≤ (sX10_append_n23_0_1 (sX10_append_n23_0_1 (sX10_append_n23_0_1 w_tokens_length)))) → ¬ (1200 ≤ ((sX10_append_n23_0_1 (sX10_append_n23_0_1 (sX10_append_n23_0_1 w_tokens_length))) + 1)) → ¬ (1200 ≤ (((sX10_append_n23_0_1 (sX10_append_n23_0_1 (sX10_append_n23_0_1 w_tokens_length))) + 1) + 1)) → ¬ (1200 ≤ ((((sX10_append_n23_0_1 (sX10_append_n23_0_1 (sX10_append_n23_0_1 w_tokens_length))) + 1) + 1) + 1)) → vp_in ((((sX10_append_n23_0_1 (sX10_append_n23_0_1 (sX10_append_n23_0_1 w_tokens_length))) + 1) + 1) + 1) 1200)) (hq17 : (w_tokens_length + 20) ≤ 1200 → (¬ (1200 ≤ (sX10_append_n23_0_1 (sX10_append_n23_0_1 (sX10_append_n23_0_1 (sX10_append_n23_0_1 w_tokens_length))))) → vp_in (sX10_append_n23_0_1 (sX10_append_n23_0_1 (sX10_append_n23_0_1 (sX10_append_n23_0_1 w_tokens_length)))) 1200)) (hq18 : (w_tokens_length + 20) ≤ 1200 → (¬ (1200 ≤ (sX10_append_n23_0_1 (sX10_append_n23_0_1 (sX10_append_n23_0_1 (sX10_append_n23_0_1 w_tokens_length))))) → ¬ (1200 ≤ ((sX10_append_n23_0_1 (sX10_append_n23_0_1 (sX10_append_n23_0_1 (sX10_append_n23_0_1 w_tokens_length)))) + 1)) → vp_in ((sX10_append_n23_0_1 (sX10_append_n23_0_1 (sX10_append_n23_0_1 (sX10_append_n23_0_1 w_tokens_length)))) + 1) 1200)) (hq19 : (w_tokens_length + 20) ≤ 1200 → (¬ (1200 ≤ (sX10_append_n23_0_1 (sX10_append_n23_0_1 (sX10_append_n23_0_1 (sX10_append_n23_0_1 w_tokens_length))))) → ¬ (1200 ≤ ((sX10_append_n23_0_1 (sX10_append_n23_0_1 (sX10_append_n23_0_1 (sX10_append_n23_0_1 w_tokens_length)))) + 1)) → ¬ (1200 ≤ (((sX10_append_n23_0_1 (sX10_append_n23_0_1 (sX10_append_n23_0_1 (sX10_append_n23_0_1 w_tokens_length)))) + 1) + 1)) → vp_in (((sX10_append_n23_0_1 (sX10_append_n23_0_1 (sX10_append_n23_0_1 (sX10_append_n23_0_1 w_tokens_length)))) + 1) + 1) 1200)) (hq20 : (w_tokens_length + 20) ≤ 1200 → (¬ (1200 ≤ (sX10_append_n23_0_1 (sX10_append_n23_0_1 (sX10_append_n23_0_1 (sX10_append_n23_0_1 w_tokens_length))))) → ¬ (1200 ≤ ((sX10_append_n23_0_1 (sX10_append_n23_0_1 (sX10_append_n23_0_1 (sX10_append_n23_0_1 w_tokens_length)))) + 1)) → ¬ (1200 ≤ (((sX10_append_n23_0_1 (sX10_append_n23_0_1 (sX10_append_n23_0_1 (sX10_append_n23_0_1 w_tokens_length)))) + 1) + 1)) → ¬ (1200 ≤ ((((sX10_append_n23_0_1 (sX10_append_n23_0_1 (sX10_append_n23_0_1 (sX10_append_n23_0_1 w_tokens_length)))) + 1) + 1) + 1)) → vp_in ((((sX10_append_n23_0_1 (sX10_append_n23_0_1 (sX10_append_n23_0_1 (sX10_append_n23_0_1 w_tokens_length)))) + 1) + 1) + 1) 1200)) (hq21 : ¬ ((w_tokens_length + 20) ≤ 1200) → False) : Met l yX11_feed (wz yX11_feed cX11_feed 6 (Option.some Jvm.ClassFile.FieldType.int)) ({ frames := 1, cells := 0, slots := 0, locals := 22 }) (va_Pc [.ref h0, .int p0, .int p1, .int p2, .int p3, .int p4] (PRE zs dC dI [(h0, .inr (11, [.ref w_tokensO, .ref w_readerO, .ref w_flowsR, .ref w_makerO, .ref w_passesO, .ref w_allocatorO, .ref w_machineO, .ref w_endsR, .ref w_programO, .ref w_spareO, .int w_errorPlace])), (w_tokensO, .inr (0, [.ref w_tokens_tapeA, .int w_tokens_length, .int w_tokens_kind, .int w_tokens_place, .int w_tokens_figure, .long w_tokens_name, .int w_tokens_after, .int w_tokens_count])), (w_tokens_tapeA, .inl (w_tokens_tapeC, 1200, .inl w_tokens_tapeF))] [(w_tokens_tapeC, .int)] sz)) (va_Qi (fun (r : Int32) (_ : Unit) => r = (sX10_append_n23_0_1 (sX10_append_n23_0_1 (sX10_append_n23_0_1 (sX10_append_n23_0_1 (sX10_append_n23_0_1 w_tokens_length)))))) (fun _ t => POST dC dI [(h0, .inr (11, [.ref w_tokensO, .ref w_readerO, .ref w_flowsR, .ref w_makerO, .ref w_passesO, .ref w_allocatorO, .ref w_machineO, .ref w_endsR, .ref w_programO, .ref w_spareO, .int w_errorPlace])), (w_tokensO, .inr (0, [.ref w_tokens_tapeA, .int (sX10_append_n23_0_1 (sX10_append_n23_0_1 (sX10_append_n23_0_1 (sX10_append_n23_0_1 (sX10_append_n23_0_1 w_tokens_length))))), .int w_tokens_kind, .int w_tokens_place, .int w_tokens_figure, .long w_tokens_name, .int w_tokens_after, .int w_tokens_count])), (w_tokens_tapeA, .inl (w_tokens_tapeC, 1200, .inl (sX10_append_n23_1 p4 (sX10_append_n23_0_1 (sX10_append_n23_0_1 (sX10_append_n23_0_1 (sX10_append_n23_0_1 w_tokens_length)))) (sX10_append_n23_1 p3 (sX10_append_n23_0_1 (sX10_append_n23_0_1 (sX10_append_n23_0_1 w_tokens_length))) (sX10_append_n23_1 p2 (sX10_append_n23_0_1 (sX10_append_n23_0_1 w_tokens_length)) (sX10_append_n23_1 p1 (sX10_append_n23_0_1 w_tokens_length) (sX10_append_n23_1 p0 w_tokens_length w_tokens_tapeF)))))))] [(w_tokens_tapeC, .int)] (va_A [(h0, .inr (11, [.ref w_tokensO, .ref w_readerO, .ref w_flowsR, .ref w_makerO, .ref w_passesO, .ref w_allocatorO, .ref w_machineO, .ref w_endsR, .ref w_programO, .ref w_spareO, .int w_errorPlace])), (w_tokensO, .inr (0, [.ref w_tokens_tapeA, .int w_tokens_length, .int w_tokens_kind, .int w_tokens_place, .int w_tokens_figure, .long w_tokens_name, .int w_tokens_after, .int w_tokens_count])), (w_tokens_tapeA, .inl (w_tokens_tapeC, 1200, .inl w_tokens_tapeF))] sz) t) (va_A [(h0, .inr (11, [.ref w_tokensO, .ref w_readerO, .ref w_flowsR, .ref w_makerO, .ref w_passesO, .ref w_allocatorO, .ref w_machineO, .ref w_endsR, .ref w_programO, .ref w_spareO, .int w_errorPlace])), (w_tokensO, .inr (0, [.ref w_tokens_tapeA, .int w_tokens_length, .int w_tokens_kind, .int w_tokens_place, .int w_tokens_figure, .long w_tokens_name, .int w_tokens_after, .int w_tokens_count])), (w_tokens_tapeA, .inl (w_tokens_tapeC, 1200, .inl w_tokens_tapeF))] sz)) 0 0 (va_A [(h0, .inr (11, [.ref w_tokensO, .ref w_readerO, .ref w_flowsR, .ref w_makerO, .ref w_passesO, .ref w_allocatorO, .ref w_machineO, .ref w_endsR, .ref w_programO, .ref w_spareO, .int w_errorPlace])), (w_tokensO, .inr (0, [.ref w_tokens_tapeA, .int w_tokens_length, .int w_tokens_kind, .int w_tokens_place, .int w_tokens_figure, .long w_tokens_name, .int w_tokens_after, .int w_tokens_count])), (w_tokens_tapeA, .inl (w_tokens_tapeC, 1200, .inl w_tokens_tapeF))] sz) := by
  refine Met.ofW (cc := cX11_feed) (maxL := 6) (ret := (Option.some Jvm.ClassFile.FieldType.int)) (by decide) rfl ?_
  intro p e s m args below meth c s₁ B hml hv
  obtain ⟨rfl, hsz, hP, hK, hD0, hE⟩ := hv
  have hx := B.exec
  have hb := B.bytes
  have hr := B.returns
  have hts0 := atoms_spec (ws := wz yX11_feed cX11_feed 6 (Option.some Jvm.ClassFile.FieldType.int)) B.pre
  have hts : ∀ w ∈ gw, w.before _ s = true := fun w h => hts0 w (List.mem_cons_of_mem _ h)
  have hown : s.vm.findClass RX11 = some m.cls := findClass_of_methodNamed B.named
  have hlocks := B.notSynchronized
  subst hsz
  have hD := hD0.self (sz := s.heap.size)
  generalize hAe : va_A [(h0, .inr (11, [.ref w_tokensO, .ref w_readerO, .ref w_flowsR, .ref w_makerO, .ref w_passesO, .ref w_allocatorO, .ref w_machineO, .ref w_endsR, .ref w_programO, .ref w_spareO, .int w_errorPlace])), (w_tokensO, .inr (0, [.ref w_tokens_tapeA, .int w_tokens_length, .int w_tokens_kind, .int w_tokens_place, .int w_tokens_figure, .long w_tokens_name, .int w_tokens_after, .int w_tokens_count])), (w_tokens_tapeA, .inl (w_tokens_tapeC, 1200, .inl w_tokens_tapeF))] s.heap.size = A at hD hE ⊢
  have hA : ∀ q : Nat, s.heap.size ≤ q → A q := fun q h => by rw [← hAe]; exact Or.inr h
  have hS : va_S A s.heap s.heap [] := va_S.rf
  have hP : va_P (dC, dI) cls [(h0, .inr (11, [.ref w_tokensO, .ref w_readerO, .ref w_flowsR, .ref w_makerO, .ref w_passesO, .ref w_allocatorO, .ref w_machineO, .ref w_endsR, .ref w_programO, .ref w_spareO, .int w_errorPlace])), (w_tokensO, .inr (0, [.ref w_tokens_tapeA, .int w_tokens_length, .int w_tokens_kind, .int w_tokens_place, .int w_tokens_figure, .long w_tokens_name, .int w_tokens_after, .int w_tokens_count])), (w_tokens_tapeA, .inl (w_tokens_tapeC, 1200, .inl w_tokens_tapeF))] s.heap := hP
  have hl := lv_entry ([.ref h0, .int p0, .int p1, .int p2, .int p3, .int p4]) (n := 6) (Nat.le_of_ble_eq_true rfl)
  rw [lg_entry_eq]
  generalize (lg_sl ([.ref h0, .int p0, .int p1, .int p2, .int p3, .int p4]) ++ List.replicate (6 - (lg_sl ([.ref h0, .int p0, .int p1, .int p2, .int p3, .int p4])).length) Slot.unset).toArray = ls at hl ⊢
  have hl : lv_has ls 6 [(0, .ref h0), (1, .int p0), (2, .int p1), (3, .int p2), (4, .int p3), (5, .int p4)] := hl
  refine lv_aload_n hx hb dX11_feed_0 rfl (lv_at hl 0 rfl) ?_
  refine va_get (D := (dC, dI)) (ci := 11) (v := .ref w_tokensO) (C := RX11) (T := TX11) (N := 11) hx hb hts i_X11 hown hK hP 0 rfl rfl 0 (by decide) (hts _ qw155) (fun _ h9 => h9) rfl dX11_feed_1 ?_
  refine va_get (D := (dC, dI)) (ci := 0) (v := .int w_tokens_length) (C := RX10) (T := TX10) (N := 8) hx hb hts i_X10 hown hK hP 1 rfl rfl 1 (by decide) (hts _ qw156) (fun _ h9 => h9) rfl dX11_feed_4 ?_
  refine lv_bipush (v := 20) hx hb dX11_feed_7 (by decide) ?_
  refine lv_iadd hx hb dX11_feed_9 ?_
  refine lv_sipush (v := 1200) hx hb dX11_feed_10 (by decide) ?_
  by_cases hc1 : (w_tokens_length + 20) ≤ 1200
  · refine lv_icmp_le (tgt := 26) hx hb dX11_feed_13 (by decide) (fun _ => ?_) (fun c => absurd hc1 c)
    refine lv_aload_n hx hb dX11_feed_26 rfl (lv_at hl 0 rfl) ?_
    refine va_get (D := (dC, dI)) (ci := 11) (v := .ref w_tokensO) (C := RX11) (T := TX11) (N := 11) hx hb hts i_X11 hown hK hP 0 rfl rfl 0 (by decide) (hts _ qw155) (fun _ h9 => h9) rfl dX11_feed_27 ?_
    refine lv_iload_n hx hb dX11_feed_30 rfl (lv_at hl 1 rfl) ?_
    have hPc := hP.sub (ws' := [(w_tokensO, .inr (0, [.ref w_tokens_tapeA, .int w_tokens_length, .int w_tokens_kind, .int w_tokens_place, .int w_tokens_figure, .long w_tokens_name, .int w_tokens_after, .int w_tokens_count])), (w_tokens_tapeA, .inl (w_tokens_tapeC, 1200, .inl w_tokens_tapeF))]) [1, 2] rfl
    have hDc := hD.sub (ws' := [(w_tokensO, .inr (0, [.ref w_tokens_tapeA, .int w_tokens_length, .int w_tokens_kind, .int w_tokens_place, .int w_tokens_figure, .long w_tokens_name, .int w_tokens_after, .int w_tokens_count])), (w_tokens_tapeA, .inl (w_tokens_tapeC, 1200, .inl w_tokens_tapeF))]) [1, 2] (by decide) rfl
    have hKc := hK.sub (tys' := [(w_tokens_tapeC, .int)]) [0] rfl
    have hFc := va_free (wc := [(w_tokensO, .inr (0, [.ref w_tokens_tapeA, .int w_tokens_length, .int w_tokens_kind, .int w_tokens_place, .int w_tokens_figure, .long w_tokens_name, .int w_tokens_after, .int w_tokens_count])), (w_tokens_tapeA, .inl (w_tokens_tapeC, 1200, .inl w_tokens_tapeF))]) hD hS hA [1, 2] rfl
    refine va_callv (va_runV (As := [.int p0]) (rest := []) ⟨hx, hb, hml, hown, hts⟩ (kX10_append_n23 l dC dI (a0 := w_tokensO) (i1 := p0) (a13 := w_tokens_tapeA) (i14 := w_tokens_length) (i15 := w_tokens_kind) (i16 := w_tokens_place) (i17 := w_tokens_figure) (j18 := w_tokens_name) (i19 := w_tokens_after) (i20 := w_tokens_count) (k21 := w_tokens_tapeC) (F22 := w_tokens_tapeF) (sz := _) (hq1 := (hq1 hc1)) (hq2 := (hq2 hc1)) (hq3 := (hq3 hc1)) (hq4 := (hq4 hc1))) (cwV 1 hts (gi_V qw159 qw160 qw161 qw162 (gi_z qw158)) rfl rfl rfl (by decide +kernel) ⟨Nat.le_of_ble_eq_true rfl, Nat.le_of_ble_eq_true rfl⟩) ⟨PRE.blind, va_recv hKc hPc (ci := 0) (q0 := 0) rfl rfl, PRE.of hE hS hFc hPc hKc hDc⟩ rfl rfl hl.1 rfl (lv_room (Nat.le_of_ble_eq_true rfl)) dX11_feed_31 ⟨Nat.le_of_ble_eq_true rfl, Nat.le_of_ble_eq_true rfl⟩) hS (fun q _ h => hFc q h) hFc (fun u t H locs ht hvm hw hB hz1 hk1 hS => ?_)
    obtain ⟨hP, hD, hK⟩ := JOIN (wr := [(h0, .inr (11, [.ref w_tokensO, .ref w_readerO, .ref w_flowsR, .ref w_makerO, .ref w_passesO, .ref w_allocatorO, .ref w_machineO, .ref w_endsR, .ref w_programO, .ref w_spareO, .int w_errorPlace]))]) hP hD hK [1, 2] [0] [] rfl rfl (by decide) (by decide) rfl hk1 hFc ht hvm hB
    have hP : va_P (dC, dI) cls [(h0, .inr (11, [.ref w_tokensO, .ref w_readerO, .ref w_flowsR, .ref w_makerO, .ref w_passesO, .ref w_allocatorO, .ref w_machineO, .ref w_endsR, .ref w_programO, .ref w_spareO, .int w_errorPlace])), (w_tokensO, .inr (0, [.ref w_tokens_tapeA, .int (sX10_append_n23_0_1 w_tokens_length), .int w_tokens_kind, .int w_tokens_place, .int w_tokens_figure, .long w_tokens_name, .int w_tokens_after, .int w_tokens_count])), (w_tokens_tapeA, .inl (w_tokens_tapeC, 1200, .inl (sX10_append_n23_1 p0 w_tokens_length w_tokens_tapeF)))] H := hP
    have hD : va_D A [(h0, .inr (11, [.ref w_tokensO, .ref w_readerO, .ref w_flowsR, .ref w_makerO, .ref w_passesO, .ref w_allocatorO, .ref w_machineO, .ref w_endsR, .ref w_programO, .ref w_spareO, .int w_errorPlace])), (w_tokensO, .inr (0, [.ref w_tokens_tapeA, .int (sX10_append_n23_0_1 w_tokens_length), .int w_tokens_kind, .int w_tokens_place, .int w_tokens_figure, .long w_tokens_name, .int w_tokens_after, .int w_tokens_count])), (w_tokens_tapeA, .inl (w_tokens_tapeC, 1200, .inl (sX10_append_n23_1 p0 w_tokens_length w_tokens_tapeF)))] := hD
    have hK : va_K (dC, dI) cls [(w_tokens_tapeC, .int)] s := hK
    refine W.widen (k := 0) (n := 0) (Nat.le_of_ble_eq_true rfl) (Nat.le_of_ble_eq_true rfl) ?_
    refine lv_aload_n hx hb dX11_feed_34 rfl (lv_at hl 0 rfl) ?_
    refine va_get (D := (dC, dI)) (ci := 11) (v := .ref w_tokensO) (C := RX11) (T := TX11) (N := 11) hx hb hts i_X11 hown hK hP 0 rfl rfl 0 (by decide) (hts _ qw155) (fun _ h9 => h9) rfl dX11_feed_35 ?_
    refine lv_iload_n hx hb dX11_feed_38 rfl (lv_at hl 2 rfl) ?_
    have hPc := hP.sub (ws' := [(w_tokensO, .inr (0, [.ref w_tokens_tapeA, .int (sX10_append_n23_0_1 w_tokens_length), .int w_tokens_kind, .int w_tokens_place, .int w_tokens_figure, .long w_tokens_name, .int w_tokens_after, .int w_tokens_count])), (w_tokens_tapeA, .inl (w_tokens_tapeC, 1200, .inl (sX10_append_n23_1 p0 w_tokens_length w_tokens_tapeF)))]) [1, 2] rfl
    have hDc := hD.sub (ws' := [(w_tokensO, .inr (0, [.ref w_tokens_tapeA, .int (sX10_append_n23_0_1 w_tokens_length), .int w_tokens_kind, .int w_tokens_place, .int w_tokens_figure, .long w_tokens_name, .int w_tokens_after, .int w_tokens_count])), (w_tokens_tapeA, .inl (w_tokens_tapeC, 1200, .inl (sX10_append_n23_1 p0 w_tokens_length w_tokens_tapeF)))]) [1, 2] (by decide) rfl
    have hKc := hK.sub (tys' := [(w_tokens_tapeC, .int)]) [0] rfl
    have hFc := va_free (wc := [(w_tokensO, .inr (0, [.ref w_tokens_tapeA, .int (sX10_append_n23_0_1 w_tokens_length), .int w_tokens_kind, .int w_tokens_place, .int w_tokens_figure, .long w_tokens_name, .int w_tokens_after, .int w_tokens_count])), (w_tokens_tapeA, .inl (w_tokens_tapeC, 1200, .inl (sX10_append_n23_1 p0 w_tokens_length w_tokens_tapeF)))]) hD hS hA [1, 2] rfl
    refine va_callv (va_runV (As := [.int p1]) (rest := []) ⟨hx, hb, hml, hown, hts⟩ (kX10_append_n23 l dC dI (a0 := w_tokensO) (i1 := p1) (a13 := w_tokens_tapeA) (i14 := (sX10_append_n23_0_1 w_tokens_length)) (i15 := w_tokens_kind) (i16 := w_tokens_place) (i17 := w_tokens_figure) (j18 := w_tokens_name) (i19 := w_tokens_after) (i20 := w_tokens_count) (k21 := w_tokens_tapeC) (F22 := (sX10_append_n23_1 p0 w_tokens_length w_tokens_tapeF)) (sz := _) (hq1 := (hq5 hc1)) (hq2 := (hq6 hc1)) (hq3 := (hq7 hc1)) (hq4 := (hq8 hc1))) (cwV 1 hts (gi_V qw159 qw160 qw161 qw162 (gi_z qw158)) rfl rfl rfl (by decide +kernel) ⟨Nat.le_of_ble_eq_true rfl, Nat.le_of_ble_eq_true rfl⟩) ⟨PRE.blind, va_recv hKc hPc (ci := 0) (q0 := 0) rfl rfl, PRE.of hE hS hFc hPc hKc hDc⟩ rfl rfl hl.1 rfl (lv_room (Nat.le_of_ble_eq_true rfl)) dX11_feed_39 ⟨Nat.le_of_ble_eq_true rfl, Nat.le_of_ble_eq_true rfl⟩) hS (fun q _ h => hFc q h) hFc (fun u t H locs ht hvm hw hB hz1 hk1 hS => ?_)
    obtain ⟨hP, hD, hK⟩ := JOIN (wr := [(h0, .inr (11, [.ref w_tokensO, .ref w_readerO, .ref w_flowsR, .ref w_makerO, .ref w_passesO, .ref w_allocatorO, .ref w_machineO, .ref w_endsR, .ref w_programO, .ref w_spareO, .int w_errorPlace]))]) hP hD hK [1, 2] [0] [] rfl rfl (by decide) (by decide) rfl hk1 hFc ht hvm hB
    have hP : va_P (dC, dI) cls [(h0, .inr (11, [.ref w_tokensO, .ref w_readerO, .ref w_flowsR, .ref w_makerO, .ref w_passesO, .ref w_allocatorO, .ref w_machineO, .ref w_endsR, .ref w_programO, .ref w_spareO, .int w_errorPlace])), (w_tokensO, .inr (0, [.ref w_tokens_tapeA, .int (sX10_append_n23_0_1 (sX10_append_n23_0_1 w_tokens_length)), .int w_tokens_kind, .int w_tokens_place, .int w_tokens_figure, .long w_tokens_name, .int w_tokens_after, .int w_tokens_count])), (w_tokens_tapeA, .inl (w_tokens_tapeC, 1200, .inl (sX10_append_n23_1 p1 (sX10_append_n23_0_1 w_tokens_length) (sX10_append_n23_1 p0 w_tokens_length w_tokens_tapeF))))] H := hP
    have hD : va_D A [(h0, .inr (11, [.ref w_tokensO, .ref w_readerO, .ref w_flowsR, .ref w_makerO, .ref w_passesO, .ref w_allocatorO, .ref w_machineO, .ref w_endsR, .ref w_programO, .ref w_spareO, .int w_errorPlace])), (w_tokensO, .inr (0, [.ref w_tokens_tapeA, .int (sX10_append_n23_0_1 (sX10_append_n23_0_1 w_tokens_length)), .int w_tokens_kind, .int w_tokens_place, .int w_tokens_figure, .long w_tokens_name, .int w_tokens_after, .int w_tokens_count])), (w_tokens_tapeA, .inl (w_tokens_tapeC, 1200, .inl (sX10_append_n23_1 p1 (sX10_append_n23_0_1 w_tokens_length) (sX10_append_n23_1 p0 w_tokens_length w_tokens_tapeF))))] := hD
    have hK : va_K (dC, dI) cls [(w_tokens_tapeC, .int)] s := hK
    refine W.widen (k := 0) (n := 0) (Nat.le_of_ble_eq_true rfl) (Nat.le_of_ble_eq_true rfl) ?_
    refine lv_aload_n hx hb dX11_feed_42 rfl (lv_at hl 0 rfl) ?_
    refine va_get (D := (dC, dI)) (ci := 11) (v := .ref w_tokensO) (C := RX11) (T := TX11) (N := 11) hx hb hts i_X11 hown hK hP 0 rfl rfl 0 (by decide) (hts _ qw155) (fun _ h9 => h9) rfl dX11_feed_43 ?_
    refine lv_iload_n hx hb dX11_feed_46 rfl (lv_at hl 3 rfl) ?_
    have hPc := hP.sub (ws' := [(w_tokensO, .inr (0, [.ref w_tokens_tapeA, .int (sX10_append_n23_0_1 (sX10_append_n23_0_1 w_tokens_length)), .int w_tokens_kind, .int w_tokens_place, .int w_tokens_figure, .long w_tokens_name, .int w_tokens_after, .int w_tokens_count])), (w_tokens_tapeA, .inl (w_tokens_tapeC, 1200, .inl (sX10_append_n23_1 p1 (sX10_append_n23_0_1 w_tokens_length) (sX10_append_n23_1 p0 w_tokens_length w_tokens_tapeF))))]) [1, 2] rfl
    have hDc := hD.sub (ws' := [(w_tokensO, .inr (0, [.ref w_tokens_tapeA, .int (sX10_append_n23_0_1 (sX10_append_n23_0_1 w_tokens_length)), .int w_tokens_kind, .int w_tokens_place, .int w_tokens_figure, .long w_tokens_name, .int w_tokens_after, .int w_tokens_count])), (w_tokens_tapeA, .inl (w_tokens_tapeC, 1200, .inl (sX10_append_n23_1 p1 (sX10_append_n23_0_1 w_tokens_length) (sX10_append_n23_1 p0 w_tokens_length w_tokens_tapeF))))]) [1, 2] (by decide) rfl
    have hKc := hK.sub (tys' := [(w_tokens_tapeC, .int)]) [0] rfl
    have hFc := va_free (wc := [(w_tokensO, .inr (0, [.ref w_tokens_tapeA, .int (sX10_append_n23_0_1 (sX10_append_n23_0_1 w_tokens_length)), .int w_tokens_kind, .int w_tokens_place, .int w_tokens_figure, .long w_tokens_name, .int w_tokens_after, .int w_tokens_count])), (w_tokens_tapeA, .inl (w_tokens_tapeC, 1200, .inl (sX10_append_n23_1 p1 (sX10_append_n23_0_1 w_tokens_length) (sX10_append_n23_1 p0 w_tokens_length w_tokens_tapeF))))]) hD hS hA [1, 2] rfl
    refine va_callv (va_runV (As := [.int p2]) (rest := []) ⟨hx, hb, hml, hown, hts⟩ (kX10_append_n23 l dC dI (a0 := w_tokensO) (i1 := p2) (a13 := w_tokens_tapeA) (i14 := (sX10_append_n23_0_1 (sX10_append_n23_0_1 w_tokens_length))) (i15 := w_tokens_kind) (i16 := w_tokens_place) (i17 := w_tokens_figure) (j18 := w_tokens_name) (i19 := w_tokens_after) (i20 := w_tokens_count) (k21 := w_tokens_tapeC) (F22 := (sX10_append_n23_1 p1 (sX10_append_n23_0_1 w_tokens_length) (sX10_append_n23_1 p0 w_tokens_length w_tokens_tapeF))) (sz := _) (hq1 := (hq9 hc1)) (hq2 := (hq10 hc1)) (hq3 := (hq11 hc1)) (hq4 := (hq12 hc1))) (cwV 1 hts (gi_V qw159 qw160 qw161 qw162 (gi_z qw158)) rfl rfl rfl (by decide +kernel) ⟨Nat.le_of_ble_eq_true rfl, Nat.le_of_ble_eq_true rfl⟩) ⟨PRE.blind, va_recv hKc hPc (ci := 0) (q0 := 0) rfl rfl, PRE.of hE hS hFc hPc hKc hDc⟩ rfl rfl hl.1 rfl (lv_room (Nat.le_of_ble_eq_true rfl)) dX11_feed_47 ⟨Nat.le_of_ble_eq_true rfl, Nat.le_of_ble_eq_true rfl⟩) hS (fun q _ h => hFc q h) hFc (fun u t H locs ht hvm hw hB hz1 hk1 hS => ?_)
    obtain ⟨hP, hD, hK⟩ := JOIN (wr := [(h0, .inr (11, [.ref w_tokensO, .ref w_readerO, .ref w_flowsR, .ref w_makerO, .ref w_passesO, .ref w_allocatorO, .ref w_machineO, .ref w_endsR, .ref w_programO, .ref w_spareO, .int w_errorPlace]))]) hP hD hK [1, 2] [0] [] rfl rfl (by decide) (by decide) rfl hk1 hFc ht hvm hB
    have hP : va_P (dC, dI) cls [(h0, .inr (11, [.ref w_tokensO, .ref w_readerO, .ref w_flowsR, .ref w_makerO, .ref w_passesO, .ref w_allocatorO, .ref w_machineO, .ref w_endsR, .ref w_programO, .ref w_spareO, .int w_errorPlace])), (w_tokensO, .inr (0, [.ref w_tokens_tapeA, .int (sX10_append_n23_0_1 (sX10_append_n23_0_1 (sX10_append_n23_0_1 w_tokens_length))), .int w_tokens_kind, .int w_tokens_place, .int w_tokens_figure, .long w_tokens_name, .int w_tokens_after, .int w_tokens_count])), (w_tokens_tapeA, .inl (w_tokens_tapeC, 1200, .inl (sX10_append_n23_1 p2 (sX10_append_n23_0_1 (sX10_append_n23_0_1 w_tokens_length)) (sX10_append_n23_1 p1 (sX10_append_n23_0_1 w_tokens_length) (sX10_append_n23_1 p0 w_tokens_length w_tokens_tapeF)))))] H := hP
    have hD : va_D A [(h0, .inr (11, [.ref w_tokensO, .ref w_readerO, .ref w_flowsR, .ref w_makerO, .ref w_passesO, .ref w_allocatorO, .ref w_machineO, .ref w_endsR, .ref w_programO, .ref w_spareO, .int w_errorPlace])), (w_tokensO, .inr (0, [.ref w_tokens_tapeA, .int (sX10_append_n23_0_1 (sX10_append_n23_0_1 (sX10_append_n23_0_1 w_tokens_length))), .int w_tokens_kind, .int w_tokens_place, .int w_tokens_figure, .long w_tokens_name, .int w_tokens_after, .int w_tokens_count])), (w_tokens_tapeA, .inl (w_tokens_tapeC, 1200, .inl (sX10_append_n23_1 p2 (sX10_append_n23_0_1 (sX10_append_n23_0_1 w_tokens_length)) (sX10_append_n23_1 p1 (sX10_append_n23_0_1 w_tokens_length) (sX10_append_n23_1 p0 w_tokens_length w_tokens_tapeF)))))] := hD
    have hK : va_K (dC, dI) cls [(w_tokens_tapeC, .int)] s := hK
    refine W.widen (k := 0) (n := 0) (Nat.le_of_ble_eq_true rfl) (Nat.le_of_ble_eq_true rfl) ?_
    refine lv_aload_n hx hb dX11_feed_50 rfl (lv_at hl 0 rfl) ?_
    refine va_get (D := (dC, dI)) (ci := 11) (v := .ref w_tokensO) (C := RX11) (T := TX11) (N := 11) hx hb hts i_X11 hown hK hP 0 rfl rfl 0 (by decide) (hts _ qw155) (fun _ h9 => h9) rfl dX11_feed_51 ?_
    refine lv_iload hx hb dX11_feed_54 (lv_at hl 4 rfl) ?_
    have hPc := hP.sub (ws' := [(w_tokensO, .inr (0, [.ref w_tokens_tapeA, .int (sX10_append_n23_0_1 (sX10_append_n23_0_1 (sX10_append_n23_0_1 w_tokens_length))), .int w_tokens_kind, .int w_tokens_place, .int w_tokens_figure, .long w_tokens_name, .int w_tokens_after, .int w_tokens_count])), (w_tokens_tapeA, .inl (w_tokens_tapeC, 1200, .inl (sX10_append_n23_1 p2 (sX10_append_n23_0_1 (sX10_append_n23_0_1 w_tokens_length)) (sX10_append_n23_1 p1 (sX10_append_n23_0_1 w_tokens_length) (sX10_append_n23_1 p0 w_tokens_length w_tokens_tapeF)))))]) [1, 2] rfl
    have hDc := hD.sub (ws' := [(w_tokensO, .inr (0, [.ref w_tokens_tapeA, .int (sX10_append_n23_0_1 (sX10_append_n23_0_1 (sX10_append_n23_0_1 w_tokens_length))), .int w_tokens_kind, .int w_tokens_place, .int w_tokens_figure, .long w_tokens_name, .int w_tokens_after, .int w_tokens_count])), (w_tokens_tapeA, .inl (w_tokens_tapeC, 1200, .inl (sX10_append_n23_1 p2 (sX10_append_n23_0_1 (sX10_append_n23_0_1 w_tokens_length)) (sX10_append_n23_1 p1 (sX10_append_n23_0_1 w_tokens_length) (sX10_append_n23_1 p0 w_tokens_length w_tokens_tapeF)))))]) [1, 2] (by decide) rfl
    have hKc := hK.sub (tys' := [(w_tokens_tapeC, .int)]) [0] rfl
    have hFc := va_free (wc := [(w_tokensO, .inr (0, [.ref w_tokens_tapeA, .int (sX10_append_n23_0_1 (sX10_append_n23_0_1 (sX10_append_n23_0_1 w_tokens_length))), .int w_tokens_kind, .int w_tokens_place, .int w_tokens_figure, .long w_tokens_name, .int w_tokens_after, .int w_tokens_count])), (w_tokens_tapeA, .inl (w_tokens_tapeC, 1200, .inl (sX10_append_n23_1 p2 (sX10_append_n23_0_1 (sX10_append_n23_0_1 w_tokens_length)) (sX10_append_n23_1 p1 (sX10_append_n23_0_1 w_tokens_length) (sX10_append_n23_1 p0 w_tokens_length w_tokens_tapeF)))))]) hD hS hA [1, 2] rfl
    refine va_callv (va_runV (As := [.int p3]) (rest := []) ⟨hx, hb, hml, hown, hts⟩ (kX10_append_n23 l dC dI (a0 := w_tokensO) (i1 := p3) (a13 := w_tokens_tapeA) (i14 := (sX10_append_n23_0_1 (sX10_append_n23_0_1 (sX10_append_n23_0_1 w_tokens_length)))) (i15 := w_tokens_kind) (i16 := w_tokens_place) (i17 := w_tokens_figure) (j18 := w_tokens_name) (i19 := w_tokens_after) (i20 := w_tokens_count) (k21 := w_tokens_tapeC) (F22 := (sX10_append_n23_1 p2 (sX10_append_n23_0_1 (sX10_append_n23_0_1 w_tokens_length)) (sX10_append_n23_1 p1 (sX10_append_n23_0_1 w_tokens_length) (sX10_append_n23_1 p0 w_tokens_length w_tokens_tapeF)))) (sz := _) (hq1 := (hq13 hc1)) (hq2 := (hq14 hc1)) (hq3 := (hq15 hc1)) (hq4 := (hq16 hc1))) (cwV 1 hts (gi_V qw159 qw160 qw161 qw162 (gi_z qw158)) rfl rfl rfl (by decide +kernel) ⟨Nat.le_of_ble_eq_true rfl, Nat.le_of_ble_eq_true rfl⟩) ⟨PRE.blind, va_recv hKc hPc (ci := 0) (q0 := 0) rfl rfl, PRE.of hE hS hFc hPc hKc hDc⟩ rfl rfl hl.1 rfl (lv_room (Nat.le_of_ble_eq_true rfl)) dX11_feed_56 ⟨Nat.le_of_ble_eq_true rfl, Nat.le_of_ble_eq_true rfl⟩) hS (fun q _ h => hFc q h) hFc (fun u t H locs ht hvm hw hB hz1 hk1 hS => ?_)
    obtain ⟨hP, hD, hK⟩ := JOIN (wr := [(h0, .inr (11, [.ref w_tokensO, .ref w_readerO, .ref w_flowsR, .ref w_makerO, .ref w_passesO, .ref w_allocatorO, .ref w_machineO, .ref w_endsR, .ref w_programO, .ref w_spareO, .int w_errorPlace]))]) hP hD hK [1, 2] [0] [] rfl rfl (by decide) (by decide) rfl hk1 hFc ht hvm hB
    have hP : va_P (dC, dI) cls [(h0, .inr (11, [.ref w_tokensO, .ref w_readerO, .ref w_flowsR, .ref w_makerO, .ref w_passesO, .ref w_allocatorO, .ref w_machineO, .ref w_endsR, .ref w_programO, .ref w_spareO, .int w_errorPlace])), (w_tokensO, .inr (0, [.ref w_tokens_tapeA, .int (sX10_append_n23_0_1 (sX10_append_n23_0_1 (sX10_append_n23_0_1 (sX10_append_n23_0_1 w_tokens_length)))), .int w_tokens_kind, .int w_tokens_place, .int w_tokens_figure, .long w_tokens_name, .int w_tokens_after, .int w_tokens_count])), (w_tokens_tapeA, .inl (w_tokens_tapeC, 1200, .inl (sX10_append_n23_1 p3 (sX10_append_n23_0_1 (sX10_append_n23_0_1 (sX10_append_n23_0_1 w_tokens_length))) (sX10_append_n23_1 p2 (sX10_append_n23_0_1 (sX10_append_n23_0_1 w_tokens_length)) (sX10_append_n23_1 p1 (sX10_append_n23_0_1 w_tokens_length) (sX10_append_n23_1 p0 w_tokens_length w_tokens_tapeF))))))] H := hP
    have hD : va_D A [(h0, .inr (11, [.ref w_tokensO, .ref w_readerO, .ref w_flowsR, .ref w_makerO, .ref w_passesO, .ref w_allocatorO, .ref w_machineO, .ref w_endsR, .ref w_programO, .ref w_spareO, .int w_errorPlace])), (w_tokensO, .inr (0, [.ref w_tokens_tapeA, .int (sX10_append_n23_0_1 (sX10_append_n23_0_1 (sX10_append_n23_0_1 (sX10_append_n23_0_1 w_tokens_length)))), .int w_tokens_kind, .int w_tokens_place, .int w_tokens_figure, .long w_tokens_name, .int w_tokens_after, .int w_tokens_count])), (w_tokens_tapeA, .inl (w_tokens_tapeC, 1200, .inl (sX10_append_n23_1 p3 (sX10_append_n23_0_1 (sX10_append_n23_0_1 (sX10_append_n23_0_1 w_tokens_length))) (sX10_append_n23_1 p2 (sX10_append_n23_0_1 (sX10_append_n23_0_1 w_tokens_length)) (sX10_append_n23_1 p1 (sX10_append_n23_0_1 w_tokens_length) (sX10_append_n23_1 p0 w_tokens_length w_tokens_tapeF))))))] := hD
    have hK : va_K (dC, dI) cls [(w_tokens_tapeC, .int)] s := hK
    refine W.widen (k := 0) (n := 0) (Nat.le_of_ble_eq_true rfl) (Nat.le_of_ble_eq_true rfl) ?_
    refine lv_aload_n hx hb dX11_feed_59 rfl (lv_at hl 0 rfl) ?_
    refine va_get (D := (dC, dI)) (ci := 11) (v := .ref w_tokensO) (C := RX11) (T := TX11) (N := 11) hx hb hts i_X11 hown hK hP 0 rfl rfl 0 (by decide) (hts _ qw155) (fun _ h9 => h9) rfl dX11_feed_60 ?_
    refine lv_iload hx hb dX11_feed_63 (lv_at hl 5 rfl) ?_
    have hPc := hP.sub (ws' := [(w_tokensO, .inr (0, [.ref w_tokens_tapeA, .int (sX10_append_n23_0_1 (sX10_append_n23_0_1 (sX10_append_n23_0_1 (sX10_append_n23_0_1 w_tokens_length)))), .int w_tokens_kind, .int w_tokens_place, .int w_tokens_figure, .long w_tokens_name, .int w_tokens_after, .int w_tokens_count])), (w_tokens_tapeA, .inl (w_tokens_tapeC, 1200, .inl (sX10_append_n23_1 p3 (sX10_append_n23_0_1 (sX10_append_n23_0_1 (sX10_append_n23_0_1 w_tokens_length))) (sX10_append_n23_1 p2 (sX10_append_n23_0_1 (sX10_append_n23_0_1 w_tokens_length)) (sX10_append_n23_1 p1 (sX10_append_n23_0_1 w_tokens_length) (sX10_append_n23_1 p0 w_tokens_length w_tokens_tapeF))))))]) [1, 2] rfl
    have hDc := hD.sub (ws' := [(w_tokensO, .inr (0, [.ref w_tokens_tapeA, .int (sX10_append_n23_0_1 (sX10_append_n23_0_1 (sX10_append_n23_0_1 (sX10_append_n23_0_1 w_tokens_length)))), .int w_tokens_kind, .int w_tokens_place, .int w_tokens_figure, .long w_tokens_name, .int w_tokens_after, .int w_tokens_count])), (w_tokens_tapeA, .inl (w_tokens_tapeC, 1200, .inl (sX10_append_n23_1 p3 (sX10_append_n23_0_1 (sX10_append_n23_0_1 (sX10_append_n23_0_1 w_tokens_length))) (sX10_append_n23_1 p2 (sX10_append_n23_0_1 (sX10_append_n23_0_1 w_tokens_length)) (sX10_append_n23_1 p1 (sX10_append_n23_0_1 w_tokens_length) (sX10_append_n23_1 p0 w_tokens_length w_tokens_tapeF))))))]) [1, 2] (by decide) rfl
    have hKc := hK.sub (tys' := [(w_tokens_tapeC, .int)]) [0] rfl
    have hFc := va_free (wc := [(w_tokensO, .inr (0, [.ref w_tokens_tapeA, .int (sX10_append_n23_0_1 (sX10_append_n23_0_1 (sX10_append_n23_0_1 (sX10_append_n23_0_1 w_tokens_length)))), .int w_tokens_kind, .int w_tokens_place, .int w_tokens_figure, .long w_tokens_name, .int w_tokens_after, .int w_tokens_count])), (w_tokens_tapeA, .inl (w_tokens_tapeC, 1200, .inl (sX10_append_n23_1 p3 (sX10_append_n23_0_1 (sX10_append_n23_0_1 (sX10_append_n23_0_1 w_tokens_length))) (sX10_append_n23_1 p2 (sX10_append_n23_0_1 (sX10_append_n23_0_1 w_tokens_length)) (sX10_append_n23_1 p1 (sX10_append_n23_0_1 w_tokens_length) (sX10_append_n23_1 p0 w_tokens_length w_tokens_tapeF))))))]) hD hS hA [1, 2] rfl
    refine va_callv (va_runV (As := [.int p4]) (rest := []) ⟨hx, hb, hml, hown, hts⟩ (kX10_append_n23 l dC dI (a0 := w_tokensO) (i1 := p4) (a13 := w_tokens_tapeA) (i14 := (sX10_append_n23_0_1 (sX10_append_n23_0_1 (sX10_append_n23_0_1 (sX10_append_n23_0_1 w_tokens_length))))) (i15 := w_tokens_kind) (i16 := w_tokens_place) (i17 := w_tokens_figure) (j18 := w_tokens_name) (i19 := w_tokens_after) (i20 := w_tokens_count) (k21 := w_tokens_tapeC) (F22 := (sX10_append_n23_1 p3 (sX10_append_n23_0_1 (sX10_append_n23_0_1 (sX10_append_n23_0_1 w_tokens_length))) (sX10_append_n23_1 p2 (sX10_append_n23_0_1 (sX10_append_n23_0_1 w_tokens_length)) (sX10_append_n23_1 p1 (sX10_append_n23_0_1 w_tokens_length) (sX10_append_n23_1 p0 w_tokens_length w_tokens_tapeF))))) (sz := _) (hq1 := (hq17 hc1)) (hq2 := (hq18 hc1)) (hq3 := (hq19 hc1)) (hq4 := (hq20 hc1))) (cwV 1 hts (gi_V qw159 qw160 qw161 qw162 (gi_z qw158)) rfl rfl rfl (by decide +kernel) ⟨Nat.le_of_ble_eq_true rfl, Nat.le_of_ble_eq_true rfl⟩) ⟨PRE.blind, va_recv hKc hPc (ci := 0) (q0 := 0) rfl rfl, PRE.of hE hS hFc hPc hKc hDc⟩ rfl rfl hl.1 rfl (lv_room (Nat.le_of_ble_eq_true rfl)) dX11_feed_65 ⟨Nat.le_of_ble_eq_true rfl, Nat.le_of_ble_eq_true rfl⟩) hS (fun q _ h => hFc q h) hFc (fun u t H locs ht hvm hw hB hz1 hk1 hS => ?_)
    obtain ⟨hP, hD, hK⟩ := JOIN (wr := [(h0, .inr (11, [.ref w_tokensO, .ref w_readerO, .ref w_flowsR, .ref w_makerO, .ref w_passesO, .ref w_allocatorO, .ref w_machineO, .ref w_endsR, .ref w_programO, .ref w_spareO, .int w_errorPlace]))]) hP hD hK [1, 2] [0] [] rfl rfl (by decide) (by decide) rfl hk1 hFc ht hvm hB
    have hP : va_P (dC, dI) cls [(h0, .inr (11, [.ref w_tokensO, .ref w_readerO, .ref w_flowsR, .ref w_makerO, .ref w_passesO, .ref w_allocatorO, .ref w_machineO, .ref w_endsR, .ref w_programO, .ref w_spareO, .int w_errorPlace])), (w_tokensO, .inr (0, [.ref w_tokens_tapeA, .int (sX10_append_n23_0_1 (sX10_append_n23_0_1 (sX10_append_n23_0_1 (sX10_append_n23_0_1 (sX10_append_n23_0_1 w_tokens_length))))), .int w_tokens_kind, .int w_tokens_place, .int w_tokens_figure, .long w_tokens_name, .int w_tokens_after, .int w_tokens_count])), (w_tokens_tapeA, .inl (w_tokens_tapeC, 1200, .inl (sX10_append_n23_1 p4 (sX10_append_n23_0_1 (sX10_append_n23_0_1 (sX10_append_n23_0_1 (sX10_append_n23_0_1 w_tokens_length)))) (sX10_append_n23_1 p3 (sX10_append_n23_0_1 (sX10_append_n23_0_1 (sX10_append_n23_0_1 w_tokens_length))) (sX10_append_n23_1 p2 (sX10_append_n23_0_1 (sX10_append_n23_0_1 w_tokens_length)) (sX10_append_n23_1 p1 (sX10_append_n23_0_1 w_tokens_length) (sX10_append_n23_1 p0 w_tokens_length w_tokens_tapeF)))))))] H := hP
    have hD : va_D A [(h0, .inr (11, [.ref w_tokensO, .ref w_readerO, .ref w_flowsR, .ref w_makerO, .ref w_passesO, .ref w_allocatorO, .ref w_machineO, .ref w_endsR, .ref w_programO, .ref w_spareO, .int w_errorPlace])), (w_tokensO, .inr (0, [.ref w_tokens_tapeA, .int (sX10_append_n23_0_1 (sX10_append_n23_0_1 (sX10_append_n23_0_1 (sX10_append_n23_0_1 (sX10_append_n23_0_1 w_tokens_length))))), .int w_tokens_kind, .int w_tokens_place, .int w_tokens_figure, .long w_tokens_name, .int w_tokens_after, .int w_tokens_count])), (w_tokens_tapeA, .inl (w_tokens_tapeC, 1200, .inl (sX10_append_n23_1 p4 (sX10_append_n23_0_1 (sX10_append_n23_0_1 (sX10_append_n23_0_1 (sX10_append_n23_0_1 w_tokens_length)))) (sX10_append_n23_1 p3 (sX10_append_n23_0_1 (sX10_append_n23_0_1 (sX10_append_n23_0_1 w_tokens_length))) (sX10_append_n23_1 p2 (sX10_append_n23_0_1 (sX10_append_n23_0_1 w_tokens_length)) (sX10_append_n23_1 p1 (sX10_append_n23_0_1 w_tokens_length) (sX10_append_n23_1 p0 w_tokens_length w_tokens_tapeF)))))))] := hD
    have hK : va_K (dC, dI) cls [(w_tokens_tapeC, .int)] s := hK
    refine W.widen (k := 0) (n := 0) (Nat.le_of_ble_eq_true rfl) (Nat.le_of_ble_eq_true rfl) ?_
    refine lv_aload_n hx hb dX11_feed_68 rfl (lv_at hl 0 rfl) ?_
    refine va_get (D := (dC, dI)) (ci := 11) (v := .ref w_tokensO) (C := RX11) (T := TX11) (N := 11) hx hb hts i_X11 hown hK hP 0 rfl rfl 0 (by decide) (hts _ qw155) (fun _ h9 => h9) rfl dX11_feed_69 ?_
    refine va_get (D := (dC, dI)) (ci := 0) (v := .int (sX10_append_n23_0_1 (sX10_append_n23_0_1 (sX10_append_n23_0_1 (sX10_append_n23_0_1 (sX10_append_n23_0_1 w_tokens_length)))))) (C := RX10) (T := TX10) (N := 8) hx hb hts i_X10 hown hK hP 1 rfl rfl 1 (by decide) (hts _ qw156) (fun _ h9 => h9) rfl dX11_feed_72 ?_
    have hP9 : va_P (dC, dI) cls [(h0, .inr (11, [.ref w_tokensO, .ref w_readerO, .ref w_flowsR, .ref w_makerO, .ref w_passesO, .ref w_allocatorO, .ref w_machineO, .ref w_endsR, .ref w_programO, .ref w_spareO, .int w_errorPlace])), (w_tokensO, .inr (0, [.ref w_tokens_tapeA, .int (sX10_append_n23_0_1 (sX10_append_n23_0_1 (sX10_append_n23_0_1 (sX10_append_n23_0_1 (sX10_append_n23_0_1 w_tokens_length))))), .int w_tokens_kind, .int w_tokens_place, .int w_tokens_figure, .long w_tokens_name, .int w_tokens_after, .int w_tokens_count])), (w_tokens_tapeA, .inl (w_tokens_tapeC, 1200, .inl (sX10_append_n23_1 p4 (sX10_append_n23_0_1 (sX10_append_n23_0_1 (sX10_append_n23_0_1 (sX10_append_n23_0_1 w_tokens_length)))) (sX10_append_n23_1 p3 (sX10_append_n23_0_1 (sX10_append_n23_0_1 (sX10_append_n23_0_1 w_tokens_length))) (sX10_append_n23_1 p2 (sX10_append_n23_0_1 (sX10_append_n23_0_1 w_tokens_length)) (sX10_append_n23_1 p1 (sX10_append_n23_0_1 w_tokens_length) (sX10_append_n23_1 p0 w_tokens_length w_tokens_tapeF)))))))] H := by exact hP.sub [0, 1, 2] rfl
    have hD9 : va_D A [(h0, .inr (11, [.ref w_tokensO, .ref w_readerO, .ref w_flowsR, .ref w_makerO, .ref w_passesO, .ref w_allocatorO, .ref w_machineO, .ref w_endsR, .ref w_programO, .ref w_spareO, .int w_errorPlace])), (w_tokensO, .inr (0, [.ref w_tokens_tapeA, .int (sX10_append_n23_0_1 (sX10_append_n23_0_1 (sX10_append_n23_0_1 (sX10_append_n23_0_1 (sX10_append_n23_0_1 w_tokens_length))))), .int w_tokens_kind, .int w_tokens_place, .int w_tokens_figure, .long w_tokens_name, .int w_tokens_after, .int w_tokens_count])), (w_tokens_tapeA, .inl (w_tokens_tapeC, 1200, .inl (sX10_append_n23_1 p4 (sX10_append_n23_0_1 (sX10_append_n23_0_1 (sX10_append_n23_0_1 (sX10_append_n23_0_1 w_tokens_length)))) (sX10_append_n23_1 p3 (sX10_append_n23_0_1 (sX10_append_n23_0_1 (sX10_append_n23_0_1 w_tokens_length))) (sX10_append_n23_1 p2 (sX10_append_n23_0_1 (sX10_append_n23_0_1 w_tokens_length)) (sX10_append_n23_1 p1 (sX10_append_n23_0_1 w_tokens_length) (sX10_append_n23_1 p0 w_tokens_length w_tokens_tapeF)))))))] := by exact hD.sub [0, 1, 2] (by decide) rfl
    have hK9 : va_K (dC, dI) cls [(w_tokens_tapeC, .int)] s := hK.sub [0] rfl
    refine W.widen (k := 0) (n := 0) (Nat.le_of_ble_eq_true rfl) (Nat.le_of_ble_eq_true rfl) ?_
    exact W.iret (v := (sX10_append_n23_0_1 (sX10_append_n23_0_1 (sX10_append_n23_0_1 (sX10_append_n23_0_1 (sX10_append_n23_0_1 w_tokens_length)))))) hx hb hr (fun t ht hW => ⟨⟨(sX10_append_n23_0_1 (sX10_append_n23_0_1 (sX10_append_n23_0_1 (sX10_append_n23_0_1 (sX10_append_n23_0_1 w_tokens_length))))), (), rfl, rfl, ⟨by rw [ht]; exact hP9, va_K.moved hW.alike hK9, hD9⟩⟩, hS.F ht⟩) hS.2.2 dX11_feed_75
  · refine lv_icmp_le (tgt := 26) hx hb dX11_feed_13 (by decide) (fun c => absurd c hc1) (fun _ => ?_)
    exact (hq21 hc1).elim
set_option maxHeartbeats 4000000 in
set_option maxRecDepth 100000 in
theorem kX11_functions {zs : Nat × Nat} (l : Launch) (dC : Nat → ClassId) (dI : Nat → Nat → Nat) (h0 : Nat) (w_flowsR : Nat) (w_endsR : Nat) (w_errorPlace : Int32) (w_tokensO : Nat) (w_readerO : Nat) (w_makerO : Nat) (w_passesO : Nat) (w_allocatorO : Nat) (w_machineO : Nat) (w_programO : Nat) (w_program_functions : Int32) (w_program_nameA : Nat) (w_program_namePlaceA : Nat) (w_program_parametersA : Nat) (w_program_variablesA : Nat) (w_program_fromA : Nat) (w_program_toA : Nat) (w_program_ops : Int32) (w_program_opA : Nat) (w_program_argumentA : Nat) (w_program_ticksA : Nat) (w_program_labels : Int32) (w_program_labelAtA : Nat) (w_spareO : Nat) (sz : Nat)  : Met l yX11_functions (wz yX11_functions cX11_functions 1 (Option.some Jvm.ClassFile.FieldType.int)) ({ frames := 0, cells := 0, slots := 0, locals := 0 }) (va_Pc [.ref h0] (PRE zs dC dI [(h0, .inr (11, [.ref w_tokensO, .ref w_readerO, .ref w_flowsR, .ref w_makerO, .ref w_passesO, .ref w_allocatorO, .ref w_machineO, .ref w_endsR, .ref w_programO, .ref w_spareO, .int w_errorPlace])), (w_programO, .inr (2, [.int w_program_functions, .ref w_program_nameA, .ref w_program_namePlaceA, .ref w_program_parametersA, .ref w_program_variablesA, .ref w_program_fromA, .ref w_program_toA, .int w_program_ops, .ref w_program_opA, .ref w_program_argumentA, .ref w_program_ticksA, .int w_program_labels, .ref w_program_labelAtA]))] [] sz)) (va_Qi (fun (r : Int32) (_ : Unit) => r = w_program_functions) (fun _ t => POST dC dI [(h0, .inr (11, [.ref w_tokensO, .ref w_readerO, .ref w_flowsR, .ref w_makerO, .ref w_passesO, .ref w_allocatorO, .ref w_machineO, .ref w_endsR, .ref w_programO, .ref w_spareO, .int w_errorPlace])), (w_programO, .inr (2, [.int w_program_functions, .ref w_program_nameA, .ref w_program_namePlaceA, .ref w_program_parametersA, .ref w_program_variablesA, .ref w_program_fromA, .ref w_program_toA, .int w_program_ops, .ref w_program_opA, .ref w_program_argumentA, .ref w_program_ticksA, .int w_program_labels, .ref w_program_labelAtA]))] [] (va_A [(h0, .inr (11, [.ref w_tokensO, .ref w_readerO, .ref w_flowsR, .ref w_makerO, .ref w_passesO, .ref w_allocatorO, .ref w_machineO, .ref w_endsR, .ref w_programO, .ref w_spareO, .int w_errorPlace])), (w_programO, .inr (2, [.int w_program_functions, .ref w_program_nameA, .ref w_program_namePlaceA, .ref w_program_parametersA, .ref w_program_variablesA, .ref w_program_fromA, .ref w_program_toA, .int w_program_ops, .ref w_program_opA, .ref w_program_argumentA, .ref w_program_ticksA, .int w_program_labels, .ref w_program_labelAtA]))] sz) t) (va_A [(h0, .inr (11, [.ref w_tokensO, .ref w_readerO, .ref w_flowsR, .ref w_makerO, .ref w_passesO, .ref w_allocatorO, .ref w_machineO, .ref w_endsR, .ref w_programO, .ref w_spareO, .int w_errorPlace])), (w_programO, .inr (2, [.int w_program_functions, .ref w_program_nameA, .ref w_program_namePlaceA, .ref w_program_parametersA, .ref w_program_variablesA, .ref w_program_fromA, .ref w_program_toA, .int w_program_ops, .ref w_program_opA, .ref w_program_argumentA, .ref w_program_ticksA, .int w_program_labels, .ref w_program_labelAtA]))] sz)) 0 0 (va_A [(h0, .inr (11, [.ref w_tokensO, .ref w_readerO, .ref w_flowsR, .ref w_makerO, .ref w_passesO, .ref w_allocatorO, .ref w_machineO, .ref w_endsR, .ref w_programO, .ref w_spareO, .int w_errorPlace])), (w_programO, .inr (2, [.int w_program_functions, .ref w_program_nameA, .ref w_program_namePlaceA, .ref w_program_parametersA, .ref w_program_variablesA, .ref w_program_fromA, .ref w_program_toA, .int w_program_ops, .ref w_program_opA, .ref w_program_argumentA, .ref w_program_ticksA, .int w_program_labels, .ref w_program_labelAtA]))] sz) := by
  refine Met.ofW (cc := cX11_functions) (maxL := 1) (ret := (Option.some Jvm.ClassFile.FieldType.int)) (by decide) rfl ?_
  intro p e s m args below meth c s₁ B hml hv
  obtain ⟨rfl, hsz, hP, hK, hD0, hE⟩ := hv
  have hx := B.exec
  have hb := B.bytes
  have hr := B.returns
  have hts0 := atoms_spec (ws := wz yX11_functions cX11_functions 1 (Option.some Jvm.ClassFile.FieldType.int)) B.pre
  have hts : ∀ w ∈ gw, w.before _ s = true := fun w h => hts0 w (List.mem_cons_of_mem _ h)
  have hown : s.vm.findClass RX11 = some m.cls := findClass_of_methodNamed B.named
  have hlocks := B.notSynchronized
  subst hsz
  have hD := hD0.self (sz := s.heap.size)
  generalize hAe : va_A [(h0, .inr (11, [.ref w_tokensO, .ref w_readerO, .ref w_flowsR, .ref w_makerO, .ref w_passesO, .ref w_allocatorO, .ref w_machineO, .ref w_endsR, .ref w_programO, .ref w_spareO, .int w_errorPlace])), (w_programO, .inr (2, [.int w_program_functions, .ref w_program_nameA, .ref w_program_namePlaceA, .ref w_program_parametersA, .ref w_program_variablesA, .ref w_program_fromA, .ref w_program_toA, .int w_program_ops, .ref w_program_opA, .ref w_program_argumentA, .ref w_program_ticksA, .int w_program_labels, .ref w_program_labelAtA]))] s.heap.size = A at hD hE ⊢
  have hA : ∀ q : Nat, s.heap.size ≤ q → A q := fun q h => by rw [← hAe]; exact Or.inr h
  have hS : va_S A s.heap s.heap [] := va_S.rf
  have hP : va_P (dC, dI) cls [(h0, .inr (11, [.ref w_tokensO, .ref w_readerO, .ref w_flowsR, .ref w_makerO, .ref w_passesO, .ref w_allocatorO, .ref w_machineO, .ref w_endsR, .ref w_programO, .ref w_spareO, .int w_errorPlace])), (w_programO, .inr (2, [.int w_program_functions, .ref w_program_nameA, .ref w_program_namePlaceA, .ref w_program_parametersA, .ref w_program_variablesA, .ref w_program_fromA, .ref w_program_toA, .int w_program_ops, .ref w_program_opA, .ref w_program_argumentA, .ref w_program_ticksA, .int w_program_labels, .ref w_program_labelAtA]))] s.heap := hP
  have hl := lv_entry ([.ref h0]) (n := 1) (Nat.le_of_ble_eq_true rfl)
  rw [lg_entry_eq]
  generalize (lg_sl ([.ref h0]) ++ List.replicate (1 - (lg_sl ([.ref h0])).length) Slot.unset).toArray = ls at hl ⊢
  have hl : lv_has ls 1 [(0, .ref h0)] := hl
  refine lv_aload_n hx hb dX11_functions_0 rfl (lv_at hl 0 rfl) ?_
  refine va_get (D := (dC, dI)) (ci := 11) (v := .ref w_programO) (C := RX11) (T := TX11) (N := 11) hx hb hts i_X11 hown hK hP 0 rfl rfl 8 (by decide) (hts _ qw110) (fun _ h9 => h9) rfl dX11_functions_1 ?_
  refine va_get (D := (dC, dI)) (ci := 2) (v := .int w_program_functions) (C := RX6) (T := TX6) (N := 13) hx hb hts i_X6 hown hK hP 1 rfl rfl 0 (by decide) (hts _ qw111) (fun _ h9 => h9) rfl dX11_functions_4 ?_
  have hP9 : va_P (dC, dI) cls [(h0, .inr (11, [.ref w_tokensO, .ref w_readerO, .ref w_flowsR, .ref w_makerO, .ref w_passesO, .ref w_allocatorO, .ref w_machineO, .ref w_endsR, .ref w_programO, .ref w_spareO, .int w_errorPlace])), (w_programO, .inr (2, [.int w_program_functions, .ref w_program_nameA, .ref w_program_namePlaceA, .ref w_program_parametersA, .ref w_program_variablesA, .ref w_program_fromA, .ref w_program_toA, .int w_program_ops, .ref w_program_opA, .ref w_program_argumentA, .ref w_program_ticksA, .int w_program_labels, .ref w_program_labelAtA]))] s.heap := by exact hP.sub [0, 1] rfl
  have hD9 : va_D A [(h0, .inr (11, [.ref w_tokensO, .ref w_readerO, .ref w_flowsR, .ref w_makerO, .ref w_passesO, .ref w_allocatorO, .ref w_machineO, .ref w_endsR, .ref w_programO, .ref w_spareO, .int w_errorPlace])), (w_programO, .inr (2, [.int w_program_functions, .ref w_program_nameA, .ref w_program_namePlaceA, .ref w_program_parametersA, .ref w_program_variablesA, .ref w_program_fromA, .ref w_program_toA, .int w_program_ops, .ref w_program_opA, .ref w_program_argumentA, .ref w_program_ticksA, .int w_program_labels, .ref w_program_labelAtA]))] := by exact hD.sub [0, 1] (by decide) rfl
  have hK9 : va_K (dC, dI) cls [] s := hK.sub [] rfl
  refine W.widen (k := 0) (n := 0) (Nat.le_of_ble_eq_true rfl) (Nat.le_of_ble_eq_true rfl) ?_
  exact W.iret (v := w_program_functions) hx hb hr (fun t ht hW => ⟨⟨w_program_functions, (), rfl, rfl, ⟨by rw [ht]; exact hP9, va_K.moved hW.alike hK9, hD9⟩⟩, hS.F ht⟩) hS.2.2 dX11_functions_7
def sX11_givesValue_r (p0 : Int32) : Int32 := (if p0 < 0 then (if p0 = 20 then 1 else (if p0 = 21 then 1 else 0)) else (if p0 ≤ 17 then 1 else (if p0 = 20 then 1 else (if p0 = 21 then 1 else 0))))
theorem nz_sX11_givesValue_r (p0 : Int32) : narrow .boolean (.int (sX11_givesValue_r p0)) = .int (sX11_givesValue_r p0) := by
  unfold sX11_givesValue_r
  (repeat' split) <;> first | rfl
set_option maxHeartbeats 4000000 in
set_option maxRecDepth 100000 in
theorem kX11_givesValue {zs : Nat × Nat} (l : Launch) (dC : Nat → ClassId) (dI : Nat → Nat → Nat) (p0 : Int32) (sz : Nat)  : Met l yX11_givesValue (wz yX11_givesValue cX11_givesValue 1 (Option.some Jvm.ClassFile.FieldType.boolean)) ({ frames := 0, cells := 0, slots := 0, locals := 0 }) (va_Pc [.int p0] (PRE zs dC dI [] [] sz)) (va_Qi (fun (r : Int32) (_ : Unit) => r = (sX11_givesValue_r p0)) (fun _ t => POST dC dI [] [] (va_A [] sz) t) (va_A [] sz)) 0 0 (va_A [] sz) := by
  refine Met.ofW (cc := cX11_givesValue) (maxL := 1) (ret := (Option.some Jvm.ClassFile.FieldType.boolean)) (by decide) rfl ?_
  intro p e s m args below meth c s₁ B hml hv
  obtain ⟨rfl, hsz, hP, hK, hD0, hE⟩ := hv
  have hx := B.exec
  have hb := B.bytes
  have hr := B.returns
  have hts0 := atoms_spec (ws := wz yX11_givesValue cX11_givesValue 1 (Option.some Jvm.ClassFile.FieldType.boolean)) B.pre
  have hts : ∀ w ∈ gw, w.before _ s = true := fun w h => hts0 w (List.mem_cons_of_mem _ h)
  have hown : s.vm.findClass RX11 = some m.cls := findClass_of_methodNamed B.named
  have hlocks := B.notSynchronized
  subst hsz
  have hD := hD0.self (sz := s.heap.size)
  generalize hAe : va_A [] s.heap.size = A at hD hE ⊢
  have hA : ∀ q : Nat, s.heap.size ≤ q → A q := fun q h => by rw [← hAe]; exact Or.inr h
  have hS : va_S A s.heap s.heap [] := va_S.rf
  have hP : va_P (dC, dI) cls [] s.heap := hP
  have hl := lv_entry ([.int p0]) (n := 1) (Nat.le_of_ble_eq_true rfl)
  rw [lg_entry_eq]
  generalize (lg_sl ([.int p0]) ++ List.replicate (1 - (lg_sl ([.int p0])).length) Slot.unset).toArray = ls at hl ⊢
  have hl : lv_has ls 1 [(0, .int p0)] := hl
  refine lv_iload_n hx hb dX11_givesValue_0 rfl (lv_at hl 0 rfl) ?_
  by_cases hc1 : p0 < 0
  · refine lv_if_lt (tgt := 10) hx hb dX11_givesValue_1 (by decide) (fun _ => ?_) (fun c => absurd hc1 c)
    refine lv_iload_n hx hb dX11_givesValue_10 rfl (lv_at hl 0 rfl) ?_
    refine lv_bipush (v := 20) hx hb dX11_givesValue_11 (by decide) ?_
    by_cases hc2 : p0 = 20
    · refine lv_icmp_eq (tgt := 22) hx hb dX11_givesValue_13 (by decide) (fun _ => ?_) (fun c => absurd hc2 c)
      refine lv_iconst (v := 1) hx hb dX11_givesValue_22 (by decide) ?_
      refine lv_goto (tgt := 27) hx hb dX11_givesValue_23 (by decide) ?_
      have e_sX11_givesValue_r : sX11_givesValue_r p0 = 1 := by unfold sX11_givesValue_r; rw [if_pos hc1, if_pos hc2]
      have hP9 : va_P (dC, dI) cls [] s.heap := by exact hP.sub [] rfl
      have hD9 : va_D A [] := by exact hD.sub [] (by decide) rfl
      have hK9 : va_K (dC, dI) cls [] s := hK.sub [] rfl
      refine W.widen (k := 0) (n := 0) (Nat.le_of_ble_eq_true rfl) (Nat.le_of_ble_eq_true rfl) ?_
      exact W.zret (v := 1) hx hb hr (by decide) (fun t ht hW => ⟨⟨1, (), rfl, e_sX11_givesValue_r.symm, ⟨by rw [ht]; exact hP9, va_K.moved hW.alike hK9, hD9⟩⟩, hS.F ht⟩) hS.2.2 dX11_givesValue_27
    · refine lv_icmp_eq (tgt := 22) hx hb dX11_givesValue_13 (by decide) (fun c => absurd c hc2) (fun _ => ?_)
      refine lv_iload_n hx hb dX11_givesValue_16 rfl (lv_at hl 0 rfl) ?_
      refine lv_bipush (v := 21) hx hb dX11_givesValue_17 (by decide) ?_
      by_cases hc3 : p0 = 21
      · refine lv_icmp_ne (tgt := 26) hx hb dX11_givesValue_19 (by decide) (fun c => absurd hc3 c) (fun _ => ?_)
        refine lv_iconst (v := 1) hx hb dX11_givesValue_22 (by decide) ?_
        refine lv_goto (tgt := 27) hx hb dX11_givesValue_23 (by decide) ?_
        have e_sX11_givesValue_r : sX11_givesValue_r p0 = 1 := by unfold sX11_givesValue_r; rw [if_pos hc1, if_neg hc2, if_pos hc3]
        have hP9 : va_P (dC, dI) cls [] s.heap := by exact hP.sub [] rfl
        have hD9 : va_D A [] := by exact hD.sub [] (by decide) rfl
        have hK9 : va_K (dC, dI) cls [] s := hK.sub [] rfl
        refine W.widen (k := 0) (n := 0) (Nat.le_of_ble_eq_true rfl) (Nat.le_of_ble_eq_true rfl) ?_
        exact W.zret (v := 1) hx hb hr (by decide) (fun t ht hW => ⟨⟨1, (), rfl, e_sX11_givesValue_r.symm, ⟨by rw [ht]; exact hP9, va_K.moved hW.alike hK9, hD9⟩⟩, hS.F ht⟩) hS.2.2 dX11_givesValue_27
      · refine lv_icmp_ne (tgt := 26) hx hb dX11_givesValue_19 (by decide) (fun _ => ?_) (fun c => absurd c hc3)
        refine lv_iconst (v := 0) hx hb dX11_givesValue_26 (by decide) ?_
        have e_sX11_givesValue_r : sX11_givesValue_r p0 = 0 := by unfold sX11_givesValue_r; rw [if_pos hc1, if_neg hc2, if_neg hc3]
        have hP9 : va_P (dC, dI) cls [] s.heap := by exact hP.sub [] rfl
        have hD9 : va_D A [] := by exact hD.sub [] (by decide) rfl
        have hK9 : va_K (dC, dI) cls [] s := hK.sub [] rfl
        refine W.widen (k := 0) (n := 0) (Nat.le_of_ble_eq_true rfl) (Nat.le_of_ble_eq_true rfl) ?_
        exact W.zret (v := 0) hx hb hr (by decide) (fun t ht hW => ⟨⟨0, (), rfl, e_sX11_givesValue_r.symm, ⟨by rw [ht]; exact hP9, va_K.moved hW.alike hK9, hD9⟩⟩, hS.F ht⟩) hS.2.2 dX11_givesValue_27
  · refine lv_if_lt (tgt := 10) hx hb dX11_givesValue_1 (by decide) (fun c => absurd c hc1) (fun _ => ?_)
    refine lv_iload_n hx hb dX11_givesValue_4 rfl (lv_at hl 0 rfl) ?_
    refine lv_bipush (v := 17) hx hb dX11_givesValue_5 (by decide) ?_
    by_cases hc4 : p0 ≤ 17
    · refine lv_icmp_le (tgt := 22) hx hb dX11_givesValue_7 (by decide) (fun _ => ?_) (fun c => absurd hc4 c)
      refine lv_iconst (v := 1) hx hb dX11_givesValue_22 (by decide) ?_
      refine lv_goto (tgt := 27) hx hb dX11_givesValue_23 (by decide) ?_
      have e_sX11_givesValue_r : sX11_givesValue_r p0 = 1 := by unfold sX11_givesValue_r; rw [if_neg hc1, if_pos hc4]
      have hP9 : va_P (dC, dI) cls [] s.heap := by exact hP.sub [] rfl
      have hD9 : va_D A [] := by exact hD.sub [] (by decide) rfl
      have hK9 : va_K (dC, dI) cls [] s := hK.sub [] rfl
      refine W.widen (k := 0) (n := 0) (Nat.le_of_ble_eq_true rfl) (Nat.le_of_ble_eq_true rfl) ?_
      exact W.zret (v := 1) hx hb hr (by decide) (fun t ht hW => ⟨⟨1, (), rfl, e_sX11_givesValue_r.symm, ⟨by rw [ht]; exact hP9, va_K.moved hW.alike hK9, hD9⟩⟩, hS.F ht⟩) hS.2.2 dX11_givesValue_27
    · refine lv_icmp_le (tgt := 22) hx hb dX11_givesValue_7 (by decide) (fun c => absurd c hc4) (fun _ => ?_)
      refine lv_iload_n hx hb dX11_givesValue_10 rfl (lv_at hl 0 rfl) ?_
      refine lv_bipush (v := 20) hx hb dX11_givesValue_11 (by decide) ?_
      by_cases hc5 : p0 = 20
      · refine lv_icmp_eq (tgt := 22) hx hb dX11_givesValue_13 (by decide) (fun _ => ?_) (fun c => absurd hc5 c)
        refine lv_iconst (v := 1) hx hb dX11_givesValue_22 (by decide) ?_
        refine lv_goto (tgt := 27) hx hb dX11_givesValue_23 (by decide) ?_
        have e_sX11_givesValue_r : sX11_givesValue_r p0 = 1 := by unfold sX11_givesValue_r; rw [if_neg hc1, if_neg hc4, if_pos hc5]
        have hP9 : va_P (dC, dI) cls [] s.heap := by exact hP.sub [] rfl
        have hD9 : va_D A [] := by exact hD.sub [] (by decide) rfl
        have hK9 : va_K (dC, dI) cls [] s := hK.sub [] rfl
        refine W.widen (k := 0) (n := 0) (Nat.le_of_ble_eq_true rfl) (Nat.le_of_ble_eq_true rfl) ?_
        exact W.zret (v := 1) hx hb hr (by decide) (fun t ht hW => ⟨⟨1, (), rfl, e_sX11_givesValue_r.symm, ⟨by rw [ht]; exact hP9, va_K.moved hW.alike hK9, hD9⟩⟩, hS.F ht⟩) hS.2.2 dX11_givesValue_27
      · refine lv_icmp_eq (tgt := 22) hx hb dX11_givesValue_13 (by decide) (fun c => absurd c hc5) (fun _ => ?_)
        refine lv_iload_n hx hb dX11_givesValue_16 rfl (lv_at hl 0 rfl) ?_
        refine lv_bipush (v := 21) hx hb dX11_givesValue_17 (by decide) ?_
        by_cases hc6 : p0 = 21
        · refine lv_icmp_ne (tgt := 26) hx hb dX11_givesValue_19 (by decide) (fun c => absurd hc6 c) (fun _ => ?_)
          refine lv_iconst (v := 1) hx hb dX11_givesValue_22 (by decide) ?_
          refine lv_goto (tgt := 27) hx hb dX11_givesValue_23 (by decide) ?_
          have e_sX11_givesValue_r : sX11_givesValue_r p0 = 1 := by unfold sX11_givesValue_r; rw [if_neg hc1, if_neg hc4, if_neg hc5, if_pos hc6]
          have hP9 : va_P (dC, dI) cls [] s.heap := by exact hP.sub [] rfl
          have hD9 : va_D A [] := by exact hD.sub [] (by decide) rfl
          have hK9 : va_K (dC, dI) cls [] s := hK.sub [] rfl
          refine W.widen (k := 0) (n := 0) (Nat.le_of_ble_eq_true rfl) (Nat.le_of_ble_eq_true rfl) ?_
          exact W.zret (v := 1) hx hb hr (by decide) (fun t ht hW => ⟨⟨1, (), rfl, e_sX11_givesValue_r.symm, ⟨by rw [ht]; exact hP9, va_K.moved hW.alike hK9, hD9⟩⟩, hS.F ht⟩) hS.2.2 dX11_givesValue_27
        · refine lv_icmp_ne (tgt := 26) hx hb dX11_givesValue_19 (by decide) (fun _ => ?_) (fun c => absurd c hc6)
          refine lv_iconst (v := 0) hx hb dX11_givesValue_26 (by decide) ?_
          have e_sX11_givesValue_r : sX11_givesValue_r p0 = 0 := by unfold sX11_givesValue_r; rw [if_neg hc1, if_neg hc4, if_neg hc5, if_neg hc6]
          have hP9 : va_P (dC, dI) cls [] s.heap := by exact hP.sub [] rfl
          have hD9 : va_D A [] := by exact hD.sub [] (by decide) rfl
          have hK9 : va_K (dC, dI) cls [] s := hK.sub [] rfl
          refine W.widen (k := 0) (n := 0) (Nat.le_of_ble_eq_true rfl) (Nat.le_of_ble_eq_true rfl) ?_
          exact W.zret (v := 0) hx hb hr (by decide) (fun t ht hW => ⟨⟨0, (), rfl, e_sX11_givesValue_r.symm, ⟨by rw [ht]; exact hP9, va_K.moved hW.alike hK9, hD9⟩⟩, hS.F ht⟩) hS.2.2 dX11_givesValue_27
def sX11_holds_r (p0 : Int64) (p1 : Int32) : Int32 := (if (lg_cmp ((((p0 : Int64).toUInt64 >>> ((p1 : Int32).toInt64.toUInt64 &&& Int64.toUInt64 63)).toInt64) &&& 1) 0) = 0 then 0 else 1)
theorem nz_sX11_holds_r (p0 : Int64) (p1 : Int32) : narrow .boolean (.int (sX11_holds_r p0 p1)) = .int (sX11_holds_r p0 p1) := by
  unfold sX11_holds_r
  (repeat' split) <;> first | rfl
set_option maxHeartbeats 4000000 in
set_option maxRecDepth 100000 in
theorem kX11_holds {zs : Nat × Nat} (l : Launch) (dC : Nat → ClassId) (dI : Nat → Nat → Nat) (p0 : Int64) (p1 : Int32) (sz : Nat)  : Met l yX11_holds (wz yX11_holds cX11_holds 3 (Option.some Jvm.ClassFile.FieldType.boolean)) ({ frames := 0, cells := 0, slots := 0, locals := 0 }) (va_Pc [.long p0, .int p1] (PRE zs dC dI [] [] sz)) (va_Qi (fun (r : Int32) (_ : Unit) => r = (sX11_holds_r p0 p1)) (fun _ t => POST dC dI [] [] (va_A [] sz) t) (va_A [] sz)) 0 0 (va_A [] sz) := by
  refine Met.ofW (cc := cX11_holds) (maxL := 3) (ret := (Option.some Jvm.ClassFile.FieldType.boolean)) (by decide) rfl ?_
  intro p e s m args below meth c s₁ B hml hv
  obtain ⟨rfl, hsz, hP, hK, hD0, hE⟩ := hv
  have hx := B.exec
  have hb := B.bytes
  have hr := B.returns
  have hts0 := atoms_spec (ws := wz yX11_holds cX11_holds 3 (Option.some Jvm.ClassFile.FieldType.boolean)) B.pre
  have hts : ∀ w ∈ gw, w.before _ s = true := fun w h => hts0 w (List.mem_cons_of_mem _ h)
  have hown : s.vm.findClass RX11 = some m.cls := findClass_of_methodNamed B.named
  have hlocks := B.notSynchronized
  subst hsz
  have hD := hD0.self (sz := s.heap.size)
  generalize hAe : va_A [] s.heap.size = A at hD hE ⊢
  have hA : ∀ q : Nat, s.heap.size ≤ q → A q := fun q h => by rw [← hAe]; exact Or.inr h
  have hS : va_S A s.heap s.heap [] := va_S.rf
  have hP : va_P (dC, dI) cls [] s.heap := hP
  have hl := lv_entry ([.long p0, .int p1]) (n := 3) (Nat.le_of_ble_eq_true rfl)
  rw [lg_entry_eq]
  generalize (lg_sl ([.long p0, .int p1]) ++ List.replicate (3 - (lg_sl ([.long p0, .int p1])).length) Slot.unset).toArray = ls at hl ⊢
  have hl : lv_has ls 3 [(0, .long p0), (2, .int p1)] := hl
  refine lv_lload_n hx hb dX11_holds_0 rfl (lv_at hl 0 rfl) ?_
  refine lv_iload_n hx hb dX11_holds_1 rfl (lv_at hl 1 rfl) ?_
  refine lv_lushr (v := (((p0 : Int64).toUInt64 >>> ((p1 : Int32).toInt64.toUInt64 &&& Int64.toUInt64 63)).toInt64)) hx hb dX11_holds_2 rfl ?_
  refine lv_lconst (v := 1) hx hb dX11_holds_3 (by decide) ?_
  refine lv_land hx hb dX11_holds_4 ?_
  refine lv_lconst (v := 0) hx hb dX11_holds_5 (by decide) ?_
  refine W.lcmp hx hb dX11_holds_6 ?_
  by_cases hc1 : (lg_cmp ((((p0 : Int64).toUInt64 >>> ((p1 : Int32).toInt64.toUInt64 &&& Int64.toUInt64 63)).toInt64) &&& 1) 0) = 0
  · refine lv_if_eq (tgt := 14) hx hb dX11_holds_7 (by decide) (fun _ => ?_) (fun c => absurd hc1 c)
    refine lv_iconst (v := 0) hx hb dX11_holds_14 (by decide) ?_
    have e_sX11_holds_r : sX11_holds_r p0 p1 = 0 := by unfold sX11_holds_r; rw [if_pos hc1]
    have hP9 : va_P (dC, dI) cls [] s.heap := by exact hP.sub [] rfl
    have hD9 : va_D A [] := by exact hD.sub [] (by decide) rfl
    have hK9 : va_K (dC, dI) cls [] s := hK.sub [] rfl
    refine W.widen (k := 0) (n := 0) (Nat.le_of_ble_eq_true rfl) (Nat.le_of_ble_eq_true rfl) ?_
    exact W.zret (v := 0) hx hb hr (by decide) (fun t ht hW => ⟨⟨0, (), rfl, e_sX11_holds_r.symm, ⟨by rw [ht]; exact hP9, va_K.moved hW.alike hK9, hD9⟩⟩, hS.F ht⟩) hS.2.2 dX11_holds_15
  · refine lv_if_eq (tgt := 14) hx hb dX11_holds_7 (by decide) (fun c => absurd c hc1) (fun _ => ?_)
    refine lv_iconst (v := 1) hx hb dX11_holds_10 (by decide) ?_
    refine lv_goto (tgt := 15) hx hb dX11_holds_11 (by decide) ?_
    have e_sX11_holds_r : sX11_holds_r p0 p1 = 1 := by unfold sX11_holds_r; rw [if_neg hc1]
    have hP9 : va_P (dC, dI) cls [] s.heap := by exact hP.sub [] rfl
    have hD9 : va_D A [] := by exact hD.sub [] (by decide) rfl
    have hK9 : va_K (dC, dI) cls [] s := hK.sub [] rfl
    refine W.widen (k := 0) (n := 0) (Nat.le_of_ble_eq_true rfl) (Nat.le_of_ble_eq_true rfl) ?_
    exact W.zret (v := 1) hx hb hr (by decide) (fun t ht hW => ⟨⟨1, (), rfl, e_sX11_holds_r.symm, ⟨by rw [ht]; exact hP9, va_K.moved hW.alike hK9, hD9⟩⟩, hS.F ht⟩) hS.2.2 dX11_holds_15
def sX11_isFailing_r (p0 : Int32) (p1 : Int32) : Int32 := (if p0 = 4 then (if p1 = 0 then 1 else 0) else (if p0 = 5 then (if p1 = 0 then 1 else 0) else 0))
theorem nz_sX11_isFailing_r (p0 : Int32) (p1 : Int32) : narrow .boolean (.int (sX11_isFailing_r p0 p1)) = .int (sX11_isFailing_r p0 p1) := by
  unfold sX11_isFailing_r
  (repeat' split) <;> first | rfl
set_option maxHeartbeats 4000000 in
set_option maxRecDepth 100000 in
theorem kX11_isFailing {zs : Nat × Nat} (l : Launch) (dC : Nat → ClassId) (dI : Nat → Nat → Nat) (p0 : Int32) (p1 : Int32) (sz : Nat)  : Met l yX11_isFailing (wz yX11_isFailing cX11_isFailing 2 (Option.some Jvm.ClassFile.FieldType.boolean)) ({ frames := 0, cells := 0, slots := 0, locals := 0 }) (va_Pc [.int p0, .int p1] (PRE zs dC dI [] [] sz)) (va_Qi (fun (r : Int32) (_ : Unit) => r = (sX11_isFailing_r p0 p1)) (fun _ t => POST dC dI [] [] (va_A [] sz) t) (va_A [] sz)) 0 0 (va_A [] sz) := by
  refine Met.ofW (cc := cX11_isFailing) (maxL := 2) (ret := (Option.some Jvm.ClassFile.FieldType.boolean)) (by decide) rfl ?_
  intro p e s m args below meth c s₁ B hml hv
  obtain ⟨rfl, hsz, hP, hK, hD0, hE⟩ := hv
  have hx := B.exec
  have hb := B.bytes
  have hr := B.returns
  have hts0 := atoms_spec (ws := wz yX11_isFailing cX11_isFailing 2 (Option.some Jvm.ClassFile.FieldType.boolean)) B.pre
  have hts : ∀ w ∈ gw, w.before _ s = true := fun w h => hts0 w (List.mem_cons_of_mem _ h)
  have hown : s.vm.findClass RX11 = some m.cls := findClass_of_methodNamed B.named
  have hlocks := B.notSynchronized
  subst hsz
  have hD := hD0.self (sz := s.heap.size)
  generalize hAe : va_A [] s.heap.size = A at hD hE ⊢
  have hA : ∀ q : Nat, s.heap.size ≤ q → A q := fun q h => by rw [← hAe]; exact Or.inr h
  have hS : va_S A s.heap s.heap [] := va_S.rf
  have hP : va_P (dC, dI) cls [] s.heap := hP
  have hl := lv_entry ([.int p0, .int p1]) (n := 2) (Nat.le_of_ble_eq_true rfl)
  rw [lg_entry_eq]
  generalize (lg_sl ([.int p0, .int p1]) ++ List.replicate (2 - (lg_sl ([.int p0, .int p1])).length) Slot.unset).toArray = ls at hl ⊢
  have hl : lv_has ls 2 [(0, .int p0), (1, .int p1)] := hl
  refine lv_iload_n hx hb dX11_isFailing_0 rfl (lv_at hl 0 rfl) ?_
  refine lv_iconst (v := 4) hx hb dX11_isFailing_1 (by decide) ?_
  by_cases hc1 : p0 = 4
  · refine lv_icmp_eq (tgt := 10) hx hb dX11_isFailing_2 (by decide) (fun _ => ?_) (fun c => absurd hc1 c)
    refine lv_iload_n hx hb dX11_isFailing_10 rfl (lv_at hl 1 rfl) ?_
    by_cases hc2 : p1 = 0
    · refine lv_if_ne (tgt := 18) hx hb dX11_isFailing_11 (by decide) (fun c => absurd hc2 c) (fun _ => ?_)
      refine lv_iconst (v := 1) hx hb dX11_isFailing_14 (by decide) ?_
      refine lv_goto (tgt := 19) hx hb dX11_isFailing_15 (by decide) ?_
      have e_sX11_isFailing_r : sX11_isFailing_r p0 p1 = 1 := by unfold sX11_isFailing_r; rw [if_pos hc1, if_pos hc2]
      have hP9 : va_P (dC, dI) cls [] s.heap := by exact hP.sub [] rfl
      have hD9 : va_D A [] := by exact hD.sub [] (by decide) rfl
      have hK9 : va_K (dC, dI) cls [] s := hK.sub [] rfl
      refine W.widen (k := 0) (n := 0) (Nat.le_of_ble_eq_true rfl) (Nat.le_of_ble_eq_true rfl) ?_
      exact W.zret (v := 1) hx hb hr (by decide) (fun t ht hW => ⟨⟨1, (), rfl, e_sX11_isFailing_r.symm, ⟨by rw [ht]; exact hP9, va_K.moved hW.alike hK9, hD9⟩⟩, hS.F ht⟩) hS.2.2 dX11_isFailing_19
    · refine lv_if_ne (tgt := 18) hx hb dX11_isFailing_11 (by decide) (fun _ => ?_) (fun c => absurd c hc2)
      refine lv_iconst (v := 0) hx hb dX11_isFailing_18 (by decide) ?_
      have e_sX11_isFailing_r : sX11_isFailing_r p0 p1 = 0 := by unfold sX11_isFailing_r; rw [if_pos hc1, if_neg hc2]
      have hP9 : va_P (dC, dI) cls [] s.heap := by exact hP.sub [] rfl
      have hD9 : va_D A [] := by exact hD.sub [] (by decide) rfl
      have hK9 : va_K (dC, dI) cls [] s := hK.sub [] rfl
      refine W.widen (k := 0) (n := 0) (Nat.le_of_ble_eq_true rfl) (Nat.le_of_ble_eq_true rfl) ?_
      exact W.zret (v := 0) hx hb hr (by decide) (fun t ht hW => ⟨⟨0, (), rfl, e_sX11_isFailing_r.symm, ⟨by rw [ht]; exact hP9, va_K.moved hW.alike hK9, hD9⟩⟩, hS.F ht⟩) hS.2.2 dX11_isFailing_19
  · refine lv_icmp_eq (tgt := 10) hx hb dX11_isFailing_2 (by decide) (fun c => absurd c hc1) (fun _ => ?_)
    refine lv_iload_n hx hb dX11_isFailing_5 rfl (lv_at hl 0 rfl) ?_
    refine lv_iconst (v := 5) hx hb dX11_isFailing_6 (by decide) ?_
    by_cases hc3 : p0 = 5
    · refine lv_icmp_ne (tgt := 18) hx hb dX11_isFailing_7 (by decide) (fun c => absurd hc3 c) (fun _ => ?_)
      refine lv_iload_n hx hb dX11_isFailing_10 rfl (lv_at hl 1 rfl) ?_
      by_cases hc4 : p1 = 0
      · refine lv_if_ne (tgt := 18) hx hb dX11_isFailing_11 (by decide) (fun c => absurd hc4 c) (fun _ => ?_)
        refine lv_iconst (v := 1) hx hb dX11_isFailing_14 (by decide) ?_
        refine lv_goto (tgt := 19) hx hb dX11_isFailing_15 (by decide) ?_
        have e_sX11_isFailing_r : sX11_isFailing_r p0 p1 = 1 := by unfold sX11_isFailing_r; rw [if_neg hc1, if_pos hc3, if_pos hc4]
        have hP9 : va_P (dC, dI) cls [] s.heap := by exact hP.sub [] rfl
        have hD9 : va_D A [] := by exact hD.sub [] (by decide) rfl
        have hK9 : va_K (dC, dI) cls [] s := hK.sub [] rfl
        refine W.widen (k := 0) (n := 0) (Nat.le_of_ble_eq_true rfl) (Nat.le_of_ble_eq_true rfl) ?_
        exact W.zret (v := 1) hx hb hr (by decide) (fun t ht hW => ⟨⟨1, (), rfl, e_sX11_isFailing_r.symm, ⟨by rw [ht]; exact hP9, va_K.moved hW.alike hK9, hD9⟩⟩, hS.F ht⟩) hS.2.2 dX11_isFailing_19
      · refine lv_if_ne (tgt := 18) hx hb dX11_isFailing_11 (by decide) (fun _ => ?_) (fun c => absurd c hc4)
        refine lv_iconst (v := 0) hx hb dX11_isFailing_18 (by decide) ?_
        have e_sX11_isFailing_r : sX11_isFailing_r p0 p1 = 0 := by unfold sX11_isFailing_r; rw [if_neg hc1, if_pos hc3, if_neg hc4]
        have hP9 : va_P (dC, dI) cls [] s.heap := by exact hP.sub [] rfl
        have hD9 : va_D A [] := by exact hD.sub [] (by decide) rfl
        have hK9 : va_K (dC, dI) cls [] s := hK.sub [] rfl
        refine W.widen (k := 0) (n := 0) (Nat.le_of_ble_eq_true rfl) (Nat.le_of_ble_eq_true rfl) ?_
        exact W.zret (v := 0) hx hb hr (by decide) (fun t ht hW => ⟨⟨0, (), rfl, e_sX11_isFailing_r.symm, ⟨by rw [ht]; exact hP9, va_K.moved hW.alike hK9, hD9⟩⟩, hS.F ht⟩) hS.2.2 dX11_isFailing_19
    · refine lv_icmp_ne (tgt := 18) hx hb dX11_isFailing_7 (by decide) (fun _ => ?_) (fun c => absurd c hc3)
      refine lv_iconst (v := 0) hx hb dX11_isFailing_18 (by decide) ?_
      have e_sX11_isFailing_r : sX11_isFailing_r p0 p1 = 0 := by unfold sX11_isFailing_r; rw [if_neg hc1, if_neg hc3]
      have hP9 : va_P (dC, dI) cls [] s.heap := by exact hP.sub [] rfl
      have hD9 : va_D A [] := by exact hD.sub [] (by decide) rfl
      have hK9 : va_K (dC, dI) cls [] s := hK.sub [] rfl
      refine W.widen (k := 0) (n := 0) (Nat.le_of_ble_eq_true rfl) (Nat.le_of_ble_eq_true rfl) ?_
      exact W.zret (v := 0) hx hb hr (by decide) (fun t ht hW => ⟨⟨0, (), rfl, e_sX11_isFailing_r.symm, ⟨by rw [ht]; exact hP9, va_K.moved hW.alike hK9, hD9⟩⟩, hS.F ht⟩) hS.2.2 dX11_isFailing_19
def sX11_isOperator_r (p0 : Int32) : Int32 := (if p0 < 1 then 0 else (if 16 < p0 then 0 else 1))
theorem nz_sX11_isOperator_r (p0 : Int32) : narrow .boolean (.int (sX11_isOperator_r p0)) = .int (sX11_isOperator_r p0) := by
  unfold sX11_isOperator_r
  (repeat' split) <;> first | rfl
set_option maxHeartbeats 4000000 in
set_option maxRecDepth 100000 in
theorem kX11_isOperator {zs : Nat × Nat} (l : Launch) (dC : Nat → ClassId) (dI : Nat → Nat → Nat) (p0 : Int32) (sz : Nat)  : Met l yX11_isOperator (wz yX11_isOperator cX11_isOperator 1 (Option.some Jvm.ClassFile.FieldType.boolean)) ({ frames := 0, cells := 0, slots := 0, locals := 0 }) (va_Pc [.int p0] (PRE zs dC dI [] [] sz)) (va_Qi (fun (r : Int32) (_ : Unit) => r = (sX11_isOperator_r p0)) (fun _ t => POST dC dI [] [] (va_A [] sz) t) (va_A [] sz)) 0 0 (va_A [] sz) := by
  refine Met.ofW (cc := cX11_isOperator) (maxL := 1) (ret := (Option.some Jvm.ClassFile.FieldType.boolean)) (by decide) rfl ?_
  intro p e s m args below meth c s₁ B hml hv
  obtain ⟨rfl, hsz, hP, hK, hD0, hE⟩ := hv
  have hx := B.exec
  have hb := B.bytes
  have hr := B.returns
  have hts0 := atoms_spec (ws := wz yX11_isOperator cX11_isOperator 1 (Option.some Jvm.ClassFile.FieldType.boolean)) B.pre
  have hts : ∀ w ∈ gw, w.before _ s = true := fun w h => hts0 w (List.mem_cons_of_mem _ h)
  have hown : s.vm.findClass RX11 = some m.cls := findClass_of_methodNamed B.named
  have hlocks := B.notSynchronized
  subst hsz
  have hD := hD0.self (sz := s.heap.size)
  generalize hAe : va_A [] s.heap.size = A at hD hE ⊢
  have hA : ∀ q : Nat, s.heap.size ≤ q → A q := fun q h => by rw [← hAe]; exact Or.inr h
  have hS : va_S A s.heap s.heap [] := va_S.rf
  have hP : va_P (dC, dI) cls [] s.heap := hP
  have hl := lv_entry ([.int p0]) (n := 1) (Nat.le_of_ble_eq_true rfl)
  rw [lg_entry_eq]
  generalize (lg_sl ([.int p0]) ++ List.replicate (1 - (lg_sl ([.int p0])).length) Slot.unset).toArray = ls at hl ⊢
  have hl : lv_has ls 1 [(0, .int p0)] := hl
  refine lv_iload_n hx hb dX11_isOperator_0 rfl (lv_at hl 0 rfl) ?_
  refine lv_iconst (v := 1) hx hb dX11_isOperator_1 (by decide) ?_
  by_cases hc1 : p0 < 1
  · refine lv_icmp_lt (tgt := 15) hx hb dX11_isOperator_2 (by decide) (fun _ => ?_) (fun c => absurd hc1 c)
    refine lv_iconst (v := 0) hx hb dX11_isOperator_15 (by decide) ?_
    have e_sX11_isOperator_r : sX11_isOperator_r p0 = 0 := by unfold sX11_isOperator_r; rw [if_pos hc1]
    have hP9 : va_P (dC, dI) cls [] s.heap := by exact hP.sub [] rfl
    have hD9 : va_D A [] := by exact hD.sub [] (by decide) rfl
    have hK9 : va_K (dC, dI) cls [] s := hK.sub [] rfl
    refine W.widen (k := 0) (n := 0) (Nat.le_of_ble_eq_true rfl) (Nat.le_of_ble_eq_true rfl) ?_
    exact W.zret (v := 0) hx hb hr (by decide) (fun t ht hW => ⟨⟨0, (), rfl, e_sX11_isOperator_r.symm, ⟨by rw [ht]; exact hP9, va_K.moved hW.alike hK9, hD9⟩⟩, hS.F ht⟩) hS.2.2 dX11_isOperator_16
  · refine lv_icmp_lt (tgt := 15) hx hb dX11_isOperator_2 (by decide) (fun c => absurd c hc1) (fun _ => ?_)
    refine lv_iload_n hx hb dX11_isOperator_5 rfl (lv_at hl 0 rfl) ?_
    refine lv_bipush (v := 16) hx hb dX11_isOperator_6 (by decide) ?_
    by_cases hc2 : 16 < p0
    · refine lv_icmp_gt (tgt := 15) hx hb dX11_isOperator_8 (by decide) (fun _ => ?_) (fun c => absurd hc2 c)
      refine lv_iconst (v := 0) hx hb dX11_isOperator_15 (by decide) ?_
      have e_sX11_isOperator_r : sX11_isOperator_r p0 = 0 := by unfold sX11_isOperator_r; rw [if_neg hc1, if_pos hc2]
      have hP9 : va_P (dC, dI) cls [] s.heap := by exact hP.sub [] rfl
      have hD9 : va_D A [] := by exact hD.sub [] (by decide) rfl
      have hK9 : va_K (dC, dI) cls [] s := hK.sub [] rfl
      refine W.widen (k := 0) (n := 0) (Nat.le_of_ble_eq_true rfl) (Nat.le_of_ble_eq_true rfl) ?_
      exact W.zret (v := 0) hx hb hr (by decide) (fun t ht hW => ⟨⟨0, (), rfl, e_sX11_isOperator_r.symm, ⟨by rw [ht]; exact hP9, va_K.moved hW.alike hK9, hD9⟩⟩, hS.F ht⟩) hS.2.2 dX11_isOperator_16
    · refine lv_icmp_gt (tgt := 15) hx hb dX11_isOperator_8 (by decide) (fun c => absurd c hc2) (fun _ => ?_)
      refine lv_iconst (v := 1) hx hb dX11_isOperator_11 (by decide) ?_
      refine lv_goto (tgt := 16) hx hb dX11_isOperator_12 (by decide) ?_
      have e_sX11_isOperator_r : sX11_isOperator_r p0 = 1 := by unfold sX11_isOperator_r; rw [if_neg hc1, if_neg hc2]
      have hP9 : va_P (dC, dI) cls [] s.heap := by exact hP.sub [] rfl
      have hD9 : va_D A [] := by exact hD.sub [] (by decide) rfl
      have hK9 : va_K (dC, dI) cls [] s := hK.sub [] rfl
      refine W.widen (k := 0) (n := 0) (Nat.le_of_ble_eq_true rfl) (Nat.le_of_ble_eq_true rfl) ?_
      exact W.zret (v := 1) hx hb hr (by decide) (fun t ht hW => ⟨⟨1, (), rfl, e_sX11_isOperator_r.symm, ⟨by rw [ht]; exact hP9, va_K.moved hW.alike hK9, hD9⟩⟩, hS.F ht⟩) hS.2.2 dX11_isOperator_16
set_option maxHeartbeats 4000000 in
set_option maxRecDepth 100000 in
theorem kX11_needFunction {zs : Nat × Nat} (l : Launch) (dC : Nat → ClassId) (dI : Nat → Nat → Nat) (h0 : Nat) (w_flowsR : Nat) (w_endsR : Nat) (w_errorPlace : Int32) (w_tokensO : Nat) (w_readerO : Nat) (w_makerO : Nat) (w_passesO : Nat) (w_allocatorO : Nat) (w_machineO : Nat) (w_programO : Nat) (w_program_functions : Int32) (w_program_nameA : Nat) (w_program_namePlaceA : Nat) (w_program_parametersA : Nat) (w_program_variablesA : Nat) (w_program_fromA : Nat) (w_program_toA : Nat) (w_program_ops : Int32) (w_program_opA : Nat) (w_program_argumentA : Nat) (w_program_ticksA : Nat) (w_program_labels : Int32) (w_program_labelAtA : Nat) (w_spareO : Nat) (p0 : Int32) (sz : Nat) (hq1 : p0 < 0 → False) (hq2 : ¬ (p0 < 0) → ¬ (p0 < w_program_functions) → False) : Met l yX11_needFunction (wz yX11_needFunction cX11_needFunction 2 (Option.none : Option Jvm.ClassFile.FieldType)) ({ frames := 0, cells := 0, slots := 0, locals := 0 }) (va_Pc [.ref h0, .int p0] (PRE zs dC dI [(h0, .inr (11, [.ref w_tokensO, .ref w_readerO, .ref w_flowsR, .ref w_makerO, .ref w_passesO, .ref w_allocatorO, .ref w_machineO, .ref w_endsR, .ref w_programO, .ref w_spareO, .int w_errorPlace])), (w_programO, .inr (2, [.int w_program_functions, .ref w_program_nameA, .ref w_program_namePlaceA, .ref w_program_parametersA, .ref w_program_variablesA, .ref w_program_fromA, .ref w_program_toA, .int w_program_ops, .ref w_program_opA, .ref w_program_argumentA, .ref w_program_ticksA, .int w_program_labels, .ref w_program_labelAtA]))] [] sz)) (va_Qv (fun (_ : Unit) => True) (fun _ t => POST dC dI [(h0, .inr (11, [.ref w_tokensO, .ref w_readerO, .ref w_flowsR, .ref w_makerO, .ref w_passesO, .ref w_allocatorO, .ref w_machineO, .ref w_endsR, .ref w_programO, .ref w_spareO, .int w_errorPlace])), (w_programO, .inr (2, [.int w_program_functions, .ref w_program_nameA, .ref w_program_namePlaceA, .ref w_program_parametersA, .ref w_program_variablesA, .ref w_program_fromA, .ref w_program_toA, .int w_program_ops, .ref w_program_opA, .ref w_program_argumentA, .ref w_program_ticksA, .int w_program_labels, .ref w_program_labelAtA]))] [] (va_A [(h0, .inr (11, [.ref w_tokensO, .ref w_readerO, .ref w_flowsR, .ref w_makerO, .ref w_passesO, .ref w_allocatorO, .ref w_machineO, .ref w_endsR, .ref w_programO, .ref w_spareO, .int w_errorPlace])), (w_programO, .inr (2, [.int w_program_functions, .ref w_program_nameA, .ref w_program_namePlaceA, .ref w_program_parametersA, .ref w_program_variablesA, .ref w_program_fromA, .ref w_program_toA, .int w_program_ops, .ref w_program_opA, .ref w_program_argumentA, .ref w_program_ticksA, .int w_program_labels, .ref w_program_labelAtA]))] sz) t) (va_A [(h0, .inr (11, [.ref w_tokensO, .ref w_readerO, .ref w_flowsR, .ref w_makerO, .ref w_passesO, .ref w_allocatorO, .ref w_machineO, .ref w_endsR, .ref w_programO, .ref w_spareO, .int w_errorPlace])), (w_programO, .inr (2, [.int w_program_functions, .ref w_program_nameA, .ref w_program_namePlaceA, .ref w_program_parametersA, .ref w_program_variablesA, .ref w_program_fromA, .ref w_program_toA, .int w_program_ops, .ref w_program_opA, .ref w_program_argumentA, .ref w_program_ticksA, .int w_program_labels, .ref w_program_labelAtA]))] sz)) 0 0 (va_A [(h0, .inr (11, [.ref w_tokensO, .ref w_readerO, .ref w_flowsR, .ref w_makerO, .ref w_passesO, .ref w_allocatorO, .ref w_machineO, .ref w_endsR, .ref w_programO, .ref w_spareO, .int w_errorPlace])), (w_programO, .inr (2, [.int w_program_functions, .ref w_program_nameA, .ref w_program_namePlaceA, .ref w_program_parametersA, .ref w_program_variablesA, .ref w_program_fromA, .ref w_program_toA, .int w_program_ops, .ref w_program_opA, .ref w_program_argumentA, .ref w_program_ticksA, .int w_program_labels, .ref w_program_labelAtA]))] sz) := by
  refine Met.ofW (cc := cX11_needFunction) (maxL := 2) (ret := (Option.none : Option Jvm.ClassFile.FieldType)) (by decide) rfl ?_
  intro p e s m args below meth c s₁ B hml hv
  obtain ⟨rfl, hsz, hP, hK, hD0, hE⟩ := hv
  have hx := B.exec
  have hb := B.bytes
  have hr := B.returns
  have hts0 := atoms_spec (ws := wz yX11_needFunction cX11_needFunction 2 (Option.none : Option Jvm.ClassFile.FieldType)) B.pre
  have hts : ∀ w ∈ gw, w.before _ s = true := fun w h => hts0 w (List.mem_cons_of_mem _ h)
  have hown : s.vm.findClass RX11 = some m.cls := findClass_of_methodNamed B.named
  have hlocks := B.notSynchronized
  subst hsz
  have hD := hD0.self (sz := s.heap.size)
  generalize hAe : va_A [(h0, .inr (11, [.ref w_tokensO, .ref w_readerO, .ref w_flowsR, .ref w_makerO, .ref w_passesO, .ref w_allocatorO, .ref w_machineO, .ref w_endsR, .ref w_programO, .ref w_spareO, .int w_errorPlace])), (w_programO, .inr (2, [.int w_program_functions, .ref w_program_nameA, .ref w_program_namePlaceA, .ref w_program_parametersA, .ref w_program_variablesA, .ref w_program_fromA, .ref w_program_toA, .int w_program_ops, .ref w_program_opA, .ref w_program_argumentA, .ref w_program_ticksA, .int w_program_labels, .ref w_program_labelAtA]))] s.heap.size = A at hD hE ⊢
  have hA : ∀ q : Nat, s.heap.size ≤ q → A q := fun q h => by rw [← hAe]; exact Or.inr h
  have hS : va_S A s.heap s.heap [] := va_S.rf
  have hP : va_P (dC, dI) cls [(h0, .inr (11, [.ref w_tokensO, .ref w_readerO, .ref w_flowsR, .ref w_makerO, .ref w_passesO, .ref w_allocatorO, .ref w_machineO, .ref w_endsR, .ref w_programO, .ref w_spareO, .int w_errorPlace])), (w_programO, .inr (2, [.int w_program_functions, .ref w_program_nameA, .ref w_program_namePlaceA, .ref w_program_parametersA, .ref w_program_variablesA, .ref w_program_fromA, .ref w_program_toA, .int w_program_ops, .ref w_program_opA, .ref w_program_argumentA, .ref w_program_ticksA, .int w_program_labels, .ref w_program_labelAtA]))] s.heap := hP
  have hl := lv_entry ([.ref h0, .int p0]) (n := 2) (Nat.le_of_ble_eq_true rfl)
  rw [lg_entry_eq]
  generalize (lg_sl ([.ref h0, .int p0]) ++ List.replicate (2 - (lg_sl ([.ref h0, .int p0])).length) Slot.unset).toArray = ls at hl ⊢
  have hl : lv_has ls 2 [(0, .ref h0), (1, .int p0)] := hl
  refine lv_iload_n hx hb dX11_needFunction_0 rfl (lv_at hl 1 rfl) ?_
  by_cases hc1 : p0 < 0
  · refine lv_if_lt (tgt := 15) hx hb dX11_needFunction_1 (by decide) (fun _ => ?_) (fun c => absurd hc1 c)
    exact (hq1 hc1).elim
  · refine lv_if_lt (tgt := 15) hx hb dX11_needFunction_1 (by decide) (fun c => absurd c hc1) (fun _ => ?_)
    refine lv_iload_n hx hb dX11_needFunction_4 rfl (lv_at hl 1 rfl) ?_
    refine lv_aload_n hx hb dX11_needFunction_5 rfl (lv_at hl 0 rfl) ?_
    refine va_get (D := (dC, dI)) (ci := 11) (v := .ref w_programO) (C := RX11) (T := TX11) (N := 11) hx hb hts i_X11 hown hK hP 0 rfl rfl 8 (by decide) (hts _ qw110) (fun _ h9 => h9) rfl dX11_needFunction_6 ?_
    refine va_get (D := (dC, dI)) (ci := 2) (v := .int w_program_functions) (C := RX6) (T := TX6) (N := 13) hx hb hts i_X6 hown hK hP 1 rfl rfl 0 (by decide) (hts _ qw111) (fun _ h9 => h9) rfl dX11_needFunction_9 ?_
    by_cases hc2 : p0 < w_program_functions
    · refine lv_icmp_lt (tgt := 26) hx hb dX11_needFunction_12 (by decide) (fun _ => ?_) (fun c => absurd hc2 c)
      have hP9 : va_P (dC, dI) cls [(h0, .inr (11, [.ref w_tokensO, .ref w_readerO, .ref w_flowsR, .ref w_makerO, .ref w_passesO, .ref w_allocatorO, .ref w_machineO, .ref w_endsR, .ref w_programO, .ref w_spareO, .int w_errorPlace])), (w_programO, .inr (2, [.int w_program_functions, .ref w_program_nameA, .ref w_program_namePlaceA, .ref w_program_parametersA, .ref w_program_variablesA, .ref w_program_fromA, .ref w_program_toA, .int w_program_ops, .ref w_program_opA, .ref w_program_argumentA, .ref w_program_ticksA, .int w_program_labels, .ref w_program_labelAtA]))] s.heap := by exact hP.sub [0, 1] rfl
      have hD9 : va_D A [(h0, .inr (11, [.ref w_tokensO, .ref w_readerO, .ref w_flowsR, .ref w_makerO, .ref w_passesO, .ref w_allocatorO, .ref w_machineO, .ref w_endsR, .ref w_programO, .ref w_spareO, .int w_errorPlace])), (w_programO, .inr (2, [.int w_program_functions, .ref w_program_nameA, .ref w_program_namePlaceA, .ref w_program_parametersA, .ref w_program_variablesA, .ref w_program_fromA, .ref w_program_toA, .int w_program_ops, .ref w_program_opA, .ref w_program_argumentA, .ref w_program_ticksA, .int w_program_labels, .ref w_program_labelAtA]))] := by exact hD.sub [0, 1] (by decide) rfl
      have hK9 : va_K (dC, dI) cls [] s := hK.sub [] rfl
      refine W.widen (k := 0) (n := 0) (Nat.le_of_ble_eq_true rfl) (Nat.le_of_ble_eq_true rfl) ?_
      exact W.vret hx hb hr (fun t ht hW => ⟨⟨(), rfl, trivial, ⟨by rw [ht]; exact hP9, va_K.moved hW.alike hK9, hD9⟩⟩, hS.F ht⟩) hS.2.2 dX11_needFunction_26
    · refine lv_icmp_lt (tgt := 26) hx hb dX11_needFunction_12 (by decide) (fun c => absurd c hc2) (fun _ => ?_)
      exact (hq2 hc1 hc2).elim
set_option maxHeartbeats 4000000 in
set_option maxRecDepth 100000 in
theorem kX11_needPlace {zs : Nat × Nat} (l : Launch) (dC : Nat → ClassId) (dI : Nat → Nat → Nat) (h0 : Nat) (w_flowsR : Nat) (w_endsR : Nat) (w_errorPlace : Int32) (w_tokensO : Nat) (w_readerO : Nat) (w_makerO : Nat) (w_passesO : Nat) (w_allocatorO : Nat) (w_machineO : Nat) (w_programO : Nat) (w_spareO : Nat) (p0 : Int32) (p1 : Int32) (sz : Nat) (hq1 : p0 < 0 → False) (hq2 : ¬ (p0 < 0) → ¬ (p0 < p1) → False) : Met l yX11_needPlace (wz yX11_needPlace cX11_needPlace 3 (Option.none : Option Jvm.ClassFile.FieldType)) ({ frames := 0, cells := 0, slots := 0, locals := 0 }) (va_Pc [.ref h0, .int p0, .int p1] (PRE zs dC dI [(h0, .inr (11, [.ref w_tokensO, .ref w_readerO, .ref w_flowsR, .ref w_makerO, .ref w_passesO, .ref w_allocatorO, .ref w_machineO, .ref w_endsR, .ref w_programO, .ref w_spareO, .int w_errorPlace]))] [] sz)) (va_Qv (fun (_ : Unit) => True) (fun _ t => POST dC dI [(h0, .inr (11, [.ref w_tokensO, .ref w_readerO, .ref w_flowsR, .ref w_makerO, .ref w_passesO, .ref w_allocatorO, .ref w_machineO, .ref w_endsR, .ref w_programO, .ref w_spareO, .int w_errorPlace]))] [] (va_A [(h0, .inr (11, [.ref w_tokensO, .ref w_readerO, .ref w_flowsR, .ref w_makerO, .ref w_passesO, .ref w_allocatorO, .ref w_machineO, .ref w_endsR, .ref w_programO, .ref w_spareO, .int w_errorPlace]))] sz) t) (va_A [(h0, .inr (11, [.ref w_tokensO, .ref w_readerO, .ref w_flowsR, .ref w_makerO, .ref w_passesO, .ref w_allocatorO, .ref w_machineO, .ref w_endsR, .ref w_programO, .ref w_spareO, .int w_errorPlace]))] sz)) 0 0 (va_A [(h0, .inr (11, [.ref w_tokensO, .ref w_readerO, .ref w_flowsR, .ref w_makerO, .ref w_passesO, .ref w_allocatorO, .ref w_machineO, .ref w_endsR, .ref w_programO, .ref w_spareO, .int w_errorPlace]))] sz) := by
  refine Met.ofW (cc := cX11_needPlace) (maxL := 3) (ret := (Option.none : Option Jvm.ClassFile.FieldType)) (by decide) rfl ?_
  intro p e s m args below meth c s₁ B hml hv
  obtain ⟨rfl, hsz, hP, hK, hD0, hE⟩ := hv
  have hx := B.exec
  have hb := B.bytes
  have hr := B.returns
  have hts0 := atoms_spec (ws := wz yX11_needPlace cX11_needPlace 3 (Option.none : Option Jvm.ClassFile.FieldType)) B.pre
  have hts : ∀ w ∈ gw, w.before _ s = true := fun w h => hts0 w (List.mem_cons_of_mem _ h)
  have hown : s.vm.findClass RX11 = some m.cls := findClass_of_methodNamed B.named
  have hlocks := B.notSynchronized
  subst hsz
  have hD := hD0.self (sz := s.heap.size)
  generalize hAe : va_A [(h0, .inr (11, [.ref w_tokensO, .ref w_readerO, .ref w_flowsR, .ref w_makerO, .ref w_passesO, .ref w_allocatorO, .ref w_machineO, .ref w_endsR, .ref w_programO, .ref w_spareO, .int w_errorPlace]))] s.heap.size = A at hD hE ⊢
  have hA : ∀ q : Nat, s.heap.size ≤ q → A q := fun q h => by rw [← hAe]; exact Or.inr h
  have hS : va_S A s.heap s.heap [] := va_S.rf
  have hP : va_P (dC, dI) cls [(h0, .inr (11, [.ref w_tokensO, .ref w_readerO, .ref w_flowsR, .ref w_makerO, .ref w_passesO, .ref w_allocatorO, .ref w_machineO, .ref w_endsR, .ref w_programO, .ref w_spareO, .int w_errorPlace]))] s.heap := hP
  have hl := lv_entry ([.ref h0, .int p0, .int p1]) (n := 3) (Nat.le_of_ble_eq_true rfl)
  rw [lg_entry_eq]
  generalize (lg_sl ([.ref h0, .int p0, .int p1]) ++ List.replicate (3 - (lg_sl ([.ref h0, .int p0, .int p1])).length) Slot.unset).toArray = ls at hl ⊢
  have hl : lv_has ls 3 [(0, .ref h0), (1, .int p0), (2, .int p1)] := hl
  refine lv_iload_n hx hb dX11_needPlace_0 rfl (lv_at hl 1 rfl) ?_
  by_cases hc1 : p0 < 0
  · refine lv_if_lt (tgt := 9) hx hb dX11_needPlace_1 (by decide) (fun _ => ?_) (fun c => absurd hc1 c)
    exact (hq1 hc1).elim
  · refine lv_if_lt (tgt := 9) hx hb dX11_needPlace_1 (by decide) (fun c => absurd c hc1) (fun _ => ?_)
    refine lv_iload_n hx hb dX11_needPlace_4 rfl (lv_at hl 1 rfl) ?_
    refine lv_iload_n hx hb dX11_needPlace_5 rfl (lv_at hl 2 rfl) ?_
    by_cases hc2 : p0 < p1
    · refine lv_icmp_lt (tgt := 20) hx hb dX11_needPlace_6 (by decide) (fun _ => ?_) (fun c => absurd hc2 c)
      have hP9 : va_P (dC, dI) cls [(h0, .inr (11, [.ref w_tokensO, .ref w_readerO, .ref w_flowsR, .ref w_makerO, .ref w_passesO, .ref w_allocatorO, .ref w_machineO, .ref w_endsR, .ref w_programO, .ref w_spareO, .int w_errorPlace]))] s.heap := by exact hP.sub [0] rfl
      have hD9 : va_D A [(h0, .inr (11, [.ref w_tokensO, .ref w_readerO, .ref w_flowsR, .ref w_makerO, .ref w_passesO, .ref w_allocatorO, .ref w_machineO, .ref w_endsR, .ref w_programO, .ref w_spareO, .int w_errorPlace]))] := by exact hD.sub [0] (by decide) rfl
      have hK9 : va_K (dC, dI) cls [] s := hK.sub [] rfl
      refine W.widen (k := 0) (n := 0) (Nat.le_of_ble_eq_true rfl) (Nat.le_of_ble_eq_true rfl) ?_
      exact W.vret hx hb hr (fun t ht hW => ⟨⟨(), rfl, trivial, ⟨by rw [ht]; exact hP9, va_K.moved hW.alike hK9, hD9⟩⟩, hS.F ht⟩) hS.2.2 dX11_needPlace_20
    · refine lv_icmp_lt (tgt := 20) hx hb dX11_needPlace_6 (by decide) (fun c => absurd c hc2) (fun _ => ?_)
      exact (hq2 hc1 hc2).elim
set_option maxHeartbeats 4000000 in
set_option maxRecDepth 100000 in
theorem kX11_result {zs : Nat × Nat} (l : Launch) (dC : Nat → ClassId) (dI : Nat → Nat → Nat) (h0 : Nat) (w_flowsR : Nat) (w_endsR : Nat) (w_errorPlace : Int32) (w_tokensO : Nat) (w_readerO : Nat) (w_makerO : Nat) (w_passesO : Nat) (w_allocatorO : Nat) (w_machineO : Nat) (w_machine_outcome : Int32) (w_machine_result : Int32) (w_machine_steps : Int32) (w_machine_memoryA : Nat) (w_machine_programR : Nat) (w_machine_flowsR : Nat) (w_machine_allocatorR : Nat) (w_machine_toldA : Nat) (w_machine_isRunning : Int32) (w_machine_calls : Int32) (w_machine_functionA : Nat) (w_machine_atA : Nat) (w_machine_blockA : Nat) (w_machine_blockAheadA : Nat) (w_machine_argumentsA : Nat) (w_machine_cellsA : Nat) (w_machine_slotsA : Nat) (w_machine_slotRoom : Int32) (w_machine_waitingA : Nat) (w_machine_count : Int32) (w_programO : Nat) (w_spareO : Nat) (sz : Nat)  : Met l yX11_result (wz yX11_result cX11_result 1 (Option.some Jvm.ClassFile.FieldType.int)) ({ frames := 0, cells := 0, slots := 0, locals := 0 }) (va_Pc [.ref h0] (PRE zs dC dI [(h0, .inr (11, [.ref w_tokensO, .ref w_readerO, .ref w_flowsR, .ref w_makerO, .ref w_passesO, .ref w_allocatorO, .ref w_machineO, .ref w_endsR, .ref w_programO, .ref w_spareO, .int w_errorPlace])), (w_machineO, .inr (10, [.int w_machine_outcome, .int w_machine_result, .int w_machine_steps, .ref w_machine_memoryA, .ref w_machine_programR, .ref w_machine_flowsR, .ref w_machine_allocatorR, .ref w_machine_toldA, .int w_machine_isRunning, .int w_machine_calls, .ref w_machine_functionA, .ref w_machine_atA, .ref w_machine_blockA, .ref w_machine_blockAheadA, .ref w_machine_argumentsA, .ref w_machine_cellsA, .ref w_machine_slotsA, .int w_machine_slotRoom, .ref w_machine_waitingA, .int w_machine_count]))] [] sz)) (va_Qi (fun (r : Int32) (_ : Unit) => r = w_machine_result) (fun _ t => POST dC dI [(h0, .inr (11, [.ref w_tokensO, .ref w_readerO, .ref w_flowsR, .ref w_makerO, .ref w_passesO, .ref w_allocatorO, .ref w_machineO, .ref w_endsR, .ref w_programO, .ref w_spareO, .int w_errorPlace])), (w_machineO, .inr (10, [.int w_machine_outcome, .int w_machine_result, .int w_machine_steps, .ref w_machine_memoryA, .ref w_machine_programR, .ref w_machine_flowsR, .ref w_machine_allocatorR, .ref w_machine_toldA, .int w_machine_isRunning, .int w_machine_calls, .ref w_machine_functionA, .ref w_machine_atA, .ref w_machine_blockA, .ref w_machine_blockAheadA, .ref w_machine_argumentsA, .ref w_machine_cellsA, .ref w_machine_slotsA, .int w_machine_slotRoom, .ref w_machine_waitingA, .int w_machine_count]))] [] (va_A [(h0, .inr (11, [.ref w_tokensO, .ref w_readerO, .ref w_flowsR, .ref w_makerO, .ref w_passesO, .ref w_allocatorO, .ref w_machineO, .ref w_endsR, .ref w_programO, .ref w_spareO, .int w_errorPlace])), (w_machineO, .inr (10, [.int w_machine_outcome, .int w_machine_result, .int w_machine_steps, .ref w_machine_memoryA, .ref w_machine_programR, .ref w_machine_flowsR, .ref w_machine_allocatorR, .ref w_machine_toldA, .int w_machine_isRunning, .int w_machine_calls, .ref w_machine_functionA, .ref w_machine_atA, .ref w_machine_blockA, .ref w_machine_blockAheadA, .ref w_machine_argumentsA, .ref w_machine_cellsA, .ref w_machine_slotsA, .int w_machine_slotRoom, .ref w_machine_waitingA, .int w_machine_count]))] sz) t) (va_A [(h0, .inr (11, [.ref w_tokensO, .ref w_readerO, .ref w_flowsR, .ref w_makerO, .ref w_passesO, .ref w_allocatorO, .ref w_machineO, .ref w_endsR, .ref w_programO, .ref w_spareO, .int w_errorPlace])), (w_machineO, .inr (10, [.int w_machine_outcome, .int w_machine_result, .int w_machine_steps, .ref w_machine_memoryA, .ref w_machine_programR, .ref w_machine_flowsR, .ref w_machine_allocatorR, .ref w_machine_toldA, .int w_machine_isRunning, .int w_machine_calls, .ref w_machine_functionA, .ref w_machine_atA, .ref w_machine_blockA, .ref w_machine_blockAheadA, .ref w_machine_argumentsA, .ref w_machine_cellsA, .ref w_machine_slotsA, .int w_machine_slotRoom, .ref w_machine_waitingA, .int w_machine_count]))] sz)) 0 0 (va_A [(h0, .inr (11, [.ref w_tokensO, .ref w_readerO, .ref w_flowsR, .ref w_makerO, .ref w_passesO, .ref w_allocatorO, .ref w_machineO, .ref w_endsR, .ref w_programO, .ref w_spareO, .int w_errorPlace])), (w_machineO, .inr (10, [.int w_machine_outcome, .int w_machine_result, .int w_machine_steps, .ref w_machine_memoryA, .ref w_machine_programR, .ref w_machine_flowsR, .ref w_machine_allocatorR, .ref w_machine_toldA, .int w_machine_isRunning, .int w_machine_calls, .ref w_machine_functionA, .ref w_machine_atA, .ref w_machine_blockA, .ref w_machine_blockAheadA, .ref w_machine_argumentsA, .ref w_machine_cellsA, .ref w_machine_slotsA, .int w_machine_slotRoom, .ref w_machine_waitingA, .int w_machine_count]))] sz) := by
  refine Met.ofW (cc := cX11_result) (maxL := 1) (ret := (Option.some Jvm.ClassFile.FieldType.int)) (by decide) rfl ?_
  intro p e s m args below meth c s₁ B hml hv
  obtain ⟨rfl, hsz, hP, hK, hD0, hE⟩ := hv
  have hx := B.exec
  have hb := B.bytes
  have hr := B.returns
  have hts0 := atoms_spec (ws := wz yX11_result cX11_result 1 (Option.some Jvm.ClassFile.FieldType.int)) B.pre
  have hts : ∀ w ∈ gw, w.before _ s = true := fun w h => hts0 w (List.mem_cons_of_mem _ h)
  have hown : s.vm.findClass RX11 = some m.cls := findClass_of_methodNamed B.named
  have hlocks := B.notSynchronized
  subst hsz
  have hD := hD0.self (sz := s.heap.size)
  generalize hAe : va_A [(h0, .inr (11, [.ref w_tokensO, .ref w_readerO, .ref w_flowsR, .ref w_makerO, .ref w_passesO, .ref w_allocatorO, .ref w_machineO, .ref w_endsR, .ref w_programO, .ref w_spareO, .int w_errorPlace])), (w_machineO, .inr (10, [.int w_machine_outcome, .int w_machine_result, .int w_machine_steps, .ref w_machine_memoryA, .ref w_machine_programR, .ref w_machine_flowsR, .ref w_machine_allocatorR, .ref w_machine_toldA, .int w_machine_isRunning, .int w_machine_calls, .ref w_machine_functionA, .ref w_machine_atA, .ref w_machine_blockA, .ref w_machine_blockAheadA, .ref w_machine_argumentsA, .ref w_machine_cellsA, .ref w_machine_slotsA, .int w_machine_slotRoom, .ref w_machine_waitingA, .int w_machine_count]))] s.heap.size = A at hD hE ⊢
  have hA : ∀ q : Nat, s.heap.size ≤ q → A q := fun q h => by rw [← hAe]; exact Or.inr h
  have hS : va_S A s.heap s.heap [] := va_S.rf
  have hP : va_P (dC, dI) cls [(h0, .inr (11, [.ref w_tokensO, .ref w_readerO, .ref w_flowsR, .ref w_makerO, .ref w_passesO, .ref w_allocatorO, .ref w_machineO, .ref w_endsR, .ref w_programO, .ref w_spareO, .int w_errorPlace])), (w_machineO, .inr (10, [.int w_machine_outcome, .int w_machine_result, .int w_machine_steps, .ref w_machine_memoryA, .ref w_machine_programR, .ref w_machine_flowsR, .ref w_machine_allocatorR, .ref w_machine_toldA, .int w_machine_isRunning, .int w_machine_calls, .ref w_machine_functionA, .ref w_machine_atA, .ref w_machine_blockA, .ref w_machine_blockAheadA, .ref w_machine_argumentsA, .ref w_machine_cellsA, .ref w_machine_slotsA, .int w_machine_slotRoom, .ref w_machine_waitingA, .int w_machine_count]))] s.heap := hP
  have hl := lv_entry ([.ref h0]) (n := 1) (Nat.le_of_ble_eq_true rfl)
  rw [lg_entry_eq]
  generalize (lg_sl ([.ref h0]) ++ List.replicate (1 - (lg_sl ([.ref h0])).length) Slot.unset).toArray = ls at hl ⊢
  have hl : lv_has ls 1 [(0, .ref h0)] := hl
  refine lv_aload_n hx hb dX11_result_0 rfl (lv_at hl 0 rfl) ?_
  refine va_get (D := (dC, dI)) (ci := 11) (v := .ref w_machineO) (C := RX11) (T := TX11) (N := 11) hx hb hts i_X11 hown hK hP 0 rfl rfl 6 (by decide) (hts _ qw124) (fun _ h9 => h9) rfl dX11_result_1 ?_
  refine va_get (D := (dC, dI)) (ci := 10) (v := .int w_machine_result) (C := RX3) (T := TX3) (N := 20) hx hb hts i_X3 hown hK hP 1 rfl rfl 1 (by decide) (hts _ qw131) (fun _ h9 => h9) rfl dX11_result_4 ?_
  have hP9 : va_P (dC, dI) cls [(h0, .inr (11, [.ref w_tokensO, .ref w_readerO, .ref w_flowsR, .ref w_makerO, .ref w_passesO, .ref w_allocatorO, .ref w_machineO, .ref w_endsR, .ref w_programO, .ref w_spareO, .int w_errorPlace])), (w_machineO, .inr (10, [.int w_machine_outcome, .int w_machine_result, .int w_machine_steps, .ref w_machine_memoryA, .ref w_machine_programR, .ref w_machine_flowsR, .ref w_machine_allocatorR, .ref w_machine_toldA, .int w_machine_isRunning, .int w_machine_calls, .ref w_machine_functionA, .ref w_machine_atA, .ref w_machine_blockA, .ref w_machine_blockAheadA, .ref w_machine_argumentsA, .ref w_machine_cellsA, .ref w_machine_slotsA, .int w_machine_slotRoom, .ref w_machine_waitingA, .int w_machine_count]))] s.heap := by exact hP.sub [0, 1] rfl
  have hD9 : va_D A [(h0, .inr (11, [.ref w_tokensO, .ref w_readerO, .ref w_flowsR, .ref w_makerO, .ref w_passesO, .ref w_allocatorO, .ref w_machineO, .ref w_endsR, .ref w_programO, .ref w_spareO, .int w_errorPlace])), (w_machineO, .inr (10, [.int w_machine_outcome, .int w_machine_result, .int w_machine_steps, .ref w_machine_memoryA, .ref w_machine_programR, .ref w_machine_flowsR, .ref w_machine_allocatorR, .ref w_machine_toldA, .int w_machine_isRunning, .int w_machine_calls, .ref w_machine_functionA, .ref w_machine_atA, .ref w_machine_blockA, .ref w_machine_blockAheadA, .ref w_machine_argumentsA, .ref w_machine_cellsA, .ref w_machine_slotsA, .int w_machine_slotRoom, .ref w_machine_waitingA, .int w_machine_count]))] := by exact hD.sub [0, 1] (by decide) rfl
  have hK9 : va_K (dC, dI) cls [] s := hK.sub [] rfl
  refine W.widen (k := 0) (n := 0) (Nat.le_of_ble_eq_true rfl) (Nat.le_of_ble_eq_true rfl) ?_
  exact W.iret (v := w_machine_result) hx hb hr (fun t ht hW => ⟨⟨w_machine_result, (), rfl, rfl, ⟨by rw [ht]; exact hP9, va_K.moved hW.alike hK9, hD9⟩⟩, hS.F ht⟩) hS.2.2 dX11_result_7
def sX11_rounds_r (w_allocator_roundCountsF : Nat → Int32) (w_allocator_hasCode : Int32) (p0 : Int32) : Int32 := (if w_allocator_hasCode = 0 then 0 else (w_allocator_roundCountsF (Int32.toNatClampNeg p0)))
set_option maxHeartbeats 4000000 in
set_option maxRecDepth 100000 in
theorem kX11_rounds {zs : Nat × Nat} (l : Launch) (dC : Nat → ClassId) (dI : Nat → Nat → Nat) (h0 : Nat) (w_flowsR : Nat) (w_endsR : Nat) (w_errorPlace : Int32) (w_tokensO : Nat) (w_readerO : Nat) (w_makerO : Nat) (w_passesO : Nat) (w_allocatorO : Nat) (w_allocator_workR : Nat) (w_allocator_codeR : Nat) (w_allocator_slotCountsA : Nat) (w_allocator_unitedCountsA : Nat) (w_allocator_roundCountsA : Nat) (w_allocator_roundCountsC : ClassId) (w_allocator_roundCountsF : Nat → Int32) (w_allocator_hasCode : Int32) (w_allocator_graphR : Nat) (w_allocator_registers : Int32) (w_allocator_values : Int32) (w_allocator_homes : Int32) (w_allocator_slotCount : Int32) (w_allocator_unitedCount : Int32) (w_allocator_slotA : Nat) (w_allocator_numberA : Nat) (w_allocator_copyToA : Nat) (w_allocator_copyFromA : Nat) (w_allocator_lineOfA : Nat) (w_machineO : Nat) (w_programO : Nat) (w_program_functions : Int32) (w_program_nameA : Nat) (w_program_namePlaceA : Nat) (w_program_parametersA : Nat) (w_program_variablesA : Nat) (w_program_fromA : Nat) (w_program_toA : Nat) (w_program_ops : Int32) (w_program_opA : Nat) (w_program_argumentA : Nat) (w_program_ticksA : Nat) (w_program_labels : Int32) (w_program_labelAtA : Nat) (w_spareO : Nat) (p0 : Int32) (sz : Nat) (hq1 : (p0 < 0 → False)) (hq2 : (¬ (p0 < 0) → ¬ (p0 < w_program_functions) → False)) (hq3 : ¬ (w_allocator_hasCode = 0) → vp_in p0 6) : Met l yX11_rounds (wz yX11_rounds cX11_rounds 2 (Option.some Jvm.ClassFile.FieldType.int)) ({ frames := 1, cells := 0, slots := 0, locals := 21 }) (va_Pc [.ref h0, .int p0] (PRE zs dC dI [(h0, .inr (11, [.ref w_tokensO, .ref w_readerO, .ref w_flowsR, .ref w_makerO, .ref w_passesO, .ref w_allocatorO, .ref w_machineO, .ref w_endsR, .ref w_programO, .ref w_spareO, .int w_errorPlace])), (w_allocatorO, .inr (8, [.ref w_allocator_workR, .ref w_allocator_codeR, .ref w_allocator_slotCountsA, .ref w_allocator_unitedCountsA, .ref w_allocator_roundCountsA, .int w_allocator_hasCode, .ref w_allocator_graphR, .int w_allocator_registers, .int w_allocator_values, .int w_allocator_homes, .int w_allocator_slotCount, .int w_allocator_unitedCount, .ref w_allocator_slotA, .ref w_allocator_numberA, .ref w_allocator_copyToA, .ref w_allocator_copyFromA, .ref w_allocator_lineOfA])), (w_allocator_roundCountsA, .inl (w_allocator_roundCountsC, 6, .inl w_allocator_roundCountsF)), (w_programO, .inr (2, [.int w_program_functions, .ref w_program_nameA, .ref w_program_namePlaceA, .ref w_program_parametersA, .ref w_program_variablesA, .ref w_program_fromA, .ref w_program_toA, .int w_program_ops, .ref w_program_opA, .ref w_program_argumentA, .ref w_program_ticksA, .int w_program_labels, .ref w_program_labelAtA]))] [(w_allocator_roundCountsC, .int)] sz)) (va_Qi (fun (r : Int32) (_ : Unit) => r = (sX11_rounds_r w_allocator_roundCountsF w_allocator_hasCode p0)) (fun _ t => POST dC dI [(h0, .inr (11, [.ref w_tokensO, .ref w_readerO, .ref w_flowsR, .ref w_makerO, .ref w_passesO, .ref w_allocatorO, .ref w_machineO, .ref w_endsR, .ref w_programO, .ref w_spareO, .int w_errorPlace])), (w_allocatorO, .inr (8, [.ref w_allocator_workR, .ref w_allocator_codeR, .ref w_allocator_slotCountsA, .ref w_allocator_unitedCountsA, .ref w_allocator_roundCountsA, .int w_allocator_hasCode, .ref w_allocator_graphR, .int w_allocator_registers, .int w_allocator_values, .int w_allocator_homes, .int w_allocator_slotCount, .int w_allocator_unitedCount, .ref w_allocator_slotA, .ref w_allocator_numberA, .ref w_allocator_copyToA, .ref w_allocator_copyFromA, .ref w_allocator_lineOfA])), (w_allocator_roundCountsA, .inl (w_allocator_roundCountsC, 6, .inl w_allocator_roundCountsF)), (w_programO, .inr (2, [.int w_program_functions, .ref w_program_nameA, .ref w_program_namePlaceA, .ref w_program_parametersA, .ref w_program_variablesA, .ref w_program_fromA, .ref w_program_toA, .int w_program_ops, .ref w_program_opA, .ref w_program_argumentA, .ref w_program_ticksA, .int w_program_labels, .ref w_program_labelAtA]))] [(w_allocator_roundCountsC, .int)] (va_A [(h0, .inr (11, [.ref w_tokensO, .ref w_readerO, .ref w_flowsR, .ref w_makerO, .ref w_passesO, .ref w_allocatorO, .ref w_machineO, .ref w_endsR, .ref w_programO, .ref w_spareO, .int w_errorPlace])), (w_allocatorO, .inr (8, [.ref w_allocator_workR, .ref w_allocator_codeR, .ref w_allocator_slotCountsA, .ref w_allocator_unitedCountsA, .ref w_allocator_roundCountsA, .int w_allocator_hasCode, .ref w_allocator_graphR, .int w_allocator_registers, .int w_allocator_values, .int w_allocator_homes, .int w_allocator_slotCount, .int w_allocator_unitedCount, .ref w_allocator_slotA, .ref w_allocator_numberA, .ref w_allocator_copyToA, .ref w_allocator_copyFromA, .ref w_allocator_lineOfA])), (w_allocator_roundCountsA, .inl (w_allocator_roundCountsC, 6, .inl w_allocator_roundCountsF)), (w_programO, .inr (2, [.int w_program_functions, .ref w_program_nameA, .ref w_program_namePlaceA, .ref w_program_parametersA, .ref w_program_variablesA, .ref w_program_fromA, .ref w_program_toA, .int w_program_ops, .ref w_program_opA, .ref w_program_argumentA, .ref w_program_ticksA, .int w_program_labels, .ref w_program_labelAtA]))] sz) t) (va_A [(h0, .inr (11, [.ref w_tokensO, .ref w_readerO, .ref w_flowsR, .ref w_makerO, .ref w_passesO, .ref w_allocatorO, .ref w_machineO, .ref w_endsR, .ref w_programO, .ref w_spareO, .int w_errorPlace])), (w_allocatorO, .inr (8, [.ref w_allocator_workR, .ref w_allocator_codeR, .ref w_allocator_slotCountsA, .ref w_allocator_unitedCountsA, .ref w_allocator_roundCountsA, .int w_allocator_hasCode, .ref w_allocator_graphR, .int w_allocator_registers, .int w_allocator_values, .int w_allocator_homes, .int w_allocator_slotCount, .int w_allocator_unitedCount, .ref w_allocator_slotA, .ref w_allocator_numberA, .ref w_allocator_copyToA, .ref w_allocator_copyFromA, .ref w_allocator_lineOfA])), (w_allocator_roundCountsA, .inl (w_allocator_roundCountsC, 6, .inl w_allocator_roundCountsF)), (w_programO, .inr (2, [.int w_program_functions, .ref w_program_nameA, .ref w_program_namePlaceA, .ref w_program_parametersA, .ref w_program_variablesA, .ref w_program_fromA, .ref w_program_toA, .int w_program_ops, .ref w_program_opA, .ref w_program_argumentA, .ref w_program_ticksA, .int w_program_labels, .ref w_program_labelAtA]))] sz)) 0 0 (va_A [(h0, .inr (11, [.ref w_tokensO, .ref w_readerO, .ref w_flowsR, .ref w_makerO, .ref w_passesO, .ref w_allocatorO, .ref w_machineO, .ref w_endsR, .ref w_programO, .ref w_spareO, .int w_errorPlace])), (w_allocatorO, .inr (8, [.ref w_allocator_workR, .ref w_allocator_codeR, .ref w_allocator_slotCountsA, .ref w_allocator_unitedCountsA, .ref w_allocator_roundCountsA, .int w_allocator_hasCode, .ref w_allocator_graphR, .int w_allocator_registers, .int w_allocator_values, .int w_allocator_homes, .int w_allocator_slotCount, .int w_allocator_unitedCount, .ref w_allocator_slotA, .ref w_allocator_numberA, .ref w_allocator_copyToA, .ref w_allocator_copyFromA, .ref w_allocator_lineOfA])), (w_allocator_roundCountsA, .inl (w_allocator_roundCountsC, 6, .inl w_allocator_roundCountsF)), (w_programO, .inr (2, [.int w_program_functions, .ref w_program_nameA, .ref w_program_namePlaceA, .ref w_program_parametersA, .ref w_program_variablesA, .ref w_program_fromA, .ref w_program_toA, .int w_program_ops, .ref w_program_opA, .ref w_program_argumentA, .ref w_program_ticksA, .int w_program_labels, .ref w_program_labelAtA]))] sz) := by
  refine Met.ofW (cc := cX11_rounds) (maxL := 2) (ret := (Option.some Jvm.ClassFile.FieldType.int)) (by decide) rfl ?_
  intro p e s m args below meth c s₁ B hml hv
  obtain ⟨rfl, hsz, hP, hK, hD0, hE⟩ := hv
  have hx := B.exec
  have hb := B.bytes
  have hr := B.returns
  have hts0 := atoms_spec (ws := wz yX11_rounds cX11_rounds 2 (Option.some Jvm.ClassFile.FieldType.int)) B.pre
  have hts : ∀ w ∈ gw, w.before _ s = true := fun w h => hts0 w (List.mem_cons_of_mem _ h)
  have hown : s.vm.findClass RX11 = some m.cls := findClass_of_methodNamed B.named
  have hlocks := B.notSynchronized
  subst hsz
  have hD := hD0.self (sz := s.heap.size)
  generalize hAe : va_A [(h0, .inr (11, [.ref w_tokensO, .ref w_readerO, .ref w_flowsR, .ref w_makerO, .ref w_passesO, .ref w_allocatorO, .ref w_machineO, .ref w_endsR, .ref w_programO, .ref w_spareO, .int w_errorPlace])), (w_allocatorO, .inr (8, [.ref w_allocator_workR, .ref w_allocator_codeR, .ref w_allocator_slotCountsA, .ref w_allocator_unitedCountsA, .ref w_allocator_roundCountsA, .int w_allocator_hasCode, .ref w_allocator_graphR, .int w_allocator_registers, .int w_allocator_values, .int w_allocator_homes, .int w_allocator_slotCount, .int w_allocator_unitedCount, .ref w_allocator_slotA, .ref w_allocator_numberA, .ref w_allocator_copyToA, .ref w_allocator_copyFromA, .ref w_allocator_lineOfA])), (w_allocator_roundCountsA, .inl (w_allocator_roundCountsC, 6, .inl w_allocator_roundCountsF)), (w_programO, .inr (2, [.int w_program_functions, .ref w_program_nameA, .ref w_program_namePlaceA, .ref w_program_parametersA, .ref w_program_variablesA, .ref w_program_fromA, .ref w_program_toA, .int w_program_ops, .ref w_program_opA, .ref w_program_argumentA, .ref w_program_ticksA, .int w_program_labels, .ref w_program_labelAtA]))] s.heap.size = A at hD hE ⊢
  have hA : ∀ q : Nat, s.heap.size ≤ q → A q := fun q h => by rw [← hAe]; exact Or.inr h
  have hS : va_S A s.heap s.heap [] := va_S.rf
  have hP : va_P (dC, dI) cls [(h0, .inr (11, [.ref w_tokensO, .ref w_readerO, .ref w_flowsR, .ref w_makerO, .ref w_passesO, .ref w_allocatorO, .ref w_machineO, .ref w_endsR, .ref w_programO, .ref w_spareO, .int w_errorPlace])), (w_allocatorO, .inr (8, [.ref w_allocator_workR, .ref w_allocator_codeR, .ref w_allocator_slotCountsA, .ref w_allocator_unitedCountsA, .ref w_allocator_roundCountsA, .int w_allocator_hasCode, .ref w_allocator_graphR, .int w_allocator_registers, .int w_allocator_values, .int w_allocator_homes, .int w_allocator_slotCount, .int w_allocator_unitedCount, .ref w_allocator_slotA, .ref w_allocator_numberA, .ref w_allocator_copyToA, .ref w_allocator_copyFromA, .ref w_allocator_lineOfA])), (w_allocator_roundCountsA, .inl (w_allocator_roundCountsC, 6, .inl w_allocator_roundCountsF)), (w_programO, .inr (2, [.int w_program_functions, .ref w_program_nameA, .ref w_program_namePlaceA, .ref w_program_parametersA, .ref w_program_variablesA, .ref w_program_fromA, .ref w_program_toA, .int w_program_ops, .ref w_program_opA, .ref w_program_argumentA, .ref w_program_ticksA, .int w_program_labels, .ref w_program_labelAtA]))] s.heap := hP
  have hl := lv_entry ([.ref h0, .int p0]) (n := 2) (Nat.le_of_ble_eq_true rfl)
  rw [lg_entry_eq]
  generalize (lg_sl ([.ref h0, .int p0]) ++ List.replicate (2 - (lg_sl ([.ref h0, .int p0])).length) Slot.unset).toArray = ls at hl ⊢
  have hl : lv_has ls 2 [(0, .ref h0), (1, .int p0)] := hl
  refine lv_aload_n hx hb dX11_rounds_0 rfl (lv_at hl 0 rfl) ?_
  refine lv_iload_n hx hb dX11_rounds_1 rfl (lv_at hl 1 rfl) ?_
  have hPc := hP.sub (ws' := [(h0, .inr (11, [.ref w_tokensO, .ref w_readerO, .ref w_flowsR, .ref w_makerO, .ref w_passesO, .ref w_allocatorO, .ref w_machineO, .ref w_endsR, .ref w_programO, .ref w_spareO, .int w_errorPlace])), (w_programO, .inr (2, [.int w_program_functions, .ref w_program_nameA, .ref w_program_namePlaceA, .ref w_program_parametersA, .ref w_program_variablesA, .ref w_program_fromA, .ref w_program_toA, .int w_program_ops, .ref w_program_opA, .ref w_program_argumentA, .ref w_program_ticksA, .int w_program_labels, .ref w_program_labelAtA]))]) [0, 3] rfl
  have hDc := hD.sub (ws' := [(h0, .inr (11, [.ref w_tokensO, .ref w_readerO, .ref w_flowsR, .ref w_makerO, .ref w_passesO, .ref w_allocatorO, .ref w_machineO, .ref w_endsR, .ref w_programO, .ref w_spareO, .int w_errorPlace])), (w_programO, .inr (2, [.int w_program_functions, .ref w_program_nameA, .ref w_program_namePlaceA, .ref w_program_parametersA, .ref w_program_variablesA, .ref w_program_fromA, .ref w_program_toA, .int w_program_ops, .ref w_program_opA, .ref w_program_argumentA, .ref w_program_ticksA, .int w_program_labels, .ref w_program_labelAtA]))]) [0, 3] (by decide) rfl
  have hKc := hK.sub (tys' := []) [] rfl
  have hFc := va_free (wc := [(h0, .inr (11, [.ref w_tokensO, .ref w_readerO, .ref w_flowsR, .ref w_makerO, .ref w_passesO, .ref w_allocatorO, .ref w_machineO, .ref w_endsR, .ref w_programO, .ref w_spareO, .int w_errorPlace])), (w_programO, .inr (2, [.int w_program_functions, .ref w_program_nameA, .ref w_program_namePlaceA, .ref w_program_parametersA, .ref w_program_variablesA, .ref w_program_fromA, .ref w_program_toA, .int w_program_ops, .ref w_program_opA, .ref w_program_argumentA, .ref w_program_ticksA, .int w_program_labels, .ref w_program_labelAtA]))]) hD hS hA [0, 3] rfl
  refine va_callv (va_runV (As := [.int p0]) (rest := []) ⟨hx, hb, hml, hown, hts⟩ (kX11_needFunction l dC dI (h0 := h0) (w_flowsR := w_flowsR) (w_endsR := w_endsR) (w_errorPlace := w_errorPlace) (w_tokensO := w_tokensO) (w_readerO := w_readerO) (w_makerO := w_makerO) (w_passesO := w_passesO) (w_allocatorO := w_allocatorO) (w_machineO := w_machineO) (w_programO := w_programO) (w_program_functions := w_program_functions) (w_program_nameA := w_program_nameA) (w_program_namePlaceA := w_program_namePlaceA) (w_program_parametersA := w_program_parametersA) (w_program_variablesA := w_program_variablesA) (w_program_fromA := w_program_fromA) (w_program_toA := w_program_toA) (w_program_ops := w_program_ops) (w_program_opA := w_program_opA) (w_program_argumentA := w_program_argumentA) (w_program_ticksA := w_program_ticksA) (w_program_labels := w_program_labels) (w_program_labelAtA := w_program_labelAtA) (w_spareO := w_spareO) (p0 := p0) (sz := _) (hq1 := (hq1)) (hq2 := (hq2))) (cwV 1 hts (gi_V qw117 qw118 qw119 qw120 (gi_z qw116)) rfl rfl rfl (by decide +kernel) ⟨Nat.le_of_ble_eq_true rfl, Nat.le_of_ble_eq_true rfl⟩) ⟨PRE.blind, va_recv hKc hPc (ci := 11) (q0 := 0) rfl rfl, PRE.of hE hS hFc hPc hKc hDc⟩ rfl rfl hl.1 rfl (lv_room (Nat.le_of_ble_eq_true rfl)) dX11_rounds_2 ⟨Nat.le_of_ble_eq_true rfl, Nat.le_of_ble_eq_true rfl⟩) hS (fun q _ h => hFc q h) hFc (fun u t H locs ht hvm hw hB hz1 hk1 hS => ?_)
  obtain ⟨hP, hD, hK⟩ := JOIN (wr := [(w_allocatorO, .inr (8, [.ref w_allocator_workR, .ref w_allocator_codeR, .ref w_allocator_slotCountsA, .ref w_allocator_unitedCountsA, .ref w_allocator_roundCountsA, .int w_allocator_hasCode, .ref w_allocator_graphR, .int w_allocator_registers, .int w_allocator_values, .int w_allocator_homes, .int w_allocator_slotCount, .int w_allocator_unitedCount, .ref w_allocator_slotA, .ref w_allocator_numberA, .ref w_allocator_copyToA, .ref w_allocator_copyFromA, .ref w_allocator_lineOfA])), (w_allocator_roundCountsA, .inl (w_allocator_roundCountsC, 6, .inl w_allocator_roundCountsF))]) hP hD hK [0, 3] [1, 2] [0] rfl rfl (by decide) (by decide) rfl hk1 hFc ht hvm hB
  have hP : va_P (dC, dI) cls [(w_allocatorO, .inr (8, [.ref w_allocator_workR, .ref w_allocator_codeR, .ref w_allocator_slotCountsA, .ref w_allocator_unitedCountsA, .ref w_allocator_roundCountsA, .int w_allocator_hasCode, .ref w_allocator_graphR, .int w_allocator_registers, .int w_allocator_values, .int w_allocator_homes, .int w_allocator_slotCount, .int w_allocator_unitedCount, .ref w_allocator_slotA, .ref w_allocator_numberA, .ref w_allocator_copyToA, .ref w_allocator_copyFromA, .ref w_allocator_lineOfA])), (w_allocator_roundCountsA, .inl (w_allocator_roundCountsC, 6, .inl w_allocator_roundCountsF)), (h0, .inr (11, [.ref w_tokensO, .ref w_readerO, .ref w_flowsR, .ref w_makerO, .ref w_passesO, .ref w_allocatorO, .ref w_machineO, .ref w_endsR, .ref w_programO, .ref w_spareO, .int w_errorPlace])), (w_programO, .inr (2, [.int w_program_functions, .ref w_program_nameA, .ref w_program_namePlaceA, .ref w_program_parametersA, .ref w_program_variablesA, .ref w_program_fromA, .ref w_program_toA, .int w_program_ops, .ref w_program_opA, .ref w_program_argumentA, .ref w_program_ticksA, .int w_program_labels, .ref w_program_labelAtA]))] H := hP
  have hD : va_D A [(w_allocatorO, .inr (8, [.ref w_allocator_workR, .ref w_allocator_codeR, .ref w_allocator_slotCountsA, .ref w_allocator_unitedCountsA, .ref w_allocator_roundCountsA, .int w_allocator_hasCode, .ref w_allocator_graphR, .int w_allocator_registers, .int w_allocator_values, .int w_allocator_homes, .int w_allocator_slotCount, .int w_allocator_unitedCount, .ref w_allocator_slotA, .ref w_allocator_numberA, .ref w_allocator_copyToA, .ref w_allocator_copyFromA, .ref w_allocator_lineOfA])), (w_allocator_roundCountsA, .inl (w_allocator_roundCountsC, 6, .inl w_allocator_roundCountsF)), (h0, .inr (11, [.ref w_tokensO, .ref w_readerO, .ref w_flowsR, .ref w_makerO, .ref w_passesO, .ref w_allocatorO, .ref w_machineO, .ref w_endsR, .ref w_programO, .ref w_spareO, .int w_errorPlace])), (w_programO, .inr (2, [.int w_program_functions, .ref w_program_nameA, .ref w_program_namePlaceA, .ref w_program_parametersA, .ref w_program_variablesA, .ref w_program_fromA, .ref w_program_toA, .int w_program_ops, .ref w_program_opA, .ref w_program_argumentA, .ref w_program_ticksA, .int w_program_labels, .ref w_program_labelAtA]))] := hD
  have hK : va_K (dC, dI) cls [(w_allocator_roundCountsC, .int)] s := hK
  refine W.widen (k := 0) (n := 0) (Nat.le_of_ble_eq_true rfl) (Nat.le_of_ble_eq_true rfl) ?_
  refine lv_aload_n hx hb dX11_rounds_5 rfl (lv_at hl 0 rfl) ?_
  refine va_get (D := (dC, dI)) (ci := 11) (v := .ref w_allocatorO) (C := RX11) (T := TX11) (N := 11) hx hb hts i_X11 hown hK hP 2 rfl rfl 5 (by decide) (hts _ qw112) (fun _ h9 => h9) rfl dX11_rounds_6 ?_
  refine va_get (D := (dC, dI)) (ci := 8) (v := .int w_allocator_hasCode) (C := RX0) (T := TX0) (N := 17) hx hb hts i_X0 hown hK hP 0 rfl rfl 5 (by decide) (hts _ qw121) (fun _ h9 => h9) rfl dX11_rounds_9 ?_
  by_cases hc1 : w_allocator_hasCode = 0
  · refine lv_if_eq (tgt := 27) hx hb dX11_rounds_12 (by decide) (fun _ => ?_) (fun c => absurd hc1 c)
    refine lv_iconst (v := 0) hx hb dX11_rounds_27 (by decide) ?_
    have e_sX11_rounds_r : sX11_rounds_r w_allocator_roundCountsF w_allocator_hasCode p0 = 0 := by unfold sX11_rounds_r; rw [if_pos hc1]
    have hP9 : va_P (dC, dI) cls [(h0, .inr (11, [.ref w_tokensO, .ref w_readerO, .ref w_flowsR, .ref w_makerO, .ref w_passesO, .ref w_allocatorO, .ref w_machineO, .ref w_endsR, .ref w_programO, .ref w_spareO, .int w_errorPlace])), (w_allocatorO, .inr (8, [.ref w_allocator_workR, .ref w_allocator_codeR, .ref w_allocator_slotCountsA, .ref w_allocator_unitedCountsA, .ref w_allocator_roundCountsA, .int w_allocator_hasCode, .ref w_allocator_graphR, .int w_allocator_registers, .int w_allocator_values, .int w_allocator_homes, .int w_allocator_slotCount, .int w_allocator_unitedCount, .ref w_allocator_slotA, .ref w_allocator_numberA, .ref w_allocator_copyToA, .ref w_allocator_copyFromA, .ref w_allocator_lineOfA])), (w_allocator_roundCountsA, .inl (w_allocator_roundCountsC, 6, .inl w_allocator_roundCountsF)), (w_programO, .inr (2, [.int w_program_functions, .ref w_program_nameA, .ref w_program_namePlaceA, .ref w_program_parametersA, .ref w_program_variablesA, .ref w_program_fromA, .ref w_program_toA, .int w_program_ops, .ref w_program_opA, .ref w_program_argumentA, .ref w_program_ticksA, .int w_program_labels, .ref w_program_labelAtA]))] H := by exact hP.sub [2, 0, 1, 3] rfl
    have hD9 : va_D A [(h0, .inr (11, [.ref w_tokensO, .ref w_readerO, .ref w_flowsR, .ref w_makerO, .ref w_passesO, .ref w_allocatorO, .ref w_machineO, .ref w_endsR, .ref w_programO, .ref w_spareO, .int w_errorPlace])), (w_allocatorO, .inr (8, [.ref w_allocator_workR, .ref w_allocator_codeR, .ref w_allocator_slotCountsA, .ref w_allocator_unitedCountsA, .ref w_allocator_roundCountsA, .int w_allocator_hasCode, .ref w_allocator_graphR, .int w_allocator_registers, .int w_allocator_values, .int w_allocator_homes, .int w_allocator_slotCount, .int w_allocator_unitedCount, .ref w_allocator_slotA, .ref w_allocator_numberA, .ref w_allocator_copyToA, .ref w_allocator_copyFromA, .ref w_allocator_lineOfA])), (w_allocator_roundCountsA, .inl (w_allocator_roundCountsC, 6, .inl w_allocator_roundCountsF)), (w_programO, .inr (2, [.int w_program_functions, .ref w_program_nameA, .ref w_program_namePlaceA, .ref w_program_parametersA, .ref w_program_variablesA, .ref w_program_fromA, .ref w_program_toA, .int w_program_ops, .ref w_program_opA, .ref w_program_argumentA, .ref w_program_ticksA, .int w_program_labels, .ref w_program_labelAtA]))] := by exact hD.sub [2, 0, 1, 3] (by decide) rfl
    have hK9 : va_K (dC, dI) cls [(w_allocator_roundCountsC, .int)] s := hK.sub [0] rfl
    refine W.widen (k := 0) (n := 0) (Nat.le_of_ble_eq_true rfl) (Nat.le_of_ble_eq_true rfl) ?_
    exact W.iret (v := 0) hx hb hr (fun t ht hW => ⟨⟨0, (), rfl, e_sX11_rounds_r.symm, ⟨by rw [ht]; exact hP9, va_K.moved hW.alike hK9, hD9⟩⟩, hS.F ht⟩) hS.2.2 dX11_rounds_28
  · refine lv_if_eq (tgt := 27) hx hb dX11_rounds_12 (by decide) (fun c => absurd c hc1) (fun _ => ?_)
    refine lv_aload_n hx hb dX11_rounds_15 rfl (lv_at hl 0 rfl) ?_
    refine va_get (D := (dC, dI)) (ci := 11) (v := .ref w_allocatorO) (C := RX11) (T := TX11) (N := 11) hx hb hts i_X11 hown hK hP 2 rfl rfl 5 (by decide) (hts _ qw112) (fun _ h9 => h9) rfl dX11_rounds_16 ?_
    refine va_get (D := (dC, dI)) (ci := 8) (v := .ref w_allocator_roundCountsA) (C := RX0) (T := TX0) (N := 17) hx hb hts i_X0 hown hK hP 0 rfl rfl 4 (by decide) (hts _ qw187) (fun _ h9 => h9) rfl dX11_rounds_19 ?_
    refine lv_iload_n hx hb dX11_rounds_22 rfl (lv_at hl 1 rfl) ?_
    refine va_iald hx hb hK hP 1 0 rfl rfl (hq3 hc1) dX11_rounds_23 ?_
    refine lv_goto (tgt := 28) hx hb dX11_rounds_24 (by decide) ?_
    have e_sX11_rounds_r : sX11_rounds_r w_allocator_roundCountsF w_allocator_hasCode p0 = (w_allocator_roundCountsF (Int32.toNatClampNeg p0)) := by unfold sX11_rounds_r; rw [if_neg hc1]
    have hP9 : va_P (dC, dI) cls [(h0, .inr (11, [.ref w_tokensO, .ref w_readerO, .ref w_flowsR, .ref w_makerO, .ref w_passesO, .ref w_allocatorO, .ref w_machineO, .ref w_endsR, .ref w_programO, .ref w_spareO, .int w_errorPlace])), (w_allocatorO, .inr (8, [.ref w_allocator_workR, .ref w_allocator_codeR, .ref w_allocator_slotCountsA, .ref w_allocator_unitedCountsA, .ref w_allocator_roundCountsA, .int w_allocator_hasCode, .ref w_allocator_graphR, .int w_allocator_registers, .int w_allocator_values, .int w_allocator_homes, .int w_allocator_slotCount, .int w_allocator_unitedCount, .ref w_allocator_slotA, .ref w_allocator_numberA, .ref w_allocator_copyToA, .ref w_allocator_copyFromA, .ref w_allocator_lineOfA])), (w_allocator_roundCountsA, .inl (w_allocator_roundCountsC, 6, .inl w_allocator_roundCountsF)), (w_programO, .inr (2, [.int w_program_functions, .ref w_program_nameA, .ref w_program_namePlaceA, .ref w_program_parametersA, .ref w_program_variablesA, .ref w_program_fromA, .ref w_program_toA, .int w_program_ops, .ref w_program_opA, .ref w_program_argumentA, .ref w_program_ticksA, .int w_program_labels, .ref w_program_labelAtA]))] H := by exact hP.sub [2, 0, 1, 3] rfl
    have hD9 : va_D A [(h0, .inr (11, [.ref w_tokensO, .ref w_readerO, .ref w_flowsR, .ref w_makerO, .ref w_passesO, .ref w_allocatorO, .ref w_machineO, .ref w_endsR, .ref w_programO, .ref w_spareO, .int w_errorPlace])), (w_allocatorO, .inr (8, [.ref w_allocator_workR, .ref w_allocator_codeR, .ref w_allocator_slotCountsA, .ref w_allocator_unitedCountsA, .ref w_allocator_roundCountsA, .int w_allocator_hasCode, .ref w_allocator_graphR, .int w_allocator_registers, .int w_allocator_values, .int w_allocator_homes, .int w_allocator_slotCount, .int w_allocator_unitedCount, .ref w_allocator_slotA, .ref w_allocator_numberA, .ref w_allocator_copyToA, .ref w_allocator_copyFromA, .ref w_allocator_lineOfA])), (w_allocator_roundCountsA, .inl (w_allocator_roundCountsC, 6, .inl w_allocator_roundCountsF)), (w_programO, .inr (2, [.int w_program_functions, .ref w_program_nameA, .ref w_program_namePlaceA, .ref w_program_parametersA, .ref w_program_variablesA, .ref w_program_fromA, .ref w_program_toA, .int w_program_ops, .ref w_program_opA, .ref w_program_argumentA, .ref w_program_ticksA, .int w_program_labels, .ref w_program_labelAtA]))] := by exact hD.sub [2, 0, 1, 3] (by decide) rfl
    have hK9 : va_K (dC, dI) cls [(w_allocator_roundCountsC, .int)] s := hK.sub [0] rfl
    refine W.widen (k := 0) (n := 0) (Nat.le_of_ble_eq_true rfl) (Nat.le_of_ble_eq_true rfl) ?_
    exact W.iret (v := (w_allocator_roundCountsF (Int32.toNatClampNeg p0))) hx hb hr (fun t ht hW => ⟨⟨(w_allocator_roundCountsF (Int32.toNatClampNeg p0)), (), rfl, e_sX11_rounds_r.symm, ⟨by rw [ht]; exact hP9, va_K.moved hW.alike hK9, hD9⟩⟩, hS.F ht⟩) hS.2.2 dX11_rounds_28
def sX11_slots_r (w_allocator_slotCountsF : Nat → Int32) (w_allocator_hasCode : Int32) (p0 : Int32) : Int32 := (if w_allocator_hasCode = 0 then 0 else (w_allocator_slotCountsF (Int32.toNatClampNeg p0)))
set_option maxHeartbeats 4000000 in
set_option maxRecDepth 100000 in
theorem kX11_slots {zs : Nat × Nat} (l : Launch) (dC : Nat → ClassId) (dI : Nat → Nat → Nat) (h0 : Nat) (w_flowsR : Nat) (w_endsR : Nat) (w_errorPlace : Int32) (w_tokensO : Nat) (w_readerO : Nat) (w_makerO : Nat) (w_passesO : Nat) (w_allocatorO : Nat) (w_allocator_workR : Nat) (w_allocator_codeR : Nat) (w_allocator_slotCountsA : Nat) (w_allocator_slotCountsC : ClassId) (w_allocator_slotCountsF : Nat → Int32) (w_allocator_unitedCountsA : Nat) (w_allocator_roundCountsA : Nat) (w_allocator_hasCode : Int32) (w_allocator_graphR : Nat) (w_allocator_registers : Int32) (w_allocator_values : Int32) (w_allocator_homes : Int32) (w_allocator_slotCount : Int32) (w_allocator_unitedCount : Int32) (w_allocator_slotA : Nat) (w_allocator_numberA : Nat) (w_allocator_copyToA : Nat) (w_allocator_copyFromA : Nat) (w_allocator_lineOfA : Nat) (w_machineO : Nat) (w_programO : Nat) (w_program_functions : Int32) (w_program_nameA : Nat) (w_program_namePlaceA : Nat) (w_program_parametersA : Nat) (w_program_variablesA : Nat) (w_program_fromA : Nat) (w_program_toA : Nat) (w_program_ops : Int32) (w_program_opA : Nat) (w_program_argumentA : Nat) (w_program_ticksA : Nat) (w_program_labels : Int32) (w_program_labelAtA : Nat) (w_spareO : Nat) (p0 : Int32) (sz : Nat) (hq1 : (p0 < 0 → False)) (hq2 : (¬ (p0 < 0) → ¬ (p0 < w_program_functions) → False)) (hq3 : ¬ (w_allocator_hasCode = 0) → vp_in p0 6) : Met l yX11_slots (wz yX11_slots cX11_slots 2 (Option.some Jvm.ClassFile.FieldType.int)) ({ frames := 1, cells := 0, slots := 0, locals := 21 }) (va_Pc [.ref h0, .int p0] (PRE zs dC dI [(h0, .inr (11, [.ref w_tokensO, .ref w_readerO, .ref w_flowsR, .ref w_makerO, .ref w_passesO, .ref w_allocatorO, .ref w_machineO, .ref w_endsR, .ref w_programO, .ref w_spareO, .int w_errorPlace])), (w_allocatorO, .inr (8, [.ref w_allocator_workR, .ref w_allocator_codeR, .ref w_allocator_slotCountsA, .ref w_allocator_unitedCountsA, .ref w_allocator_roundCountsA, .int w_allocator_hasCode, .ref w_allocator_graphR, .int w_allocator_registers, .int w_allocator_values, .int w_allocator_homes, .int w_allocator_slotCount, .int w_allocator_unitedCount, .ref w_allocator_slotA, .ref w_allocator_numberA, .ref w_allocator_copyToA, .ref w_allocator_copyFromA, .ref w_allocator_lineOfA])), (w_allocator_slotCountsA, .inl (w_allocator_slotCountsC, 6, .inl w_allocator_slotCountsF)), (w_programO, .inr (2, [.int w_program_functions, .ref w_program_nameA, .ref w_program_namePlaceA, .ref w_program_parametersA, .ref w_program_variablesA, .ref w_program_fromA, .ref w_program_toA, .int w_program_ops, .ref w_program_opA, .ref w_program_argumentA, .ref w_program_ticksA, .int w_program_labels, .ref w_program_labelAtA]))] [(w_allocator_slotCountsC, .int)] sz)) (va_Qi (fun (r : Int32) (_ : Unit) => r = (sX11_slots_r w_allocator_slotCountsF w_allocator_hasCode p0)) (fun _ t => POST dC dI [(h0, .inr (11, [.ref w_tokensO, .ref w_readerO, .ref w_flowsR, .ref w_makerO, .ref w_passesO, .ref w_allocatorO, .ref w_machineO, .ref w_endsR, .ref w_programO, .ref w_spareO, .int w_errorPlace])), (w_allocatorO, .inr (8, [.ref w_allocator_workR, .ref w_allocator_codeR, .ref w_allocator_slotCountsA, .ref w_allocator_unitedCountsA, .ref w_allocator_roundCountsA, .int w_allocator_hasCode, .ref w_allocator_graphR, .int w_allocator_registers, .int w_allocator_values, .int w_allocator_homes, .int w_allocator_slotCount, .int w_allocator_unitedCount, .ref w_allocator_slotA, .ref w_allocator_numberA, .ref w_allocator_copyToA, .ref w_allocator_copyFromA, .ref w_allocator_lineOfA])), (w_allocator_slotCountsA, .inl (w_allocator_slotCountsC, 6, .inl w_allocator_slotCountsF)), (w_programO, .inr (2, [.int w_program_functions, .ref w_program_nameA, .ref w_program_namePlaceA, .ref w_program_parametersA, .ref w_program_variablesA, .ref w_program_fromA, .ref w_program_toA, .int w_program_ops, .ref w_program_opA, .ref w_program_argumentA, .ref w_program_ticksA, .int w_program_labels, .ref w_program_labelAtA]))] [(w_allocator_slotCountsC, .int)] (va_A [(h0, .inr (11, [.ref w_tokensO, .ref w_readerO, .ref w_flowsR, .ref w_makerO, .ref w_passesO, .ref w_allocatorO, .ref w_machineO, .ref w_endsR, .ref w_programO, .ref w_spareO, .int w_errorPlace])), (w_allocatorO, .inr (8, [.ref w_allocator_workR, .ref w_allocator_codeR, .ref w_allocator_slotCountsA, .ref w_allocator_unitedCountsA, .ref w_allocator_roundCountsA, .int w_allocator_hasCode, .ref w_allocator_graphR, .int w_allocator_registers, .int w_allocator_values, .int w_allocator_homes, .int w_allocator_slotCount, .int w_allocator_unitedCount, .ref w_allocator_slotA, .ref w_allocator_numberA, .ref w_allocator_copyToA, .ref w_allocator_copyFromA, .ref w_allocator_lineOfA])), (w_allocator_slotCountsA, .inl (w_allocator_slotCountsC, 6, .inl w_allocator_slotCountsF)), (w_programO, .inr (2, [.int w_program_functions, .ref w_program_nameA, .ref w_program_namePlaceA, .ref w_program_parametersA, .ref w_program_variablesA, .ref w_program_fromA, .ref w_program_toA, .int w_program_ops, .ref w_program_opA, .ref w_program_argumentA, .ref w_program_ticksA, .int w_program_labels, .ref w_program_labelAtA]))] sz) t) (va_A [(h0, .inr (11, [.ref w_tokensO, .ref w_readerO, .ref w_flowsR, .ref w_makerO, .ref w_passesO, .ref w_allocatorO, .ref w_machineO, .ref w_endsR, .ref w_programO, .ref w_spareO, .int w_errorPlace])), (w_allocatorO, .inr (8, [.ref w_allocator_workR, .ref w_allocator_codeR, .ref w_allocator_slotCountsA, .ref w_allocator_unitedCountsA, .ref w_allocator_roundCountsA, .int w_allocator_hasCode, .ref w_allocator_graphR, .int w_allocator_registers, .int w_allocator_values, .int w_allocator_homes, .int w_allocator_slotCount, .int w_allocator_unitedCount, .ref w_allocator_slotA, .ref w_allocator_numberA, .ref w_allocator_copyToA, .ref w_allocator_copyFromA, .ref w_allocator_lineOfA])), (w_allocator_slotCountsA, .inl (w_allocator_slotCountsC, 6, .inl w_allocator_slotCountsF)), (w_programO, .inr (2, [.int w_program_functions, .ref w_program_nameA, .ref w_program_namePlaceA, .ref w_program_parametersA, .ref w_program_variablesA, .ref w_program_fromA, .ref w_program_toA, .int w_program_ops, .ref w_program_opA, .ref w_program_argumentA, .ref w_program_ticksA, .int w_program_labels, .ref w_program_labelAtA]))] sz)) 0 0 (va_A [(h0, .inr (11, [.ref w_tokensO, .ref w_readerO, .ref w_flowsR, .ref w_makerO, .ref w_passesO, .ref w_allocatorO, .ref w_machineO, .ref w_endsR, .ref w_programO, .ref w_spareO, .int w_errorPlace])), (w_allocatorO, .inr (8, [.ref w_allocator_workR, .ref w_allocator_codeR, .ref w_allocator_slotCountsA, .ref w_allocator_unitedCountsA, .ref w_allocator_roundCountsA, .int w_allocator_hasCode, .ref w_allocator_graphR, .int w_allocator_registers, .int w_allocator_values, .int w_allocator_homes, .int w_allocator_slotCount, .int w_allocator_unitedCount, .ref w_allocator_slotA, .ref w_allocator_numberA, .ref w_allocator_copyToA, .ref w_allocator_copyFromA, .ref w_allocator_lineOfA])), (w_allocator_slotCountsA, .inl (w_allocator_slotCountsC, 6, .inl w_allocator_slotCountsF)), (w_programO, .inr (2, [.int w_program_functions, .ref w_program_nameA, .ref w_program_namePlaceA, .ref w_program_parametersA, .ref w_program_variablesA, .ref w_program_fromA, .ref w_program_toA, .int w_program_ops, .ref w_program_opA, .ref w_program_argumentA, .ref w_program_ticksA, .int w_program_labels, .ref w_program_labelAtA]))] sz) := by
  refine Met.ofW (cc := cX11_slots) (maxL := 2) (ret := (Option.some Jvm.ClassFile.FieldType.int)) (by decide) rfl ?_
  intro p e s m args below meth c s₁ B hml hv
  obtain ⟨rfl, hsz, hP, hK, hD0, hE⟩ := hv
  have hx := B.exec
  have hb := B.bytes
  have hr := B.returns
  have hts0 := atoms_spec (ws := wz yX11_slots cX11_slots 2 (Option.some Jvm.ClassFile.FieldType.int)) B.pre
  have hts : ∀ w ∈ gw, w.before _ s = true := fun w h => hts0 w (List.mem_cons_of_mem _ h)
  have hown : s.vm.findClass RX11 = some m.cls := findClass_of_methodNamed B.named
  have hlocks := B.notSynchronized
  subst hsz
  have hD := hD0.self (sz := s.heap.size)
  generalize hAe : va_A [(h0, .inr (11, [.ref w_tokensO, .ref w_readerO, .ref w_flowsR, .ref w_makerO, .ref w_passesO, .ref w_allocatorO, .ref w_machineO, .ref w_endsR, .ref w_programO, .ref w_spareO, .int w_errorPlace])), (w_allocatorO, .inr (8, [.ref w_allocator_workR, .ref w_allocator_codeR, .ref w_allocator_slotCountsA, .ref w_allocator_unitedCountsA, .ref w_allocator_roundCountsA, .int w_allocator_hasCode, .ref w_allocator_graphR, .int w_allocator_registers, .int w_allocator_values, .int w_allocator_homes, .int w_allocator_slotCount, .int w_allocator_unitedCount, .ref w_allocator_slotA, .ref w_allocator_numberA, .ref w_allocator_copyToA, .ref w_allocator_copyFromA, .ref w_allocator_lineOfA])), (w_allocator_slotCountsA, .inl (w_allocator_slotCountsC, 6, .inl w_allocator_slotCountsF)), (w_programO, .inr (2, [.int w_program_functions, .ref w_program_nameA, .ref w_program_namePlaceA, .ref w_program_parametersA, .ref w_program_variablesA, .ref w_program_fromA, .ref w_program_toA, .int w_program_ops, .ref w_program_opA, .ref w_program_argumentA, .ref w_program_ticksA, .int w_program_labels, .ref w_program_labelAtA]))] s.heap.size = A at hD hE ⊢
  have hA : ∀ q : Nat, s.heap.size ≤ q → A q := fun q h => by rw [← hAe]; exact Or.inr h
  have hS : va_S A s.heap s.heap [] := va_S.rf
  have hP : va_P (dC, dI) cls [(h0, .inr (11, [.ref w_tokensO, .ref w_readerO, .ref w_flowsR, .ref w_makerO, .ref w_passesO, .ref w_allocatorO, .ref w_machineO, .ref w_endsR, .ref w_programO, .ref w_spareO, .int w_errorPlace])), (w_allocatorO, .inr (8, [.ref w_allocator_workR, .ref w_allocator_codeR, .ref w_allocator_slotCountsA, .ref w_allocator_unitedCountsA, .ref w_allocator_roundCountsA, .int w_allocator_hasCode, .ref w_allocator_graphR, .int w_allocator_registers, .int w_allocator_values, .int w_allocator_homes, .int w_allocator_slotCount, .int w_allocator_unitedCount, .ref w_allocator_slotA, .ref w_allocator_numberA, .ref w_allocator_copyToA, .ref w_allocator_copyFromA, .ref w_allocator_lineOfA])), (w_allocator_slotCountsA, .inl (w_allocator_slotCountsC, 6, .inl w_allocator_slotCountsF)), (w_programO, .inr (2, [.int w_program_functions, .ref w_program_nameA, .ref w_program_namePlaceA, .ref w_program_parametersA, .ref w_program_variablesA, .ref w_program_fromA, .ref w_program_toA, .int w_program_ops, .ref w_program_opA, .ref w_program_argumentA, .ref w_program_ticksA, .int w_program_labels, .ref w_program_labelAtA]))] s.heap := hP
  have hl := lv_entry ([.ref h0, .int p0]) (n := 2) (Nat.le_of_ble_eq_true rfl)
  rw [lg_entry_eq]
  generalize (lg_sl ([.ref h0, .int p0]) ++ List.replicate (2 - (lg_sl ([.ref h0, .int p0])).length) Slot.unset).toArray = ls at hl ⊢
  have hl : lv_has ls 2 [(0, .ref h0), (1, .int p0)] := hl
  refine lv_aload_n hx hb dX11_slots_0 rfl (lv_at hl 0 rfl) ?_
  refine lv_iload_n hx hb dX11_slots_1 rfl (lv_at hl 1 rfl) ?_
  have hPc := hP.sub (ws' := [(h0, .inr (11, [.ref w_tokensO, .ref w_readerO, .ref w_flowsR, .ref w_makerO, .ref w_passesO, .ref w_allocatorO, .ref w_machineO, .ref w_endsR, .ref w_programO, .ref w_spareO, .int w_errorPlace])), (w_programO, .inr (2, [.int w_program_functions, .ref w_program_nameA, .ref w_program_namePlaceA, .ref w_program_parametersA, .ref w_program_variablesA, .ref w_program_fromA, .ref w_program_toA, .int w_program_ops, .ref w_program_opA, .ref w_program_argumentA, .ref w_program_ticksA, .int w_program_labels, .ref w_program_labelAtA]))]) [0, 3] rfl
  have hDc := hD.sub (ws' := [(h0, .inr (11, [.ref w_tokensO, .ref w_readerO, .ref w_flowsR, .ref w_makerO, .ref w_passesO, .ref w_allocatorO, .ref w_machineO, .ref w_endsR, .ref w_programO, .ref w_spareO, .int w_errorPlace])), (w_programO, .inr (2, [.int w_program_functions, .ref w_program_nameA, .ref w_program_namePlaceA, .ref w_program_parametersA, .ref w_program_variablesA, .ref w_program_fromA, .ref w_program_toA, .int w_program_ops, .ref w_program_opA, .ref w_program_argumentA, .ref w_program_ticksA, .int w_program_labels, .ref w_program_labelAtA]))]) [0, 3] (by decide) rfl
  have hKc := hK.sub (tys' := []) [] rfl
  have hFc := va_free (wc := [(h0, .inr (11, [.ref w_tokensO, .ref w_readerO, .ref w_flowsR, .ref w_makerO, .ref w_passesO, .ref w_allocatorO, .ref w_machineO, .ref w_endsR, .ref w_programO, .ref w_spareO, .int w_errorPlace])), (w_programO, .inr (2, [.int w_program_functions, .ref w_program_nameA, .ref w_program_namePlaceA, .ref w_program_parametersA, .ref w_program_variablesA, .ref w_program_fromA, .ref w_program_toA, .int w_program_ops, .ref w_program_opA, .ref w_program_argumentA, .ref w_program_ticksA, .int w_program_labels, .ref w_program_labelAtA]))]) hD hS hA [0, 3] rfl
  refine va_callv (va_runV (As := [.int p0]) (rest := []) ⟨hx, hb, hml, hown, hts⟩ (kX11_needFunction l dC dI (h0 := h0) (w_flowsR := w_flowsR) (w_endsR := w_endsR) (w_errorPlace := w_errorPlace) (w_tokensO := w_tokensO) (w_readerO := w_readerO) (w_makerO := w_makerO) (w_passesO := w_passesO) (w_allocatorO := w_allocatorO) (w_machineO := w_machineO) (w_programO := w_programO) (w_program_functions := w_program_functions) (w_program_nameA := w_program_nameA) (w_program_namePlaceA := w_program_namePlaceA) (w_program_parametersA := w_program_parametersA) (w_program_variablesA := w_program_variablesA) (w_program_fromA := w_program_fromA) (w_program_toA := w_program_toA) (w_program_ops := w_program_ops) (w_program_opA := w_program_opA) (w_program_argumentA := w_program_argumentA) (w_program_ticksA := w_program_ticksA) (w_program_labels := w_program_labels) (w_program_labelAtA := w_program_labelAtA) (w_spareO := w_spareO) (p0 := p0) (sz := _) (hq1 := (hq1)) (hq2 := (hq2))) (cwV 1 hts (gi_V qw117 qw118 qw119 qw120 (gi_z qw116)) rfl rfl rfl (by decide +kernel) ⟨Nat.le_of_ble_eq_true rfl, Nat.le_of_ble_eq_true rfl⟩) ⟨PRE.blind, va_recv hKc hPc (ci := 11) (q0 := 0) rfl rfl, PRE.of hE hS hFc hPc hKc hDc⟩ rfl rfl hl.1 rfl (lv_room (Nat.le_of_ble_eq_true rfl)) dX11_slots_2 ⟨Nat.le_of_ble_eq_true rfl, Nat.le_of_ble_eq_true rfl⟩) hS (fun q _ h => hFc q h) hFc (fun u t H locs ht hvm hw hB hz1 hk1 hS => ?_)
  obtain ⟨hP, hD, hK⟩ := JOIN (wr := [(w_allocatorO, .inr (8, [.ref w_allocator_workR, .ref w_allocator_codeR, .ref w_allocator_slotCountsA, .ref w_allocator_unitedCountsA, .ref w_allocator_roundCountsA, .int w_allocator_hasCode, .ref w_allocator_graphR, .int w_allocator_registers, .int w_allocator_values, .int w_allocator_homes, .int w_allocator_slotCount, .int w_allocator_unitedCount, .ref w_allocator_slotA, .ref w_allocator_numberA, .ref w_allocator_copyToA, .ref w_allocator_copyFromA, .ref w_allocator_lineOfA])), (w_allocator_slotCountsA, .inl (w_allocator_slotCountsC, 6, .inl w_allocator_slotCountsF))]) hP hD hK [0, 3] [1, 2] [0] rfl rfl (by decide) (by decide) rfl hk1 hFc ht hvm hB
  have hP : va_P (dC, dI) cls [(w_allocatorO, .inr (8, [.ref w_allocator_workR, .ref w_allocator_codeR, .ref w_allocator_slotCountsA, .ref w_allocator_unitedCountsA, .ref w_allocator_roundCountsA, .int w_allocator_hasCode, .ref w_allocator_graphR, .int w_allocator_registers, .int w_allocator_values, .int w_allocator_homes, .int w_allocator_slotCount, .int w_allocator_unitedCount, .ref w_allocator_slotA, .ref w_allocator_numberA, .ref w_allocator_copyToA, .ref w_allocator_copyFromA, .ref w_allocator_lineOfA])), (w_allocator_slotCountsA, .inl (w_allocator_slotCountsC, 6, .inl w_allocator_slotCountsF)), (h0, .inr (11, [.ref w_tokensO, .ref w_readerO, .ref w_flowsR, .ref w_makerO, .ref w_passesO, .ref w_allocatorO, .ref w_machineO, .ref w_endsR, .ref w_programO, .ref w_spareO, .int w_errorPlace])), (w_programO, .inr (2, [.int w_program_functions, .ref w_program_nameA, .ref w_program_namePlaceA, .ref w_program_parametersA, .ref w_program_variablesA, .ref w_program_fromA, .ref w_program_toA, .int w_program_ops, .ref w_program_opA, .ref w_program_argumentA, .ref w_program_ticksA, .int w_program_labels, .ref w_program_labelAtA]))] H := hP
  have hD : va_D A [(w_allocatorO, .inr (8, [.ref w_allocator_workR, .ref w_allocator_codeR, .ref w_allocator_slotCountsA, .ref w_allocator_unitedCountsA, .ref w_allocator_roundCountsA, .int w_allocator_hasCode, .ref w_allocator_graphR, .int w_allocator_registers, .int w_allocator_values, .int w_allocator_homes, .int w_allocator_slotCount, .int w_allocator_unitedCount, .ref w_allocator_slotA, .ref w_allocator_numberA, .ref w_allocator_copyToA, .ref w_allocator_copyFromA, .ref w_allocator_lineOfA])), (w_allocator_slotCountsA, .inl (w_allocator_slotCountsC, 6, .inl w_allocator_slotCountsF)), (h0, .inr (11, [.ref w_tokensO, .ref w_readerO, .ref w_flowsR, .ref w_makerO, .ref w_passesO, .ref w_allocatorO, .ref w_machineO, .ref w_endsR, .ref w_programO, .ref w_spareO, .int w_errorPlace])), (w_programO, .inr (2, [.int w_program_functions, .ref w_program_nameA, .ref w_program_namePlaceA, .ref w_program_parametersA, .ref w_program_variablesA, .ref w_program_fromA, .ref w_program_toA, .int w_program_ops, .ref w_program_opA, .ref w_program_argumentA, .ref w_program_ticksA, .int w_program_labels, .ref w_program_labelAtA]))] := hD
  have hK : va_K (dC, dI) cls [(w_allocator_slotCountsC, .int)] s := hK
  refine W.widen (k := 0) (n := 0) (Nat.le_of_ble_eq_true rfl) (Nat.le_of_ble_eq_true rfl) ?_
  refine lv_aload_n hx hb dX11_slots_5 rfl (lv_at hl 0 rfl) ?_
  refine va_get (D := (dC, dI)) (ci := 11) (v := .ref w_allocatorO) (C := RX11) (T := TX11) (N := 11) hx hb hts i_X11 hown hK hP 2 rfl rfl 5 (by decide) (hts _ qw112) (fun _ h9 => h9) rfl dX11_slots_6 ?_
  refine va_get (D := (dC, dI)) (ci := 8) (v := .int w_allocator_hasCode) (C := RX0) (T := TX0) (N := 17) hx hb hts i_X0 hown hK hP 0 rfl rfl 5 (by decide) (hts _ qw121) (fun _ h9 => h9) rfl dX11_slots_9 ?_
  by_cases hc1 : w_allocator_hasCode = 0
  · refine lv_if_eq (tgt := 27) hx hb dX11_slots_12 (by decide) (fun _ => ?_) (fun c => absurd hc1 c)
    refine lv_iconst (v := 0) hx hb dX11_slots_27 (by decide) ?_
    have e_sX11_slots_r : sX11_slots_r w_allocator_slotCountsF w_allocator_hasCode p0 = 0 := by unfold sX11_slots_r; rw [if_pos hc1]
    have hP9 : va_P (dC, dI) cls [(h0, .inr (11, [.ref w_tokensO, .ref w_readerO, .ref w_flowsR, .ref w_makerO, .ref w_passesO, .ref w_allocatorO, .ref w_machineO, .ref w_endsR, .ref w_programO, .ref w_spareO, .int w_errorPlace])), (w_allocatorO, .inr (8, [.ref w_allocator_workR, .ref w_allocator_codeR, .ref w_allocator_slotCountsA, .ref w_allocator_unitedCountsA, .ref w_allocator_roundCountsA, .int w_allocator_hasCode, .ref w_allocator_graphR, .int w_allocator_registers, .int w_allocator_values, .int w_allocator_homes, .int w_allocator_slotCount, .int w_allocator_unitedCount, .ref w_allocator_slotA, .ref w_allocator_numberA, .ref w_allocator_copyToA, .ref w_allocator_copyFromA, .ref w_allocator_lineOfA])), (w_allocator_slotCountsA, .inl (w_allocator_slotCountsC, 6, .inl w_allocator_slotCountsF)), (w_programO, .inr (2, [.int w_program_functions, .ref w_program_nameA, .ref w_program_namePlaceA, .ref w_program_parametersA, .ref w_program_variablesA, .ref w_program_fromA, .ref w_program_toA, .int w_program_ops, .ref w_program_opA, .ref w_program_argumentA, .ref w_program_ticksA, .int w_program_labels, .ref w_program_labelAtA]))] H := by exact hP.sub [2, 0, 1, 3] rfl
    have hD9 : va_D A [(h0, .inr (11, [.ref w_tokensO, .ref w_readerO, .ref w_flowsR, .ref w_makerO, .ref w_passesO, .ref w_allocatorO, .ref w_machineO, .ref w_endsR, .ref w_programO, .ref w_spareO, .int w_errorPlace])), (w_allocatorO, .inr (8, [.ref w_allocator_workR, .ref w_allocator_codeR, .ref w_allocator_slotCountsA, .ref w_allocator_unitedCountsA, .ref w_allocator_roundCountsA, .int w_allocator_hasCode, .ref w_allocator_graphR, .int w_allocator_registers, .int w_allocator_values, .int w_allocator_homes, .int w_allocator_slotCount, .int w_allocator_unitedCount, .ref w_allocator_slotA, .ref w_allocator_numberA, .ref w_allocator_copyToA, .ref w_allocator_copyFromA, .ref w_allocator_lineOfA])), (w_allocator_slotCountsA, .inl (w_allocator_slotCountsC, 6, .inl w_allocator_slotCountsF)), (w_programO, .inr (2, [.int w_program_functions, .ref w_program_nameA, .ref w_program_namePlaceA, .ref w_program_parametersA, .ref w_program_variablesA, .ref w_program_fromA, .ref w_program_toA, .int w_program_ops, .ref w_program_opA, .ref w_program_argumentA, .ref w_program_ticksA, .int w_program_labels, .ref w_program_labelAtA]))] := by exact hD.sub [2, 0, 1, 3] (by decide) rfl
    have hK9 : va_K (dC, dI) cls [(w_allocator_slotCountsC, .int)] s := hK.sub [0] rfl
    refine W.widen (k := 0) (n := 0) (Nat.le_of_ble_eq_true rfl) (Nat.le_of_ble_eq_true rfl) ?_
    exact W.iret (v := 0) hx hb hr (fun t ht hW => ⟨⟨0, (), rfl, e_sX11_slots_r.symm, ⟨by rw [ht]; exact hP9, va_K.moved hW.alike hK9, hD9⟩⟩, hS.F ht⟩) hS.2.2 dX11_slots_28
  · refine lv_if_eq (tgt := 27) hx hb dX11_slots_12 (by decide) (fun c => absurd c hc1) (fun _ => ?_)
    refine lv_aload_n hx hb dX11_slots_15 rfl (lv_at hl 0 rfl) ?_
    refine va_get (D := (dC, dI)) (ci := 11) (v := .ref w_allocatorO) (C := RX11) (T := TX11) (N := 11) hx hb hts i_X11 hown hK hP 2 rfl rfl 5 (by decide) (hts _ qw112) (fun _ h9 => h9) rfl dX11_slots_16 ?_
    refine va_get (D := (dC, dI)) (ci := 8) (v := .ref w_allocator_slotCountsA) (C := RX0) (T := TX0) (N := 17) hx hb hts i_X0 hown hK hP 0 rfl rfl 2 (by decide) (hts _ qw189) (fun _ h9 => h9) rfl dX11_slots_19 ?_
    refine lv_iload_n hx hb dX11_slots_22 rfl (lv_at hl 1 rfl) ?_
    refine va_iald hx hb hK hP 1 0 rfl rfl (hq3 hc1) dX11_slots_23 ?_
    refine lv_goto (tgt := 28) hx hb dX11_slots_24 (by decide) ?_
    have e_sX11_slots_r : sX11_slots_r w_allocator_slotCountsF w_allocator_hasCode p0 = (w_allocator_slotCountsF (Int32.toNatClampNeg p0)) := by unfold sX11_slots_r; rw [if_neg hc1]
    have hP9 : va_P (dC, dI) cls [(h0, .inr (11, [.ref w_tokensO, .ref w_readerO, .ref w_flowsR, .ref w_makerO, .ref w_passesO, .ref w_allocatorO, .ref w_machineO, .ref w_endsR, .ref w_programO, .ref w_spareO, .int w_errorPlace])), (w_allocatorO, .inr (8, [.ref w_allocator_workR, .ref w_allocator_codeR, .ref w_allocator_slotCountsA, .ref w_allocator_unitedCountsA, .ref w_allocator_roundCountsA, .int w_allocator_hasCode, .ref w_allocator_graphR, .int w_allocator_registers, .int w_allocator_values, .int w_allocator_homes, .int w_allocator_slotCount, .int w_allocator_unitedCount, .ref w_allocator_slotA, .ref w_allocator_numberA, .ref w_allocator_copyToA, .ref w_allocator_copyFromA, .ref w_allocator_lineOfA])), (w_allocator_slotCountsA, .inl (w_allocator_slotCountsC, 6, .inl w_allocator_slotCountsF)), (w_programO, .inr (2, [.int w_program_functions, .ref w_program_nameA, .ref w_program_namePlaceA, .ref w_program_parametersA, .ref w_program_variablesA, .ref w_program_fromA, .ref w_program_toA, .int w_program_ops, .ref w_program_opA, .ref w_program_argumentA, .ref w_program_ticksA, .int w_program_labels, .ref w_program_labelAtA]))] H := by exact hP.sub [2, 0, 1, 3] rfl
    have hD9 : va_D A [(h0, .inr (11, [.ref w_tokensO, .ref w_readerO, .ref w_flowsR, .ref w_makerO, .ref w_passesO, .ref w_allocatorO, .ref w_machineO, .ref w_endsR, .ref w_programO, .ref w_spareO, .int w_errorPlace])), (w_allocatorO, .inr (8, [.ref w_allocator_workR, .ref w_allocator_codeR, .ref w_allocator_slotCountsA, .ref w_allocator_unitedCountsA, .ref w_allocator_roundCountsA, .int w_allocator_hasCode, .ref w_allocator_graphR, .int w_allocator_registers, .int w_allocator_values, .int w_allocator_homes, .int w_allocator_slotCount, .int w_allocator_unitedCount, .ref w_allocator_slotA, .ref w_allocator_numberA, .ref w_allocator_copyToA, .ref w_allocator_copyFromA, .ref w_allocator_lineOfA])), (w_allocator_slotCountsA, .inl (w_allocator_slotCountsC, 6, .inl w_allocator_slotCountsF)), (w_programO, .inr (2, [.int w_program_functions, .ref w_program_nameA, .ref w_program_namePlaceA, .ref w_program_parametersA, .ref w_program_variablesA, .ref w_program_fromA, .ref w_program_toA, .int w_program_ops, .ref w_program_opA, .ref w_program_argumentA, .ref w_program_ticksA, .int w_program_labels, .ref w_program_labelAtA]))] := by exact hD.sub [2, 0, 1, 3] (by decide) rfl
    have hK9 : va_K (dC, dI) cls [(w_allocator_slotCountsC, .int)] s := hK.sub [0] rfl
    refine W.widen (k := 0) (n := 0) (Nat.le_of_ble_eq_true rfl) (Nat.le_of_ble_eq_true rfl) ?_
    exact W.iret (v := (w_allocator_slotCountsF (Int32.toNatClampNeg p0))) hx hb hr (fun t ht hW => ⟨⟨(w_allocator_slotCountsF (Int32.toNatClampNeg p0)), (), rfl, e_sX11_slots_r.symm, ⟨by rw [ht]; exact hP9, va_K.moved hW.alike hK9, hD9⟩⟩, hS.F ht⟩) hS.2.2 dX11_slots_28
def sX11_usesLeft_r (p0 : Int32) : Int32 := (if p0 < 1 then (if p0 = 25 then 1 else (if p0 = 27 then 1 else 0)) else (if p0 ≤ 19 then 1 else (if p0 = 25 then 1 else (if p0 = 27 then 1 else 0))))
theorem nz_sX11_usesLeft_r (p0 : Int32) : narrow .boolean (.int (sX11_usesLeft_r p0)) = .int (sX11_usesLeft_r p0) := by
  unfold sX11_usesLeft_r
  (repeat' split) <;> first | rfl
set_option maxHeartbeats 4000000 in
set_option maxRecDepth 100000 in
theorem kX11_usesLeft {zs : Nat × Nat} (l : Launch) (dC : Nat → ClassId) (dI : Nat → Nat → Nat) (p0 : Int32) (sz : Nat)  : Met l yX11_usesLeft (wz yX11_usesLeft cX11_usesLeft 1 (Option.some Jvm.ClassFile.FieldType.boolean)) ({ frames := 0, cells := 0, slots := 0, locals := 0 }) (va_Pc [.int p0] (PRE zs dC dI [] [] sz)) (va_Qi (fun (r : Int32) (_ : Unit) => r = (sX11_usesLeft_r p0)) (fun _ t => POST dC dI [] [] (va_A [] sz) t) (va_A [] sz)) 0 0 (va_A [] sz) := by
  refine Met.ofW (cc := cX11_usesLeft) (maxL := 1) (ret := (Option.some Jvm.ClassFile.FieldType.boolean)) (by decide) rfl ?_
  intro p e s m args below meth c s₁ B hml hv
  obtain ⟨rfl, hsz, hP, hK, hD0, hE⟩ := hv
  have hx := B.exec
  have hb := B.bytes
  have hr := B.returns
  have hts0 := atoms_spec (ws := wz yX11_usesLeft cX11_usesLeft 1 (Option.some Jvm.ClassFile.FieldType.boolean)) B.pre
  have hts : ∀ w ∈ gw, w.before _ s = true := fun w h => hts0 w (List.mem_cons_of_mem _ h)
  have hown : s.vm.findClass RX11 = some m.cls := findClass_of_methodNamed B.named
  have hlocks := B.notSynchronized
  subst hsz
  have hD := hD0.self (sz := s.heap.size)
  generalize hAe : va_A [] s.heap.size = A at hD hE ⊢
  have hA : ∀ q : Nat, s.heap.size ≤ q → A q := fun q h => by rw [← hAe]; exact Or.inr h
  have hS : va_S A s.heap s.heap [] := va_S.rf
  have hP : va_P (dC, dI) cls [] s.heap := hP
  have hl := lv_entry ([.int p0]) (n := 1) (Nat.le_of_ble_eq_true rfl)
  rw [lg_entry_eq]
  generalize (lg_sl ([.int p0]) ++ List.replicate (1 - (lg_sl ([.int p0])).length) Slot.unset).toArray = ls at hl ⊢
  have hl : lv_has ls 1 [(0, .int p0)] := hl
  refine lv_iload_n hx hb dX11_usesLeft_0 rfl (lv_at hl 0 rfl) ?_
  refine lv_iconst (v := 1) hx hb dX11_usesLeft_1 (by decide) ?_
  by_cases hc1 : p0 < 1
  · refine lv_icmp_lt (tgt := 11) hx hb dX11_usesLeft_2 (by decide) (fun _ => ?_) (fun c => absurd hc1 c)
    refine lv_iload_n hx hb dX11_usesLeft_11 rfl (lv_at hl 0 rfl) ?_
    refine lv_bipush (v := 25) hx hb dX11_usesLeft_12 (by decide) ?_
    by_cases hc2 : p0 = 25
    · refine lv_icmp_eq (tgt := 23) hx hb dX11_usesLeft_14 (by decide) (fun _ => ?_) (fun c => absurd hc2 c)
      refine lv_iconst (v := 1) hx hb dX11_usesLeft_23 (by decide) ?_
      refine lv_goto (tgt := 28) hx hb dX11_usesLeft_24 (by decide) ?_
      have e_sX11_usesLeft_r : sX11_usesLeft_r p0 = 1 := by unfold sX11_usesLeft_r; rw [if_pos hc1, if_pos hc2]
      have hP9 : va_P (dC, dI) cls [] s.heap := by exact hP.sub [] rfl
      have hD9 : va_D A [] := by exact hD.sub [] (by decide) rfl
      have hK9 : va_K (dC, dI) cls [] s := hK.sub [] rfl
      refine W.widen (k := 0) (n := 0) (Nat.le_of_ble_eq_true rfl) (Nat.le_of_ble_eq_true rfl) ?_
      exact W.zret (v := 1) hx hb hr (by decide) (fun t ht hW => ⟨⟨1, (), rfl, e_sX11_usesLeft_r.symm, ⟨by rw [ht]; exact hP9, va_K.moved hW.alike hK9, hD9⟩⟩, hS.F ht⟩) hS.2.2 dX11_usesLeft_28
    · refine lv_icmp_eq (tgt := 23) hx hb dX11_usesLeft_14 (by decide) (fun c => absurd c hc2) (fun _ => ?_)
      refine lv_iload_n hx hb dX11_usesLeft_17 rfl (lv_at hl 0 rfl) ?_
      refine lv_bipush (v := 27) hx hb dX11_usesLeft_18 (by decide) ?_
      by_cases hc3 : p0 = 27
      · refine lv_icmp_ne (tgt := 27) hx hb dX11_usesLeft_20 (by decide) (fun c => absurd hc3 c) (fun _ => ?_)
        refine lv_iconst (v := 1) hx hb dX11_usesLeft_23 (by decide) ?_
        refine lv_goto (tgt := 28) hx hb dX11_usesLeft_24 (by decide) ?_
        have e_sX11_usesLeft_r : sX11_usesLeft_r p0 = 1 := by unfold sX11_usesLeft_r; rw [if_pos hc1, if_neg hc2, if_pos hc3]
        have hP9 : va_P (dC, dI) cls [] s.heap := by exact hP.sub [] rfl
        have hD9 : va_D A [] := by exact hD.sub [] (by decide) rfl
        have hK9 : va_K (dC, dI) cls [] s := hK.sub [] rfl
        refine W.widen (k := 0) (n := 0) (Nat.le_of_ble_eq_true rfl) (Nat.le_of_ble_eq_true rfl) ?_
        exact W.zret (v := 1) hx hb hr (by decide) (fun t ht hW => ⟨⟨1, (), rfl, e_sX11_usesLeft_r.symm, ⟨by rw [ht]; exact hP9, va_K.moved hW.alike hK9, hD9⟩⟩, hS.F ht⟩) hS.2.2 dX11_usesLeft_28
      · refine lv_icmp_ne (tgt := 27) hx hb dX11_usesLeft_20 (by decide) (fun _ => ?_) (fun c => absurd c hc3)
        refine lv_iconst (v := 0) hx hb dX11_usesLeft_27 (by decide) ?_
        have e_sX11_usesLeft_r : sX11_usesLeft_r p0 = 0 := by unfold sX11_usesLeft_r; rw [if_pos hc1, if_neg hc2, if_neg hc3]
        have hP9 : va_P (dC, dI) cls [] s.heap := by exact hP.sub [] rfl
        have hD9 : va_D A [] := by exact hD.sub [] (by decide) rfl
        have hK9 : va_K (dC, dI) cls [] s := hK.sub [] rfl
        refine W.widen (k := 0) (n := 0) (Nat.le_of_ble_eq_true rfl) (Nat.le_of_ble_eq_true rfl) ?_
        exact W.zret (v := 0) hx hb hr (by decide) (fun t ht hW => ⟨⟨0, (), rfl, e_sX11_usesLeft_r.symm, ⟨by rw [ht]; exact hP9, va_K.moved hW.alike hK9, hD9⟩⟩, hS.F ht⟩) hS.2.2 dX11_usesLeft_28
  · refine lv_icmp_lt (tgt := 11) hx hb dX11_usesLeft_2 (by decide) (fun c => absurd c hc1) (fun _ => ?_)
    refine lv_iload_n hx hb dX11_usesLeft_5 rfl (lv_at hl 0 rfl) ?_
    refine lv_bipush (v := 19) hx hb dX11_usesLeft_6 (by decide) ?_
    by_cases hc4 : p0 ≤ 19
    · refine lv_icmp_le (tgt := 23) hx hb dX11_usesLeft_8 (by decide) (fun _ => ?_) (fun c => absurd hc4 c)
      refine lv_iconst (v := 1) hx hb dX11_usesLeft_23 (by decide) ?_
      refine lv_goto (tgt := 28) hx hb dX11_usesLeft_24 (by decide) ?_
      have e_sX11_usesLeft_r : sX11_usesLeft_r p0 = 1 := by unfold sX11_usesLeft_r; rw [if_neg hc1, if_pos hc4]
      have hP9 : va_P (dC, dI) cls [] s.heap := by exact hP.sub [] rfl
      have hD9 : va_D A [] := by exact hD.sub [] (by decide) rfl
      have hK9 : va_K (dC, dI) cls [] s := hK.sub [] rfl
      refine W.widen (k := 0) (n := 0) (Nat.le_of_ble_eq_true rfl) (Nat.le_of_ble_eq_true rfl) ?_
      exact W.zret (v := 1) hx hb hr (by decide) (fun t ht hW => ⟨⟨1, (), rfl, e_sX11_usesLeft_r.symm, ⟨by rw [ht]; exact hP9, va_K.moved hW.alike hK9, hD9⟩⟩, hS.F ht⟩) hS.2.2 dX11_usesLeft_28
    · refine lv_icmp_le (tgt := 23) hx hb dX11_usesLeft_8 (by decide) (fun c => absurd c hc4) (fun _ => ?_)
      refine lv_iload_n hx hb dX11_usesLeft_11 rfl (lv_at hl 0 rfl) ?_
      refine lv_bipush (v := 25) hx hb dX11_usesLeft_12 (by decide) ?_
      by_cases hc5 : p0 = 25
      · refine lv_icmp_eq (tgt := 23) hx hb dX11_usesLeft_14 (by decide) (fun _ => ?_) (fun c => absurd hc5 c)
        refine lv_iconst (v := 1) hx hb dX11_usesLeft_23 (by decide) ?_
        refine lv_goto (tgt := 28) hx hb dX11_usesLeft_24 (by decide) ?_
        have e_sX11_usesLeft_r : sX11_usesLeft_r p0 = 1 := by unfold sX11_usesLeft_r; rw [if_neg hc1, if_neg hc4, if_pos hc5]
        have hP9 : va_P (dC, dI) cls [] s.heap := by exact hP.sub [] rfl
        have hD9 : va_D A [] := by exact hD.sub [] (by decide) rfl
        have hK9 : va_K (dC, dI) cls [] s := hK.sub [] rfl
        refine W.widen (k := 0) (n := 0) (Nat.le_of_ble_eq_true rfl) (Nat.le_of_ble_eq_true rfl) ?_
        exact W.zret (v := 1) hx hb hr (by decide) (fun t ht hW => ⟨⟨1, (), rfl, e_sX11_usesLeft_r.symm, ⟨by rw [ht]; exact hP9, va_K.moved hW.alike hK9, hD9⟩⟩, hS.F ht⟩) hS.2.2 dX11_usesLeft_28
      · refine lv_icmp_eq (tgt := 23) hx hb dX11_usesLeft_14 (by decide) (fun c => absurd c hc5) (fun _ => ?_)
        refine lv_iload_n hx hb dX11_usesLeft_17 rfl (lv_at hl 0 rfl) ?_
        refine lv_bipush (v := 27) hx hb dX11_usesLeft_18 (by decide) ?_
        by_cases hc6 : p0 = 27
        · refine lv_icmp_ne (tgt := 27) hx hb dX11_usesLeft_20 (by decide) (fun c => absurd hc6 c) (fun _ => ?_)
          refine lv_iconst (v := 1) hx hb dX11_usesLeft_23 (by decide) ?_
          refine lv_goto (tgt := 28) hx hb dX11_usesLeft_24 (by decide) ?_
          have e_sX11_usesLeft_r : sX11_usesLeft_r p0 = 1 := by unfold sX11_usesLeft_r; rw [if_neg hc1, if_neg hc4, if_neg hc5, if_pos hc6]
          have hP9 : va_P (dC, dI) cls [] s.heap := by exact hP.sub [] rfl
          have hD9 : va_D A [] := by exact hD.sub [] (by decide) rfl
          have hK9 : va_K (dC, dI) cls [] s := hK.sub [] rfl
          refine W.widen (k := 0) (n := 0) (Nat.le_of_ble_eq_true rfl) (Nat.le_of_ble_eq_true rfl) ?_
          exact W.zret (v := 1) hx hb hr (by decide) (fun t ht hW => ⟨⟨1, (), rfl, e_sX11_usesLeft_r.symm, ⟨by rw [ht]; exact hP9, va_K.moved hW.alike hK9, hD9⟩⟩, hS.F ht⟩) hS.2.2 dX11_usesLeft_28
        · refine lv_icmp_ne (tgt := 27) hx hb dX11_usesLeft_20 (by decide) (fun _ => ?_) (fun c => absurd c hc6)
          refine lv_iconst (v := 0) hx hb dX11_usesLeft_27 (by decide) ?_
          have e_sX11_usesLeft_r : sX11_usesLeft_r p0 = 0 := by unfold sX11_usesLeft_r; rw [if_neg hc1, if_neg hc4, if_neg hc5, if_neg hc6]
          have hP9 : va_P (dC, dI) cls [] s.heap := by exact hP.sub [] rfl
          have hD9 : va_D A [] := by exact hD.sub [] (by decide) rfl
          have hK9 : va_K (dC, dI) cls [] s := hK.sub [] rfl
          refine W.widen (k := 0) (n := 0) (Nat.le_of_ble_eq_true rfl) (Nat.le_of_ble_eq_true rfl) ?_
          exact W.zret (v := 0) hx hb hr (by decide) (fun t ht hW => ⟨⟨0, (), rfl, e_sX11_usesLeft_r.symm, ⟨by rw [ht]; exact hP9, va_K.moved hW.alike hK9, hD9⟩⟩, hS.F ht⟩) hS.2.2 dX11_usesLeft_28
def sX11_usesRight_r (p0 : Int32) : Int32 := (if (sX11_isOperator_r p0) = 0 then (if p0 = 18 then 1 else 0) else 1)
theorem nz_sX11_usesRight_r (p0 : Int32) : narrow .boolean (.int (sX11_usesRight_r p0)) = .int (sX11_usesRight_r p0) := by
  unfold sX11_usesRight_r
  (repeat' split) <;> first | rfl
set_option maxHeartbeats 4000000 in
set_option maxRecDepth 100000 in
theorem kX11_usesRight {zs : Nat × Nat} (l : Launch) (dC : Nat → ClassId) (dI : Nat → Nat → Nat) (p0 : Int32) (sz : Nat)  : Met l yX11_usesRight (wz yX11_usesRight cX11_usesRight 1 (Option.some Jvm.ClassFile.FieldType.boolean)) ({ frames := 1, cells := 0, slots := 0, locals := 20 }) (va_Pc [.int p0] (PRE zs dC dI [] [] sz)) (va_Qi (fun (r : Int32) (_ : Unit) => r = (sX11_usesRight_r p0)) (fun _ t => POST dC dI [] [] (va_A [] sz) t) (va_A [] sz)) 0 0 (va_A [] sz) := by
  refine Met.ofW (cc := cX11_usesRight) (maxL := 1) (ret := (Option.some Jvm.ClassFile.FieldType.boolean)) (by decide) rfl ?_
  intro p e s m args below meth c s₁ B hml hv
  obtain ⟨rfl, hsz, hP, hK, hD0, hE⟩ := hv
  have hx := B.exec
  have hb := B.bytes
  have hr := B.returns
  have hts0 := atoms_spec (ws := wz yX11_usesRight cX11_usesRight 1 (Option.some Jvm.ClassFile.FieldType.boolean)) B.pre
  have hts : ∀ w ∈ gw, w.before _ s = true := fun w h => hts0 w (List.mem_cons_of_mem _ h)
  have hown : s.vm.findClass RX11 = some m.cls := findClass_of_methodNamed B.named
  have hlocks := B.notSynchronized
  subst hsz
  have hD := hD0.self (sz := s.heap.size)
  generalize hAe : va_A [] s.heap.size = A at hD hE ⊢
  have hA : ∀ q : Nat, s.heap.size ≤ q → A q := fun q h => by rw [← hAe]; exact Or.inr h
  have hS : va_S A s.heap s.heap [] := va_S.rf
  have hP : va_P (dC, dI) cls [] s.heap := hP
  have hl := lv_entry ([.int p0]) (n := 1) (Nat.le_of_ble_eq_true rfl)
  rw [lg_entry_eq]
  generalize (lg_sl ([.int p0]) ++ List.replicate (1 - (lg_sl ([.int p0])).length) Slot.unset).toArray = ls at hl ⊢
  have hl : lv_has ls 1 [(0, .int p0)] := hl
  refine lv_iload_n hx hb dX11_usesRight_0 rfl (lv_at hl 0 rfl) ?_
  have hPc := hP.sub (ws' := []) [] rfl
  have hDc := hD.sub (ws' := []) [] (by decide) rfl
  have hKc := hK.sub (tys' := []) [] rfl
  have hFc := va_free (wc := []) hD hS hA [] rfl
  refine va_calli (va_runS (As := [.int p0]) (rest := []) ⟨hx, hb, hml, hown, hts⟩ (kX11_isOperator l dC dI (p0 := p0) (sz := _)) (va_cwS 1 hts (gi_S qw191 qw192 qw120 (gi_z qw190)) rfl rfl rfl (by decide +kernel) ⟨Nat.le_of_ble_eq_true rfl, Nat.le_of_ble_eq_true rfl⟩) ⟨PRE.blind, PRE.of hE hS hFc hPc hKc hDc⟩ rfl rfl hl.1 rfl (lv_room (Nat.le_of_ble_eq_true rfl)) dX11_usesRight_1 ⟨Nat.le_of_ble_eq_true rfl, Nat.le_of_ble_eq_true rfl⟩) hS (fun q _ h => hFc q h) hFc (fun r1 u t H locs ht hvm hw hB hz1 hk1 hS => ?_)
  obtain ⟨hP, hD, hK⟩ := JOIN (wr := []) hP hD hK [] [] [] rfl rfl (by decide) (by decide) rfl hk1 hFc ht hvm hB
  have hP : va_P (dC, dI) cls [] H := hP
  have hD : va_D A [] := hD
  have hK : va_K (dC, dI) cls [] s := hK
  refine W.widen (k := 0) (n := 0) (Nat.le_of_ble_eq_true rfl) (Nat.le_of_ble_eq_true rfl) ?_
  obtain rfl : r1 = (sX11_isOperator_r p0) := hw
  by_cases hc1 : (sX11_isOperator_r p0) = 0
  · refine lv_if_ne (tgt := 13) hx hb dX11_usesRight_4 (by decide) (fun c => absurd hc1 c) (fun _ => ?_)
    refine lv_iload_n hx hb dX11_usesRight_7 rfl (lv_at hl 0 rfl) ?_
    refine lv_bipush (v := 18) hx hb dX11_usesRight_8 (by decide) ?_
    by_cases hc2 : p0 = 18
    · refine lv_icmp_ne (tgt := 17) hx hb dX11_usesRight_10 (by decide) (fun c => absurd hc2 c) (fun _ => ?_)
      refine lv_iconst (v := 1) hx hb dX11_usesRight_13 (by decide) ?_
      refine lv_goto (tgt := 18) hx hb dX11_usesRight_14 (by decide) ?_
      have e_sX11_usesRight_r : sX11_usesRight_r p0 = 1 := by unfold sX11_usesRight_r; rw [if_pos hc1, if_pos hc2]
      have hP9 : va_P (dC, dI) cls [] H := by exact hP.sub [] rfl
      have hD9 : va_D A [] := by exact hD.sub [] (by decide) rfl
      have hK9 : va_K (dC, dI) cls [] s := hK.sub [] rfl
      refine W.widen (k := 0) (n := 0) (Nat.le_of_ble_eq_true rfl) (Nat.le_of_ble_eq_true rfl) ?_
      exact W.zret (v := 1) hx hb hr (by decide) (fun t ht hW => ⟨⟨1, (), rfl, e_sX11_usesRight_r.symm, ⟨by rw [ht]; exact hP9, va_K.moved hW.alike hK9, hD9⟩⟩, hS.F ht⟩) hS.2.2 dX11_usesRight_18
    · refine lv_icmp_ne (tgt := 17) hx hb dX11_usesRight_10 (by decide) (fun _ => ?_) (fun c => absurd c hc2)
      refine lv_iconst (v := 0) hx hb dX11_usesRight_17 (by decide) ?_
      have e_sX11_usesRight_r : sX11_usesRight_r p0 = 0 := by unfold sX11_usesRight_r; rw [if_pos hc1, if_neg hc2]
      have hP9 : va_P (dC, dI) cls [] H := by exact hP.sub [] rfl
      have hD9 : va_D A [] := by exact hD.sub [] (by decide) rfl
      have hK9 : va_K (dC, dI) cls [] s := hK.sub [] rfl
      refine W.widen (k := 0) (n := 0) (Nat.le_of_ble_eq_true rfl) (Nat.le_of_ble_eq_true rfl) ?_
      exact W.zret (v := 0) hx hb hr (by decide) (fun t ht hW => ⟨⟨0, (), rfl, e_sX11_usesRight_r.symm, ⟨by rw [ht]; exact hP9, va_K.moved hW.alike hK9, hD9⟩⟩, hS.F ht⟩) hS.2.2 dX11_usesRight_18
  · refine lv_if_ne (tgt := 13) hx hb dX11_usesRight_4 (by decide) (fun _ => ?_) (fun c => absurd c hc1)
    refine lv_iconst (v := 1) hx hb dX11_usesRight_13 (by decide) ?_
    refine lv_goto (tgt := 18) hx hb dX11_usesRight_14 (by decide) ?_
    have e_sX11_usesRight_r : sX11_usesRight_r p0 = 1 := by unfold sX11_usesRight_r; rw [if_neg hc1]
    have hP9 : va_P (dC, dI) cls [] H := by exact hP.sub [] rfl
    have hD9 : va_D A [] := by exact hD.sub [] (by decide) rfl
    have hK9 : va_K (dC, dI) cls [] s := hK.sub [] rfl
    refine W.widen (k := 0) (n := 0) (Nat.le_of_ble_eq_true rfl) (Nat.le_of_ble_eq_true rfl) ?_
    exact W.zret (v := 1) hx hb hr (by decide) (fun t ht hW => ⟨⟨1, (), rfl, e_sX11_usesRight_r.symm, ⟨by rw [ht]; exact hP9, va_K.moved hW.alike hK9, hD9⟩⟩, hS.F ht⟩) hS.2.2 dX11_usesRight_18
set_option maxHeartbeats 4000000 in
set_option maxRecDepth 100000 in
theorem kX11_word {zs : Nat × Nat} (l : Launch) (dC : Nat → ClassId) (dI : Nat → Nat → Nat) (h0 : Nat) (w_flowsR : Nat) (w_endsR : Nat) (w_errorPlace : Int32) (w_tokensO : Nat) (w_readerO : Nat) (w_makerO : Nat) (w_passesO : Nat) (w_allocatorO : Nat) (w_machineO : Nat) (w_machine_outcome : Int32) (w_machine_result : Int32) (w_machine_steps : Int32) (w_machine_memoryA : Nat) (w_machine_memoryC : ClassId) (w_machine_memoryF : Nat → Int32) (w_machine_programR : Nat) (w_machine_flowsR : Nat) (w_machine_allocatorR : Nat) (w_machine_toldA : Nat) (w_machine_isRunning : Int32) (w_machine_calls : Int32) (w_machine_functionA : Nat) (w_machine_atA : Nat) (w_machine_blockA : Nat) (w_machine_blockAheadA : Nat) (w_machine_argumentsA : Nat) (w_machine_cellsA : Nat) (w_machine_slotsA : Nat) (w_machine_slotRoom : Int32) (w_machine_waitingA : Nat) (w_machine_count : Int32) (w_programO : Nat) (w_spareO : Nat) (p0 : Int32) (sz : Nat) (hq1 : (p0 < 0 → False)) (hq2 : (¬ (p0 < 0) → ¬ (p0 < 16) → False)) (hq3 : vp_in p0 16) : Met l yX11_word (wz yX11_word cX11_word 2 (Option.some Jvm.ClassFile.FieldType.int)) ({ frames := 1, cells := 0, slots := 0, locals := 22 }) (va_Pc [.ref h0, .int p0] (PRE zs dC dI [(h0, .inr (11, [.ref w_tokensO, .ref w_readerO, .ref w_flowsR, .ref w_makerO, .ref w_passesO, .ref w_allocatorO, .ref w_machineO, .ref w_endsR, .ref w_programO, .ref w_spareO, .int w_errorPlace])), (w_machineO, .inr (10, [.int w_machine_outcome, .int w_machine_result, .int w_machine_steps, .ref w_machine_memoryA, .ref w_machine_programR, .ref w_machine_flowsR, .ref w_machine_allocatorR, .ref w_machine_toldA, .int w_machine_isRunning, .int w_machine_calls, .ref w_machine_functionA, .ref w_machine_atA, .ref w_machine_blockA, .ref w_machine_blockAheadA, .ref w_machine_argumentsA, .ref w_machine_cellsA, .ref w_machine_slotsA, .int w_machine_slotRoom, .ref w_machine_waitingA, .int w_machine_count])), (w_machine_memoryA, .inl (w_machine_memoryC, 16, .inl w_machine_memoryF))] [(w_machine_memoryC, .int)] sz)) (va_Qi (fun (r : Int32) (_ : Unit) => r = (w_machine_memoryF (Int32.toNatClampNeg p0))) (fun _ t => POST dC dI [(h0, .inr (11, [.ref w_tokensO, .ref w_readerO, .ref w_flowsR, .ref w_makerO, .ref w_passesO, .ref w_allocatorO, .ref w_machineO, .ref w_endsR, .ref w_programO, .ref w_spareO, .int w_errorPlace])), (w_machineO, .inr (10, [.int w_machine_outcome, .int w_machine_result, .int w_machine_steps, .ref w_machine_memoryA, .ref w_machine_programR, .ref w_machine_flowsR, .ref w_machine_allocatorR, .ref w_machine_toldA, .int w_machine_isRunning, .int w_machine_calls, .ref w_machine_functionA, .ref w_machine_atA, .ref w_machine_blockA, .ref w_machine_blockAheadA, .ref w_machine_argumentsA, .ref w_machine_cellsA, .ref w_machine_slotsA, .int w_machine_slotRoom, .ref w_machine_waitingA, .int w_machine_count])), (w_machine_memoryA, .inl (w_machine_memoryC, 16, .inl w_machine_memoryF))] [(w_machine_memoryC, .int)] (va_A [(h0, .inr (11, [.ref w_tokensO, .ref w_readerO, .ref w_flowsR, .ref w_makerO, .ref w_passesO, .ref w_allocatorO, .ref w_machineO, .ref w_endsR, .ref w_programO, .ref w_spareO, .int w_errorPlace])), (w_machineO, .inr (10, [.int w_machine_outcome, .int w_machine_result, .int w_machine_steps, .ref w_machine_memoryA, .ref w_machine_programR, .ref w_machine_flowsR, .ref w_machine_allocatorR, .ref w_machine_toldA, .int w_machine_isRunning, .int w_machine_calls, .ref w_machine_functionA, .ref w_machine_atA, .ref w_machine_blockA, .ref w_machine_blockAheadA, .ref w_machine_argumentsA, .ref w_machine_cellsA, .ref w_machine_slotsA, .int w_machine_slotRoom, .ref w_machine_waitingA, .int w_machine_count])), (w_machine_memoryA, .inl (w_machine_memoryC, 16, .inl w_machine_memoryF))] sz) t) (va_A [(h0, .inr (11, [.ref w_tokensO, .ref w_readerO, .ref w_flowsR, .ref w_makerO, .ref w_passesO, .ref w_allocatorO, .ref w_machineO, .ref w_endsR, .ref w_programO, .ref w_spareO, .int w_errorPlace])), (w_machineO, .inr (10, [.int w_machine_outcome, .int w_machine_result, .int w_machine_steps, .ref w_machine_memoryA, .ref w_machine_programR, .ref w_machine_flowsR, .ref w_machine_allocatorR, .ref w_machine_toldA, .int w_machine_isRunning, .int w_machine_calls, .ref w_machine_functionA, .ref w_machine_atA, .ref w_machine_blockA, .ref w_machine_blockAheadA, .ref w_machine_argumentsA, .ref w_machine_cellsA, .ref w_machine_slotsA, .int w_machine_slotRoom, .ref w_machine_waitingA, .int w_machine_count])), (w_machine_memoryA, .inl (w_machine_memoryC, 16, .inl w_machine_memoryF))] sz)) 0 0 (va_A [(h0, .inr (11, [.ref w_tokensO, .ref w_readerO, .ref w_flowsR, .ref w_makerO, .ref w_passesO, .ref w_allocatorO, .ref w_machineO, .ref w_endsR, .ref w_programO, .ref w_spareO, .int w_errorPlace])), (w_machineO, .inr (10, [.int w_machine_outcome, .int w_machine_result, .int w_machine_steps, .ref w_machine_memoryA, .ref w_machine_programR, .ref w_machine_flowsR, .ref w_machine_allocatorR, .ref w_machine_toldA, .int w_machine_isRunning, .int w_machine_calls, .ref w_machine_functionA, .ref w_machine_atA, .ref w_machine_blockA, .ref w_machine_blockAheadA, .ref w_machine_argumentsA, .ref w_machine_cellsA, .ref w_machine_slotsA, .int w_machine_slotRoom, .ref w_machine_waitingA, .int w_machine_count])), (w_machine_memoryA, .inl (w_machine_memoryC, 16, .inl w_machine_memoryF))] sz) := by
  refine Met.ofW (cc := cX11_word) (maxL := 2) (ret := (Option.some Jvm.ClassFile.FieldType.int)) (by decide) rfl ?_
  intro p e s m args below meth c s₁ B hml hv
  obtain ⟨rfl, hsz, hP, hK, hD0, hE⟩ := hv
  have hx := B.exec
  have hb := B.bytes
  have hr := B.returns
  have hts0 := atoms_spec (ws := wz yX11_word cX11_word 2 (Option.some Jvm.ClassFile.FieldType.int)) B.pre
  have hts : ∀ w ∈ gw, w.before _ s = true := fun w h => hts0 w (List.mem_cons_of_mem _ h)
  have hown : s.vm.findClass RX11 = some m.cls := findClass_of_methodNamed B.named
  have hlocks := B.notSynchronized
  subst hsz
  have hD := hD0.self (sz := s.heap.size)
  generalize hAe : va_A [(h0, .inr (11, [.ref w_tokensO, .ref w_readerO, .ref w_flowsR, .ref w_makerO, .ref w_passesO, .ref w_allocatorO, .ref w_machineO, .ref w_endsR, .ref w_programO, .ref w_spareO, .int w_errorPlace])), (w_machineO, .inr (10, [.int w_machine_outcome, .int w_machine_result, .int w_machine_steps, .ref w_machine_memoryA, .ref w_machine_programR, .ref w_machine_flowsR, .ref w_machine_allocatorR, .ref w_machine_toldA, .int w_machine_isRunning, .int w_machine_calls, .ref w_machine_functionA, .ref w_machine_atA, .ref w_machine_blockA, .ref w_machine_blockAheadA, .ref w_machine_argumentsA, .ref w_machine_cellsA, .ref w_machine_slotsA, .int w_machine_slotRoom, .ref w_machine_waitingA, .int w_machine_count])), (w_machine_memoryA, .inl (w_machine_memoryC, 16, .inl w_machine_memoryF))] s.heap.size = A at hD hE ⊢
  have hA : ∀ q : Nat, s.heap.size ≤ q → A q := fun q h => by rw [← hAe]; exact Or.inr h
  have hS : va_S A s.heap s.heap [] := va_S.rf
  have hP : va_P (dC, dI) cls [(h0, .inr (11, [.ref w_tokensO, .ref w_readerO, .ref w_flowsR, .ref w_makerO, .ref w_passesO, .ref w_allocatorO, .ref w_machineO, .ref w_endsR, .ref w_programO, .ref w_spareO, .int w_errorPlace])), (w_machineO, .inr (10, [.int w_machine_outcome, .int w_machine_result, .int w_machine_steps, .ref w_machine_memoryA, .ref w_machine_programR, .ref w_machine_flowsR, .ref w_machine_allocatorR, .ref w_machine_toldA, .int w_machine_isRunning, .int w_machine_calls, .ref w_machine_functionA, .ref w_machine_atA, .ref w_machine_blockA, .ref w_machine_blockAheadA, .ref w_machine_argumentsA, .ref w_machine_cellsA, .ref w_machine_slotsA, .int w_machine_slotRoom, .ref w_machine_waitingA, .int w_machine_count])), (w_machine_memoryA, .inl (w_machine_memoryC, 16, .inl w_machine_memoryF))] s.heap := hP
  have hl := lv_entry ([.ref h0, .int p0]) (n := 2) (Nat.le_of_ble_eq_true rfl)
  rw [lg_entry_eq]
  generalize (lg_sl ([.ref h0, .int p0]) ++ List.replicate (2 - (lg_sl ([.ref h0, .int p0])).length) Slot.unset).toArray = ls at hl ⊢
  have hl : lv_has ls 2 [(0, .ref h0), (1, .int p0)] := hl
  refine lv_aload_n hx hb dX11_word_0 rfl (lv_at hl 0 rfl) ?_
  refine lv_iload_n hx hb dX11_word_1 rfl (lv_at hl 1 rfl) ?_
  refine lv_bipush (v := 16) hx hb dX11_word_2 (by decide) ?_
  have hPc := hP.sub (ws' := [(h0, .inr (11, [.ref w_tokensO, .ref w_readerO, .ref w_flowsR, .ref w_makerO, .ref w_passesO, .ref w_allocatorO, .ref w_machineO, .ref w_endsR, .ref w_programO, .ref w_spareO, .int w_errorPlace]))]) [0] rfl
  have hDc := hD.sub (ws' := [(h0, .inr (11, [.ref w_tokensO, .ref w_readerO, .ref w_flowsR, .ref w_makerO, .ref w_passesO, .ref w_allocatorO, .ref w_machineO, .ref w_endsR, .ref w_programO, .ref w_spareO, .int w_errorPlace]))]) [0] (by decide) rfl
  have hKc := hK.sub (tys' := []) [] rfl
  have hFc := va_free (wc := [(h0, .inr (11, [.ref w_tokensO, .ref w_readerO, .ref w_flowsR, .ref w_makerO, .ref w_passesO, .ref w_allocatorO, .ref w_machineO, .ref w_endsR, .ref w_programO, .ref w_spareO, .int w_errorPlace]))]) hD hS hA [0] rfl
  refine va_callv (va_runV (As := [.int p0, .int 16]) (rest := []) ⟨hx, hb, hml, hown, hts⟩ (kX11_needPlace l dC dI (h0 := h0) (w_flowsR := w_flowsR) (w_endsR := w_endsR) (w_errorPlace := w_errorPlace) (w_tokensO := w_tokensO) (w_readerO := w_readerO) (w_makerO := w_makerO) (w_passesO := w_passesO) (w_allocatorO := w_allocatorO) (w_machineO := w_machineO) (w_programO := w_programO) (w_spareO := w_spareO) (p0 := p0) (p1 := 16) (sz := _) (hq1 := (hq1)) (hq2 := (hq2))) (cwV 2 hts (gi_V qw194 qw195 qw196 qw120 (gi_z qw193)) rfl rfl rfl (by decide +kernel) ⟨Nat.le_of_ble_eq_true rfl, Nat.le_of_ble_eq_true rfl⟩) ⟨PRE.blind, va_recv hKc hPc (ci := 11) (q0 := 0) rfl rfl, PRE.of hE hS hFc hPc hKc hDc⟩ rfl rfl hl.1 rfl (lv_room (Nat.le_of_ble_eq_true rfl)) dX11_word_4 ⟨Nat.le_of_ble_eq_true rfl, Nat.le_of_ble_eq_true rfl⟩) hS (fun q _ h => hFc q h) hFc (fun u t H locs ht hvm hw hB hz1 hk1 hS => ?_)
  obtain ⟨hP, hD, hK⟩ := JOIN (wr := [(w_machineO, .inr (10, [.int w_machine_outcome, .int w_machine_result, .int w_machine_steps, .ref w_machine_memoryA, .ref w_machine_programR, .ref w_machine_flowsR, .ref w_machine_allocatorR, .ref w_machine_toldA, .int w_machine_isRunning, .int w_machine_calls, .ref w_machine_functionA, .ref w_machine_atA, .ref w_machine_blockA, .ref w_machine_blockAheadA, .ref w_machine_argumentsA, .ref w_machine_cellsA, .ref w_machine_slotsA, .int w_machine_slotRoom, .ref w_machine_waitingA, .int w_machine_count])), (w_machine_memoryA, .inl (w_machine_memoryC, 16, .inl w_machine_memoryF))]) hP hD hK [0] [1, 2] [0] rfl rfl (by decide) (by decide) rfl hk1 hFc ht hvm hB
  have hP : va_P (dC, dI) cls [(w_machineO, .inr (10, [.int w_machine_outcome, .int w_machine_result, .int w_machine_steps, .ref w_machine_memoryA, .ref w_machine_programR, .ref w_machine_flowsR, .ref w_machine_allocatorR, .ref w_machine_toldA, .int w_machine_isRunning, .int w_machine_calls, .ref w_machine_functionA, .ref w_machine_atA, .ref w_machine_blockA, .ref w_machine_blockAheadA, .ref w_machine_argumentsA, .ref w_machine_cellsA, .ref w_machine_slotsA, .int w_machine_slotRoom, .ref w_machine_waitingA, .int w_machine_count])), (w_machine_memoryA, .inl (w_machine_memoryC, 16, .inl w_machine_memoryF)), (h0, .inr (11, [.ref w_tokensO, .ref w_readerO, .ref w_flowsR, .ref w_makerO, .ref w_passesO, .ref w_allocatorO, .ref w_machineO, .ref w_endsR, .ref w_programO, .ref w_spareO, .int w_errorPlace]))] H := hP
  have hD : va_D A [(w_machineO, .inr (10, [.int w_machine_outcome, .int w_machine_result, .int w_machine_steps, .ref w_machine_memoryA, .ref w_machine_programR, .ref w_machine_flowsR, .ref w_machine_allocatorR, .ref w_machine_toldA, .int w_machine_isRunning, .int w_machine_calls, .ref w_machine_functionA, .ref w_machine_atA, .ref w_machine_blockA, .ref w_machine_blockAheadA, .ref w_machine_argumentsA, .ref w_machine_cellsA, .ref w_machine_slotsA, .int w_machine_slotRoom, .ref w_machine_waitingA, .int w_machine_count])), (w_machine_memoryA, .inl (w_machine_memoryC, 16, .inl w_machine_memoryF)), (h0, .inr (11, [.ref w_tokensO, .ref w_readerO, .ref w_flowsR, .ref w_makerO, .ref w_passesO, .ref w_allocatorO, .ref w_machineO, .ref w_endsR, .ref w_programO, .ref w_spareO, .int w_errorPlace]))] := hD
  have hK : va_K (dC, dI) cls [(w_machine_memoryC, .int)] s := hK
  refine W.widen (k := 0) (n := 0) (Nat.le_of_ble_eq_true rfl) (Nat.le_of_ble_eq_true rfl) ?_
  refine lv_aload_n hx hb dX11_word_7 rfl (lv_at hl 0 rfl) ?_
  refine va_get (D := (dC, dI)) (ci := 11) (v := .ref w_machineO) (C := RX11) (T := TX11) (N := 11) hx hb hts i_X11 hown hK hP 2 rfl rfl 6 (by decide) (hts _ qw124) (fun _ h9 => h9) rfl dX11_word_8 ?_
  refine va_get (D := (dC, dI)) (ci := 10) (v := .ref w_machine_memoryA) (C := RX3) (T := TX3) (N := 20) hx hb hts i_X3 hown hK hP 0 rfl rfl 3 (by decide) (hts _ qw133) (fun _ h9 => h9) rfl dX11_word_11 ?_
  refine lv_iload_n hx hb dX11_word_14 rfl (lv_at hl 1 rfl) ?_
  refine va_iald hx hb hK hP 1 0 rfl rfl (hq3) dX11_word_15 ?_
  have hP9 : va_P (dC, dI) cls [(h0, .inr (11, [.ref w_tokensO, .ref w_readerO, .ref w_flowsR, .ref w_makerO, .ref w_passesO, .ref w_allocatorO, .ref w_machineO, .ref w_endsR, .ref w_programO, .ref w_spareO, .int w_errorPlace])), (w_machineO, .inr (10, [.int w_machine_outcome, .int w_machine_result, .int w_machine_steps, .ref w_machine_memoryA, .ref w_machine_programR, .ref w_machine_flowsR, .ref w_machine_allocatorR, .ref w_machine_toldA, .int w_machine_isRunning, .int w_machine_calls, .ref w_machine_functionA, .ref w_machine_atA, .ref w_machine_blockA, .ref w_machine_blockAheadA, .ref w_machine_argumentsA, .ref w_machine_cellsA, .ref w_machine_slotsA, .int w_machine_slotRoom, .ref w_machine_waitingA, .int w_machine_count])), (w_machine_memoryA, .inl (w_machine_memoryC, 16, .inl w_machine_memoryF))] H := by exact hP.sub [2, 0, 1] rfl
  have hD9 : va_D A [(h0, .inr (11, [.ref w_tokensO, .ref w_readerO, .ref w_flowsR, .ref w_makerO, .ref w_passesO, .ref w_allocatorO, .ref w_machineO, .ref w_endsR, .ref w_programO, .ref w_spareO, .int w_errorPlace])), (w_machineO, .inr (10, [.int w_machine_outcome, .int w_machine_result, .int w_machine_steps, .ref w_machine_memoryA, .ref w_machine_programR, .ref w_machine_flowsR, .ref w_machine_allocatorR, .ref w_machine_toldA, .int w_machine_isRunning, .int w_machine_calls, .ref w_machine_functionA, .ref w_machine_atA, .ref w_machine_blockA, .ref w_machine_blockAheadA, .ref w_machine_argumentsA, .ref w_machine_cellsA, .ref w_machine_slotsA, .int w_machine_slotRoom, .ref w_machine_waitingA, .int w_machine_count])), (w_machine_memoryA, .inl (w_machine_memoryC, 16, .inl w_machine_memoryF))] := by exact hD.sub [2, 0, 1] (by decide) rfl
  have hK9 : va_K (dC, dI) cls [(w_machine_memoryC, .int)] s := hK.sub [0] rfl
  refine W.widen (k := 0) (n := 0) (Nat.le_of_ble_eq_true rfl) (Nat.le_of_ble_eq_true rfl) ?_
  exact W.iret (v := (w_machine_memoryF (Int32.toNatClampNeg p0))) hx hb hr (fun t ht hW => ⟨⟨(w_machine_memoryF (Int32.toNatClampNeg p0)), (), rfl, rfl, ⟨by rw [ht]; exact hP9, va_K.moved hW.alike hK9, hD9⟩⟩, hS.F ht⟩) hS.2.2 dX11_word_16
