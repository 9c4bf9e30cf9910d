abbrev cX0_writeCode : ByteArray := prog_2_method_13_code
def yX0_writeCode : MethodName := ⟨RX0, "writeCode", "(LGearbox$Steps;)V"⟩
abbrev cX0_writeStep : ByteArray := prog_2_method_16_code
def yX0_writeStep : MethodName := ⟨RX0, "writeStep", "(LGearbox$Steps;I)V"⟩
abbrev cX0_writeEnd : ByteArray := prog_2_method_17_code
def yX0_writeEnd : MethodName := ⟨RX0, "writeEnd", "(LGearbox$Steps;I)V"⟩
abbrev cX3_argumentOf : ByteArray := prog_5_method_15_code
def yX3_argumentOf : MethodName := ⟨RX3, "argumentOf", "(II)I"⟩
abbrev cX3_bringBack : ByteArray := prog_5_method_5_code
def yX3_bringBack : MethodName := ⟨RX3, "bringBack", "([I)V"⟩
abbrev cX3_close : ByteArray := prog_5_method_10_code
def yX3_close : MethodName := ⟨RX3, "close", "(I)Z"⟩
abbrev cX3_stop : ByteArray := prog_5_method_11_code
def yX3_stop : MethodName := ⟨RX3, "stop", "(I)V"⟩
abbrev cX3_endAlike : ByteArray := prog_5_method_6_code
def yX3_endAlike : MethodName := ⟨RX3, "endAlike", "([I[I)Z"⟩
abbrev cX3_enter : ByteArray := prog_5_method_9_code
def yX3_enter : MethodName := ⟨RX3, "enter", "(II)V"⟩
abbrev cX3_pop : ByteArray := prog_5_method_14_code
def yX3_pop : MethodName := ⟨RX3, "pop", "()I"⟩
abbrev cX3_enterBlock : ByteArray := prog_5_method_23_code
def yX3_enterBlock : MethodName := ⟨RX3, "enterBlock", "(LGearbox$Flow;I)V"⟩
abbrev cX3_tick : ByteArray := prog_5_method_12_code
def yX3_tick : MethodName := ⟨RX3, "tick", "(I)Z"⟩
theorem dX0_writeCode_0 : decode cX0_writeCode 0 = .ok (.iconst 0, 1) := by decide +kernel
theorem dX0_writeCode_1 : decode cX0_writeCode 1 = .ok (.istore_n 2, 1) := by decide +kernel
theorem dX0_writeCode_2 : decode cX0_writeCode 2 = .ok (.iconst 0, 1) := by decide +kernel
theorem dX0_writeCode_3 : decode cX0_writeCode 3 = .ok (.istore_n 3, 1) := by decide +kernel
theorem dX0_writeCode_4 : decode cX0_writeCode 4 = .ok (.iload_n 3, 1) := by decide +kernel
theorem dX0_writeCode_5 : decode cX0_writeCode 5 = .ok (.aload_n 0, 1) := by decide +kernel
theorem dX0_writeCode_6 : decode cX0_writeCode 6 = .ok (.getfield 12, 3) := by decide +kernel
theorem dX0_writeCode_9 : decode cX0_writeCode 9 = .ok (.getfield 93, 3) := by decide +kernel
theorem dX0_writeCode_12 : decode cX0_writeCode 12 = .ok (.if_icmp .ge 75, 3) := by decide +kernel
theorem dX0_writeCode_15 : decode cX0_writeCode 15 = .ok (.aload_n 0, 1) := by decide +kernel
theorem dX0_writeCode_16 : decode cX0_writeCode 16 = .ok (.getfield 53, 3) := by decide +kernel
theorem dX0_writeCode_19 : decode cX0_writeCode 19 = .ok (.iload_n 3, 1) := by decide +kernel
theorem dX0_writeCode_20 : decode cX0_writeCode 20 = .ok (.iload_n 2, 1) := by decide +kernel
theorem dX0_writeCode_21 : decode cX0_writeCode 21 = .ok (.iastore, 1) := by decide +kernel
theorem dX0_writeCode_22 : decode cX0_writeCode 22 = .ok (.aload_n 0, 1) := by decide +kernel
theorem dX0_writeCode_23 : decode cX0_writeCode 23 = .ok (.getfield 12, 3) := by decide +kernel
theorem dX0_writeCode_26 : decode cX0_writeCode 26 = .ok (.getfield 152, 3) := by decide +kernel
theorem dX0_writeCode_29 : decode cX0_writeCode 29 = .ok (.iload_n 3, 1) := by decide +kernel
theorem dX0_writeCode_30 : decode cX0_writeCode 30 = .ok (.iaload, 1) := by decide +kernel
theorem dX0_writeCode_31 : decode cX0_writeCode 31 = .ok (.istore 4, 2) := by decide +kernel
theorem dX0_writeCode_33 : decode cX0_writeCode 33 = .ok (.iload 4, 2) := by decide +kernel
theorem dX0_writeCode_35 : decode cX0_writeCode 35 = .ok (.ifCond .lt 38, 3) := by decide +kernel
theorem dX0_writeCode_38 : decode cX0_writeCode 38 = .ok (.iload_n 2, 1) := by decide +kernel
theorem dX0_writeCode_39 : decode cX0_writeCode 39 = .ok (.aload_n 0, 1) := by decide +kernel
theorem dX0_writeCode_40 : decode cX0_writeCode 40 = .ok (.iload 4, 2) := by decide +kernel
theorem dX0_writeCode_42 : decode cX0_writeCode 42 = .ok (.invokevirtual 228, 3) := by decide +kernel
theorem dX0_writeCode_45 : decode cX0_writeCode 45 = .ok (.ifCond .eq 7, 3) := by decide +kernel
theorem dX0_writeCode_48 : decode cX0_writeCode 48 = .ok (.iconst 0, 1) := by decide +kernel
theorem dX0_writeCode_49 : decode cX0_writeCode 49 = .ok (.goto 4, 3) := by decide +kernel
theorem dX0_writeCode_52 : decode cX0_writeCode 52 = .ok (.iconst 1, 1) := by decide +kernel
theorem dX0_writeCode_53 : decode cX0_writeCode 53 = .ok (.iadd, 1) := by decide +kernel
theorem dX0_writeCode_54 : decode cX0_writeCode 54 = .ok (.istore_n 2, 1) := by decide +kernel
theorem dX0_writeCode_55 : decode cX0_writeCode 55 = .ok (.aload_n 0, 1) := by decide +kernel
theorem dX0_writeCode_56 : decode cX0_writeCode 56 = .ok (.getfield 12, 3) := by decide +kernel
theorem dX0_writeCode_59 : decode cX0_writeCode 59 = .ok (.getfield 155, 3) := by decide +kernel
theorem dX0_writeCode_62 : decode cX0_writeCode 62 = .ok (.getfield 183, 3) := by decide +kernel
theorem dX0_writeCode_65 : decode cX0_writeCode 65 = .ok (.iload 4, 2) := by decide +kernel
theorem dX0_writeCode_67 : decode cX0_writeCode 67 = .ok (.iaload, 1) := by decide +kernel
theorem dX0_writeCode_68 : decode cX0_writeCode 68 = .ok (.istore 4, 2) := by decide +kernel
theorem dX0_writeCode_70 : decode cX0_writeCode 70 = .ok (.goto (-37), 3) := by decide +kernel
theorem dX0_writeCode_73 : decode cX0_writeCode 73 = .ok (.iload_n 2, 1) := by decide +kernel
theorem dX0_writeCode_74 : decode cX0_writeCode 74 = .ok (.aload_n 0, 1) := by decide +kernel
theorem dX0_writeCode_75 : decode cX0_writeCode 75 = .ok (.iload_n 3, 1) := by decide +kernel
theorem dX0_writeCode_76 : decode cX0_writeCode 76 = .ok (.invokevirtual 231, 3) := by decide +kernel
theorem dX0_writeCode_79 : decode cX0_writeCode 79 = .ok (.iadd, 1) := by decide +kernel
theorem dX0_writeCode_80 : decode cX0_writeCode 80 = .ok (.istore_n 2, 1) := by decide +kernel
theorem dX0_writeCode_81 : decode cX0_writeCode 81 = .ok (.iinc 3 1, 3) := by decide +kernel
theorem dX0_writeCode_84 : decode cX0_writeCode 84 = .ok (.goto (-80), 3) := by decide +kernel
theorem dX0_writeCode_87 : decode cX0_writeCode 87 = .ok (.aload_n 1, 1) := by decide +kernel
theorem dX0_writeCode_88 : decode cX0_writeCode 88 = .ok (.iconst 0, 1) := by decide +kernel
theorem dX0_writeCode_89 : decode cX0_writeCode 89 = .ok (.putfield 81, 3) := by decide +kernel
theorem dX0_writeCode_92 : decode cX0_writeCode 92 = .ok (.iconst 0, 1) := by decide +kernel
theorem dX0_writeCode_93 : decode cX0_writeCode 93 = .ok (.istore_n 3, 1) := by decide +kernel
theorem dX0_writeCode_94 : decode cX0_writeCode 94 = .ok (.iload_n 3, 1) := by decide +kernel
theorem dX0_writeCode_95 : decode cX0_writeCode 95 = .ok (.aload_n 0, 1) := by decide +kernel
theorem dX0_writeCode_96 : decode cX0_writeCode 96 = .ok (.getfield 12, 3) := by decide +kernel
theorem dX0_writeCode_99 : decode cX0_writeCode 99 = .ok (.getfield 93, 3) := by decide +kernel
theorem dX0_writeCode_102 : decode cX0_writeCode 102 = .ok (.if_icmp .ge 65, 3) := by decide +kernel
theorem dX0_writeCode_105 : decode cX0_writeCode 105 = .ok (.aload_n 0, 1) := by decide +kernel
theorem dX0_writeCode_106 : decode cX0_writeCode 106 = .ok (.getfield 12, 3) := by decide +kernel
theorem dX0_writeCode_109 : decode cX0_writeCode 109 = .ok (.getfield 152, 3) := by decide +kernel
theorem dX0_writeCode_112 : decode cX0_writeCode 112 = .ok (.iload_n 3, 1) := by decide +kernel
theorem dX0_writeCode_113 : decode cX0_writeCode 113 = .ok (.iaload, 1) := by decide +kernel
theorem dX0_writeCode_114 : decode cX0_writeCode 114 = .ok (.istore 4, 2) := by decide +kernel
theorem dX0_writeCode_116 : decode cX0_writeCode 116 = .ok (.iload 4, 2) := by decide +kernel
theorem dX0_writeCode_118 : decode cX0_writeCode 118 = .ok (.ifCond .lt 37, 3) := by decide +kernel
theorem dX0_writeCode_121 : decode cX0_writeCode 121 = .ok (.aload_n 0, 1) := by decide +kernel
theorem dX0_writeCode_122 : decode cX0_writeCode 122 = .ok (.iload 4, 2) := by decide +kernel
theorem dX0_writeCode_124 : decode cX0_writeCode 124 = .ok (.invokevirtual 228, 3) := by decide +kernel
theorem dX0_writeCode_127 : decode cX0_writeCode 127 = .ok (.ifCond .ne 10, 3) := by decide +kernel
theorem dX0_writeCode_130 : decode cX0_writeCode 130 = .ok (.aload_n 0, 1) := by decide +kernel
theorem dX0_writeCode_131 : decode cX0_writeCode 131 = .ok (.aload_n 1, 1) := by decide +kernel
theorem dX0_writeCode_132 : decode cX0_writeCode 132 = .ok (.iload 4, 2) := by decide +kernel
theorem dX0_writeCode_134 : decode cX0_writeCode 134 = .ok (.invokevirtual 234, 3) := by decide +kernel
theorem dX0_writeCode_137 : decode cX0_writeCode 137 = .ok (.aload_n 0, 1) := by decide +kernel
theorem dX0_writeCode_138 : decode cX0_writeCode 138 = .ok (.getfield 12, 3) := by decide +kernel
theorem dX0_writeCode_141 : decode cX0_writeCode 141 = .ok (.getfield 155, 3) := by decide +kernel
theorem dX0_writeCode_144 : decode cX0_writeCode 144 = .ok (.getfield 183, 3) := by decide +kernel
theorem dX0_writeCode_147 : decode cX0_writeCode 147 = .ok (.iload 4, 2) := by decide +kernel
theorem dX0_writeCode_149 : decode cX0_writeCode 149 = .ok (.iaload, 1) := by decide +kernel
theorem dX0_writeCode_150 : decode cX0_writeCode 150 = .ok (.istore 4, 2) := by decide +kernel
theorem dX0_writeCode_152 : decode cX0_writeCode 152 = .ok (.goto (-36), 3) := by decide +kernel
theorem dX0_writeCode_155 : decode cX0_writeCode 155 = .ok (.aload_n 0, 1) := by decide +kernel
theorem dX0_writeCode_156 : decode cX0_writeCode 156 = .ok (.aload_n 1, 1) := by decide +kernel
theorem dX0_writeCode_157 : decode cX0_writeCode 157 = .ok (.iload_n 3, 1) := by decide +kernel
theorem dX0_writeCode_158 : decode cX0_writeCode 158 = .ok (.invokevirtual 238, 3) := by decide +kernel
theorem dX0_writeCode_161 : decode cX0_writeCode 161 = .ok (.iinc 3 1, 3) := by decide +kernel
theorem dX0_writeCode_164 : decode cX0_writeCode 164 = .ok (.goto (-70), 3) := by decide +kernel
theorem dX0_writeCode_167 : decode cX0_writeCode 167 = .ok (.return_, 1) := by decide +kernel
theorem dX0_writeEnd_0 : decode cX0_writeEnd 0 = .ok (.iload_n 2, 1) := by decide +kernel
theorem dX0_writeEnd_1 : decode cX0_writeEnd 1 = .ok (.iconst 1, 1) := by decide +kernel
theorem dX0_writeEnd_2 : decode cX0_writeEnd 2 = .ok (.iadd, 1) := by decide +kernel
theorem dX0_writeEnd_3 : decode cX0_writeEnd 3 = .ok (.istore_n 3, 1) := by decide +kernel
theorem dX0_writeEnd_4 : decode cX0_writeEnd 4 = .ok (.aload_n 0, 1) := by decide +kernel
theorem dX0_writeEnd_5 : decode cX0_writeEnd 5 = .ok (.getfield 12, 3) := by decide +kernel
theorem dX0_writeEnd_8 : decode cX0_writeEnd 8 = .ok (.getfield 244, 3) := by decide +kernel
theorem dX0_writeEnd_11 : decode cX0_writeEnd 11 = .ok (.iload_n 2, 1) := by decide +kernel
theorem dX0_writeEnd_12 : decode cX0_writeEnd 12 = .ok (.iaload, 1) := by decide +kernel
theorem dX0_writeEnd_13 : decode cX0_writeEnd 13 = .ok (.istore 4, 2) := by decide +kernel
theorem dX0_writeEnd_15 : decode cX0_writeEnd 15 = .ok (.aload_n 0, 1) := by decide +kernel
theorem dX0_writeEnd_16 : decode cX0_writeEnd 16 = .ok (.getfield 12, 3) := by decide +kernel
theorem dX0_writeEnd_19 : decode cX0_writeEnd 19 = .ok (.getfield 255, 3) := by decide +kernel
theorem dX0_writeEnd_22 : decode cX0_writeEnd 22 = .ok (.iload_n 2, 1) := by decide +kernel
theorem dX0_writeEnd_23 : decode cX0_writeEnd 23 = .ok (.iaload, 1) := by decide +kernel
theorem dX0_writeEnd_24 : decode cX0_writeEnd 24 = .ok (.istore 5, 2) := by decide +kernel
theorem dX0_writeEnd_26 : decode cX0_writeEnd 26 = .ok (.aload_n 0, 1) := by decide +kernel
theorem dX0_writeEnd_27 : decode cX0_writeEnd 27 = .ok (.getfield 12, 3) := by decide +kernel
theorem dX0_writeEnd_30 : decode cX0_writeEnd 30 = .ok (.getfield 241, 3) := by decide +kernel
theorem dX0_writeEnd_33 : decode cX0_writeEnd 33 = .ok (.iload_n 2, 1) := by decide +kernel
theorem dX0_writeEnd_34 : decode cX0_writeEnd 34 = .ok (.iaload, 1) := by decide +kernel
theorem dX0_writeEnd_35 : decode cX0_writeEnd 35 = .ok (.bipush 22, 2) := by decide +kernel
theorem dX0_writeEnd_37 : decode cX0_writeEnd 37 = .ok (.if_icmp .ne 26, 3) := by decide +kernel
theorem dX0_writeEnd_40 : decode cX0_writeEnd 40 = .ok (.iload 4, 2) := by decide +kernel
theorem dX0_writeEnd_42 : decode cX0_writeEnd 42 = .ok (.iload_n 3, 1) := by decide +kernel
theorem dX0_writeEnd_43 : decode cX0_writeEnd 43 = .ok (.if_icmp .eq 19, 3) := by decide +kernel
theorem dX0_writeEnd_46 : decode cX0_writeEnd 46 = .ok (.aload_n 1, 1) := by decide +kernel
theorem dX0_writeEnd_47 : decode cX0_writeEnd 47 = .ok (.bipush 22, 2) := by decide +kernel
theorem dX0_writeEnd_49 : decode cX0_writeEnd 49 = .ok (.iconst (-1), 1) := by decide +kernel
theorem dX0_writeEnd_50 : decode cX0_writeEnd 50 = .ok (.aload_n 0, 1) := by decide +kernel
theorem dX0_writeEnd_51 : decode cX0_writeEnd 51 = .ok (.getfield 53, 3) := by decide +kernel
theorem dX0_writeEnd_54 : decode cX0_writeEnd 54 = .ok (.iload 4, 2) := by decide +kernel
theorem dX0_writeEnd_56 : decode cX0_writeEnd 56 = .ok (.iaload, 1) := by decide +kernel
theorem dX0_writeEnd_57 : decode cX0_writeEnd 57 = .ok (.iconst (-1), 1) := by decide +kernel
theorem dX0_writeEnd_58 : decode cX0_writeEnd 58 = .ok (.invokevirtual 251, 3) := by decide +kernel
theorem dX0_writeEnd_61 : decode cX0_writeEnd 61 = .ok (.pop, 1) := by decide +kernel
theorem dX0_writeEnd_62 : decode cX0_writeEnd 62 = .ok (.return_, 1) := by decide +kernel
theorem dX0_writeEnd_63 : decode cX0_writeEnd 63 = .ok (.aload_n 0, 1) := by decide +kernel
theorem dX0_writeEnd_64 : decode cX0_writeEnd 64 = .ok (.getfield 37, 3) := by decide +kernel
theorem dX0_writeEnd_67 : decode cX0_writeEnd 67 = .ok (.getfield 212, 3) := by decide +kernel
theorem dX0_writeEnd_70 : decode cX0_writeEnd 70 = .ok (.aload_n 0, 1) := by decide +kernel
theorem dX0_writeEnd_71 : decode cX0_writeEnd 71 = .ok (.getfield 12, 3) := by decide +kernel
theorem dX0_writeEnd_74 : decode cX0_writeEnd 74 = .ok (.getfield 202, 3) := by decide +kernel
theorem dX0_writeEnd_77 : decode cX0_writeEnd 77 = .ok (.iload_n 2, 1) := by decide +kernel
theorem dX0_writeEnd_78 : decode cX0_writeEnd 78 = .ok (.iaload, 1) := by decide +kernel
theorem dX0_writeEnd_79 : decode cX0_writeEnd 79 = .ok (.iaload, 1) := by decide +kernel
theorem dX0_writeEnd_80 : decode cX0_writeEnd 80 = .ok (.istore 6, 2) := by decide +kernel
theorem dX0_writeEnd_82 : decode cX0_writeEnd 82 = .ok (.aload_n 0, 1) := by decide +kernel
theorem dX0_writeEnd_83 : decode cX0_writeEnd 83 = .ok (.getfield 12, 3) := by decide +kernel
theorem dX0_writeEnd_86 : decode cX0_writeEnd 86 = .ok (.getfield 241, 3) := by decide +kernel
theorem dX0_writeEnd_89 : decode cX0_writeEnd 89 = .ok (.iload_n 2, 1) := by decide +kernel
theorem dX0_writeEnd_90 : decode cX0_writeEnd 90 = .ok (.iaload, 1) := by decide +kernel
theorem dX0_writeEnd_91 : decode cX0_writeEnd 91 = .ok (.bipush 24, 2) := by decide +kernel
theorem dX0_writeEnd_93 : decode cX0_writeEnd 93 = .ok (.if_icmp .ne 17, 3) := by decide +kernel
theorem dX0_writeEnd_96 : decode cX0_writeEnd 96 = .ok (.aload_n 1, 1) := by decide +kernel
theorem dX0_writeEnd_97 : decode cX0_writeEnd 97 = .ok (.bipush 24, 2) := by decide +kernel
theorem dX0_writeEnd_99 : decode cX0_writeEnd 99 = .ok (.iconst (-1), 1) := by decide +kernel
theorem dX0_writeEnd_100 : decode cX0_writeEnd 100 = .ok (.iload 6, 2) := by decide +kernel
theorem dX0_writeEnd_102 : decode cX0_writeEnd 102 = .ok (.iconst (-1), 1) := by decide +kernel
theorem dX0_writeEnd_103 : decode cX0_writeEnd 103 = .ok (.invokevirtual 251, 3) := by decide +kernel
theorem dX0_writeEnd_106 : decode cX0_writeEnd 106 = .ok (.pop, 1) := by decide +kernel
theorem dX0_writeEnd_107 : decode cX0_writeEnd 107 = .ok (.goto 88, 3) := by decide +kernel
theorem dX0_writeEnd_110 : decode cX0_writeEnd 110 = .ok (.iload 5, 2) := by decide +kernel
theorem dX0_writeEnd_112 : decode cX0_writeEnd 112 = .ok (.iload_n 3, 1) := by decide +kernel
theorem dX0_writeEnd_113 : decode cX0_writeEnd 113 = .ok (.if_icmp .ne 23, 3) := by decide +kernel
theorem dX0_writeEnd_116 : decode cX0_writeEnd 116 = .ok (.aload_n 1, 1) := by decide +kernel
theorem dX0_writeEnd_117 : decode cX0_writeEnd 117 = .ok (.bipush 23, 2) := by decide +kernel
theorem dX0_writeEnd_119 : decode cX0_writeEnd 119 = .ok (.iconst (-1), 1) := by decide +kernel
theorem dX0_writeEnd_120 : decode cX0_writeEnd 120 = .ok (.iload 6, 2) := by decide +kernel
theorem dX0_writeEnd_122 : decode cX0_writeEnd 122 = .ok (.aload_n 0, 1) := by decide +kernel
theorem dX0_writeEnd_123 : decode cX0_writeEnd 123 = .ok (.getfield 53, 3) := by decide +kernel
theorem dX0_writeEnd_126 : decode cX0_writeEnd 126 = .ok (.iload 4, 2) := by decide +kernel
theorem dX0_writeEnd_128 : decode cX0_writeEnd 128 = .ok (.iaload, 1) := by decide +kernel
theorem dX0_writeEnd_129 : decode cX0_writeEnd 129 = .ok (.invokevirtual 251, 3) := by decide +kernel
theorem dX0_writeEnd_132 : decode cX0_writeEnd 132 = .ok (.pop, 1) := by decide +kernel
theorem dX0_writeEnd_133 : decode cX0_writeEnd 133 = .ok (.goto 62, 3) := by decide +kernel
theorem dX0_writeEnd_136 : decode cX0_writeEnd 136 = .ok (.iload 4, 2) := by decide +kernel
theorem dX0_writeEnd_138 : decode cX0_writeEnd 138 = .ok (.iload_n 3, 1) := by decide +kernel
theorem dX0_writeEnd_139 : decode cX0_writeEnd 139 = .ok (.if_icmp .ne 23, 3) := by decide +kernel
theorem dX0_writeEnd_142 : decode cX0_writeEnd 142 = .ok (.aload_n 1, 1) := by decide +kernel
theorem dX0_writeEnd_143 : decode cX0_writeEnd 143 = .ok (.bipush 28, 2) := by decide +kernel
theorem dX0_writeEnd_145 : decode cX0_writeEnd 145 = .ok (.iconst (-1), 1) := by decide +kernel
theorem dX0_writeEnd_146 : decode cX0_writeEnd 146 = .ok (.iload 6, 2) := by decide +kernel
theorem dX0_writeEnd_148 : decode cX0_writeEnd 148 = .ok (.aload_n 0, 1) := by decide +kernel
theorem dX0_writeEnd_149 : decode cX0_writeEnd 149 = .ok (.getfield 53, 3) := by decide +kernel
theorem dX0_writeEnd_152 : decode cX0_writeEnd 152 = .ok (.iload 5, 2) := by decide +kernel
theorem dX0_writeEnd_154 : decode cX0_writeEnd 154 = .ok (.iaload, 1) := by decide +kernel
theorem dX0_writeEnd_155 : decode cX0_writeEnd 155 = .ok (.invokevirtual 251, 3) := by decide +kernel
theorem dX0_writeEnd_158 : decode cX0_writeEnd 158 = .ok (.pop, 1) := by decide +kernel
theorem dX0_writeEnd_159 : decode cX0_writeEnd 159 = .ok (.goto 36, 3) := by decide +kernel
theorem dX0_writeEnd_162 : decode cX0_writeEnd 162 = .ok (.aload_n 1, 1) := by decide +kernel
theorem dX0_writeEnd_163 : decode cX0_writeEnd 163 = .ok (.bipush 23, 2) := by decide +kernel
theorem dX0_writeEnd_165 : decode cX0_writeEnd 165 = .ok (.iconst (-1), 1) := by decide +kernel
theorem dX0_writeEnd_166 : decode cX0_writeEnd 166 = .ok (.iload 6, 2) := by decide +kernel
theorem dX0_writeEnd_168 : decode cX0_writeEnd 168 = .ok (.aload_n 0, 1) := by decide +kernel
theorem dX0_writeEnd_169 : decode cX0_writeEnd 169 = .ok (.getfield 53, 3) := by decide +kernel
theorem dX0_writeEnd_172 : decode cX0_writeEnd 172 = .ok (.iload 4, 2) := by decide +kernel
theorem dX0_writeEnd_174 : decode cX0_writeEnd 174 = .ok (.iaload, 1) := by decide +kernel
theorem dX0_writeEnd_175 : decode cX0_writeEnd 175 = .ok (.invokevirtual 251, 3) := by decide +kernel
theorem dX0_writeEnd_178 : decode cX0_writeEnd 178 = .ok (.pop, 1) := by decide +kernel
theorem dX0_writeEnd_179 : decode cX0_writeEnd 179 = .ok (.aload_n 1, 1) := by decide +kernel
theorem dX0_writeEnd_180 : decode cX0_writeEnd 180 = .ok (.bipush 22, 2) := by decide +kernel
theorem dX0_writeEnd_182 : decode cX0_writeEnd 182 = .ok (.iconst (-1), 1) := by decide +kernel
theorem dX0_writeEnd_183 : decode cX0_writeEnd 183 = .ok (.aload_n 0, 1) := by decide +kernel
theorem dX0_writeEnd_184 : decode cX0_writeEnd 184 = .ok (.getfield 53, 3) := by decide +kernel
theorem dX0_writeEnd_187 : decode cX0_writeEnd 187 = .ok (.iload 5, 2) := by decide +kernel
theorem dX0_writeEnd_189 : decode cX0_writeEnd 189 = .ok (.iaload, 1) := by decide +kernel
theorem dX0_writeEnd_190 : decode cX0_writeEnd 190 = .ok (.iconst (-1), 1) := by decide +kernel
theorem dX0_writeEnd_191 : decode cX0_writeEnd 191 = .ok (.invokevirtual 251, 3) := by decide +kernel
theorem dX0_writeEnd_194 : decode cX0_writeEnd 194 = .ok (.pop, 1) := by decide +kernel
theorem dX0_writeEnd_195 : decode cX0_writeEnd 195 = .ok (.return_, 1) := by decide +kernel
theorem dX0_writeStep_0 : decode cX0_writeStep 0 = .ok (.aload_n 0, 1) := by decide +kernel
theorem dX0_writeStep_1 : decode cX0_writeStep 1 = .ok (.getfield 12, 3) := by decide +kernel
theorem dX0_writeStep_4 : decode cX0_writeStep 4 = .ok (.getfield 155, 3) := by decide +kernel
theorem dX0_writeStep_7 : decode cX0_writeStep 7 = .ok (.astore_n 3, 1) := by decide +kernel
theorem dX0_writeStep_8 : decode cX0_writeStep 8 = .ok (.aload_n 3, 1) := by decide +kernel
theorem dX0_writeStep_9 : decode cX0_writeStep 9 = .ok (.getfield 159, 3) := by decide +kernel
theorem dX0_writeStep_12 : decode cX0_writeStep 12 = .ok (.iload_n 2, 1) := by decide +kernel
theorem dX0_writeStep_13 : decode cX0_writeStep 13 = .ok (.iaload, 1) := by decide +kernel
theorem dX0_writeStep_14 : decode cX0_writeStep 14 = .ok (.istore 4, 2) := by decide +kernel
theorem dX0_writeStep_16 : decode cX0_writeStep 16 = .ok (.aload_n 3, 1) := by decide +kernel
theorem dX0_writeStep_17 : decode cX0_writeStep 17 = .ok (.getfield 162, 3) := by decide +kernel
theorem dX0_writeStep_20 : decode cX0_writeStep 20 = .ok (.iload_n 2, 1) := by decide +kernel
theorem dX0_writeStep_21 : decode cX0_writeStep 21 = .ok (.iaload, 1) := by decide +kernel
theorem dX0_writeStep_22 : decode cX0_writeStep 22 = .ok (.ifCond .ge 7, 3) := by decide +kernel
theorem dX0_writeStep_25 : decode cX0_writeStep 25 = .ok (.iconst (-1), 1) := by decide +kernel
theorem dX0_writeStep_26 : decode cX0_writeStep 26 = .ok (.goto 17, 3) := by decide +kernel
theorem dX0_writeStep_29 : decode cX0_writeStep 29 = .ok (.aload_n 0, 1) := by decide +kernel
theorem dX0_writeStep_30 : decode cX0_writeStep 30 = .ok (.getfield 37, 3) := by decide +kernel
theorem dX0_writeStep_33 : decode cX0_writeStep 33 = .ok (.getfield 212, 3) := by decide +kernel
theorem dX0_writeStep_36 : decode cX0_writeStep 36 = .ok (.aload_n 3, 1) := by decide +kernel
theorem dX0_writeStep_37 : decode cX0_writeStep 37 = .ok (.getfield 162, 3) := by decide +kernel
theorem dX0_writeStep_40 : decode cX0_writeStep 40 = .ok (.iload_n 2, 1) := by decide +kernel
theorem dX0_writeStep_41 : decode cX0_writeStep 41 = .ok (.iaload, 1) := by decide +kernel
theorem dX0_writeStep_42 : decode cX0_writeStep 42 = .ok (.iaload, 1) := by decide +kernel
theorem dX0_writeStep_43 : decode cX0_writeStep 43 = .ok (.istore 5, 2) := by decide +kernel
theorem dX0_writeStep_45 : decode cX0_writeStep 45 = .ok (.iload 4, 2) := by decide +kernel
theorem dX0_writeStep_47 : decode cX0_writeStep 47 = .ok (.invokestatic 189, 3) := by decide +kernel
theorem dX0_writeStep_50 : decode cX0_writeStep 50 = .ok (.ifCond .eq 20, 3) := by decide +kernel
theorem dX0_writeStep_53 : decode cX0_writeStep 53 = .ok (.aload_n 0, 1) := by decide +kernel
theorem dX0_writeStep_54 : decode cX0_writeStep 54 = .ok (.getfield 37, 3) := by decide +kernel
theorem dX0_writeStep_57 : decode cX0_writeStep 57 = .ok (.getfield 212, 3) := by decide +kernel
theorem dX0_writeStep_60 : decode cX0_writeStep 60 = .ok (.aload_n 3, 1) := by decide +kernel
theorem dX0_writeStep_61 : decode cX0_writeStep 61 = .ok (.getfield 165, 3) := by decide +kernel
theorem dX0_writeStep_64 : decode cX0_writeStep 64 = .ok (.iload_n 2, 1) := by decide +kernel
theorem dX0_writeStep_65 : decode cX0_writeStep 65 = .ok (.iaload, 1) := by decide +kernel
theorem dX0_writeStep_66 : decode cX0_writeStep 66 = .ok (.iaload, 1) := by decide +kernel
theorem dX0_writeStep_67 : decode cX0_writeStep 67 = .ok (.goto 9, 3) := by decide +kernel
theorem dX0_writeStep_70 : decode cX0_writeStep 70 = .ok (.aload_n 3, 1) := by decide +kernel
theorem dX0_writeStep_71 : decode cX0_writeStep 71 = .ok (.getfield 165, 3) := by decide +kernel
theorem dX0_writeStep_74 : decode cX0_writeStep 74 = .ok (.iload_n 2, 1) := by decide +kernel
theorem dX0_writeStep_75 : decode cX0_writeStep 75 = .ok (.iaload, 1) := by decide +kernel
theorem dX0_writeStep_76 : decode cX0_writeStep 76 = .ok (.istore 6, 2) := by decide +kernel
theorem dX0_writeStep_78 : decode cX0_writeStep 78 = .ok (.iload 4, 2) := by decide +kernel
theorem dX0_writeStep_80 : decode cX0_writeStep 80 = .ok (.invokestatic 193, 3) := by decide +kernel
theorem dX0_writeStep_83 : decode cX0_writeStep 83 = .ok (.ifCond .eq 20, 3) := by decide +kernel
theorem dX0_writeStep_86 : decode cX0_writeStep 86 = .ok (.aload_n 0, 1) := by decide +kernel
theorem dX0_writeStep_87 : decode cX0_writeStep 87 = .ok (.getfield 37, 3) := by decide +kernel
theorem dX0_writeStep_90 : decode cX0_writeStep 90 = .ok (.getfield 212, 3) := by decide +kernel
theorem dX0_writeStep_93 : decode cX0_writeStep 93 = .ok (.aload_n 3, 1) := by decide +kernel
theorem dX0_writeStep_94 : decode cX0_writeStep 94 = .ok (.getfield 196, 3) := by decide +kernel
theorem dX0_writeStep_97 : decode cX0_writeStep 97 = .ok (.iload_n 2, 1) := by decide +kernel
theorem dX0_writeStep_98 : decode cX0_writeStep 98 = .ok (.iaload, 1) := by decide +kernel
theorem dX0_writeStep_99 : decode cX0_writeStep 99 = .ok (.iaload, 1) := by decide +kernel
theorem dX0_writeStep_100 : decode cX0_writeStep 100 = .ok (.goto 9, 3) := by decide +kernel
theorem dX0_writeStep_103 : decode cX0_writeStep 103 = .ok (.aload_n 3, 1) := by decide +kernel
theorem dX0_writeStep_104 : decode cX0_writeStep 104 = .ok (.getfield 196, 3) := by decide +kernel
theorem dX0_writeStep_107 : decode cX0_writeStep 107 = .ok (.iload_n 2, 1) := by decide +kernel
theorem dX0_writeStep_108 : decode cX0_writeStep 108 = .ok (.iaload, 1) := by decide +kernel
theorem dX0_writeStep_109 : decode cX0_writeStep 109 = .ok (.istore 7, 2) := by decide +kernel
theorem dX0_writeStep_111 : decode cX0_writeStep 111 = .ok (.aload_n 1, 1) := by decide +kernel
theorem dX0_writeStep_112 : decode cX0_writeStep 112 = .ok (.iload 4, 2) := by decide +kernel
theorem dX0_writeStep_114 : decode cX0_writeStep 114 = .ok (.iload 5, 2) := by decide +kernel
theorem dX0_writeStep_116 : decode cX0_writeStep 116 = .ok (.iload 6, 2) := by decide +kernel
theorem dX0_writeStep_118 : decode cX0_writeStep 118 = .ok (.iload 7, 2) := by decide +kernel
theorem dX0_writeStep_120 : decode cX0_writeStep 120 = .ok (.invokevirtual 251, 3) := by decide +kernel
theorem dX0_writeStep_123 : decode cX0_writeStep 123 = .ok (.pop, 1) := by decide +kernel
theorem dX0_writeStep_124 : decode cX0_writeStep 124 = .ok (.return_, 1) := by decide +kernel
theorem dX3_argumentOf_0 : decode cX3_argumentOf 0 = .ok (.aload_n 0, 1) := by decide +kernel
theorem dX3_argumentOf_1 : decode cX3_argumentOf 1 = .ok (.getfield 30, 3) := by decide +kernel
theorem dX3_argumentOf_4 : decode cX3_argumentOf 4 = .ok (.iload_n 1, 1) := by decide +kernel
theorem dX3_argumentOf_5 : decode cX3_argumentOf 5 = .ok (.iconst 4, 1) := by decide +kernel
theorem dX3_argumentOf_6 : decode cX3_argumentOf 6 = .ok (.imul, 1) := by decide +kernel
theorem dX3_argumentOf_7 : decode cX3_argumentOf 7 = .ok (.iload_n 2, 1) := by decide +kernel
theorem dX3_argumentOf_8 : decode cX3_argumentOf 8 = .ok (.iadd, 1) := by decide +kernel
theorem dX3_argumentOf_9 : decode cX3_argumentOf 9 = .ok (.iaload, 1) := by decide +kernel
theorem dX3_argumentOf_10 : decode cX3_argumentOf 10 = .ok (.ireturn, 1) := by decide +kernel
theorem dX3_bringBack_0 : decode cX3_bringBack 0 = .ok (.aload_n 0, 1) := by decide +kernel
theorem dX3_bringBack_1 : decode cX3_bringBack 1 = .ok (.aload_n 1, 1) := by decide +kernel
theorem dX3_bringBack_2 : decode cX3_bringBack 2 = .ok (.iconst 0, 1) := by decide +kernel
theorem dX3_bringBack_3 : decode cX3_bringBack 3 = .ok (.iaload, 1) := by decide +kernel
theorem dX3_bringBack_4 : decode cX3_bringBack 4 = .ok (.putfield 54, 3) := by decide +kernel
theorem dX3_bringBack_7 : decode cX3_bringBack 7 = .ok (.aload_n 0, 1) := by decide +kernel
theorem dX3_bringBack_8 : decode cX3_bringBack 8 = .ok (.aload_n 1, 1) := by decide +kernel
theorem dX3_bringBack_9 : decode cX3_bringBack 9 = .ok (.iconst 1, 1) := by decide +kernel
theorem dX3_bringBack_10 : decode cX3_bringBack 10 = .ok (.iaload, 1) := by decide +kernel
theorem dX3_bringBack_11 : decode cX3_bringBack 11 = .ok (.putfield 58, 3) := by decide +kernel
theorem dX3_bringBack_14 : decode cX3_bringBack 14 = .ok (.aload_n 0, 1) := by decide +kernel
theorem dX3_bringBack_15 : decode cX3_bringBack 15 = .ok (.aload_n 1, 1) := by decide +kernel
theorem dX3_bringBack_16 : decode cX3_bringBack 16 = .ok (.iconst 2, 1) := by decide +kernel
theorem dX3_bringBack_17 : decode cX3_bringBack 17 = .ok (.iaload, 1) := by decide +kernel
theorem dX3_bringBack_18 : decode cX3_bringBack 18 = .ok (.putfield 61, 3) := by decide +kernel
theorem dX3_bringBack_21 : decode cX3_bringBack 21 = .ok (.aload_n 1, 1) := by decide +kernel
theorem dX3_bringBack_22 : decode cX3_bringBack 22 = .ok (.iconst 3, 1) := by decide +kernel
theorem dX3_bringBack_23 : decode cX3_bringBack 23 = .ok (.aload_n 0, 1) := by decide +kernel
theorem dX3_bringBack_24 : decode cX3_bringBack 24 = .ok (.getfield 9, 3) := by decide +kernel
theorem dX3_bringBack_27 : decode cX3_bringBack 27 = .ok (.iconst 0, 1) := by decide +kernel
theorem dX3_bringBack_28 : decode cX3_bringBack 28 = .ok (.bipush 16, 2) := by decide +kernel
theorem dX3_bringBack_30 : decode cX3_bringBack 30 = .ok (.invokestatic 70, 3) := by decide +kernel
theorem dX3_bringBack_33 : decode cX3_bringBack 33 = .ok (.return_, 1) := by decide +kernel
theorem dX3_close_0 : decode cX3_close 0 = .ok (.aload_n 0, 1) := by decide +kernel
theorem dX3_close_1 : decode cX3_close 1 = .ok (.dup, 1) := by decide +kernel
theorem dX3_close_2 : decode cX3_close 2 = .ok (.getfield 84, 3) := by decide +kernel
theorem dX3_close_5 : decode cX3_close 5 = .ok (.iconst 1, 1) := by decide +kernel
theorem dX3_close_6 : decode cX3_close 6 = .ok (.isub, 1) := by decide +kernel
theorem dX3_close_7 : decode cX3_close 7 = .ok (.putfield 84, 3) := by decide +kernel
theorem dX3_close_10 : decode cX3_close 10 = .ok (.aload_n 0, 1) := by decide +kernel
theorem dX3_close_11 : decode cX3_close 11 = .ok (.getfield 84, 3) := by decide +kernel
theorem dX3_close_14 : decode cX3_close 14 = .ok (.ifCond .ne 13, 3) := by decide +kernel
theorem dX3_close_17 : decode cX3_close 17 = .ok (.aload_n 0, 1) := by decide +kernel
theorem dX3_close_18 : decode cX3_close 18 = .ok (.iconst 0, 1) := by decide +kernel
theorem dX3_close_19 : decode cX3_close 19 = .ok (.invokevirtual 137, 3) := by decide +kernel
theorem dX3_close_22 : decode cX3_close 22 = .ok (.aload_n 0, 1) := by decide +kernel
theorem dX3_close_23 : decode cX3_close 23 = .ok (.iload_n 1, 1) := by decide +kernel
theorem dX3_close_24 : decode cX3_close 24 = .ok (.putfield 58, 3) := by decide +kernel
theorem dX3_close_27 : decode cX3_close 27 = .ok (.aload_n 0, 1) := by decide +kernel
theorem dX3_close_28 : decode cX3_close 28 = .ok (.getfield 84, 3) := by decide +kernel
theorem dX3_close_31 : decode cX3_close 31 = .ok (.ifCond .le 7, 3) := by decide +kernel
theorem dX3_close_34 : decode cX3_close 34 = .ok (.iconst 1, 1) := by decide +kernel
theorem dX3_close_35 : decode cX3_close 35 = .ok (.goto 4, 3) := by decide +kernel
theorem dX3_close_38 : decode cX3_close 38 = .ok (.iconst 0, 1) := by decide +kernel
theorem dX3_close_39 : decode cX3_close 39 = .ok (.ireturn, 1) := by decide +kernel
theorem dX3_endAlike_0 : decode cX3_endAlike 0 = .ok (.iconst 0, 1) := by decide +kernel
theorem dX3_endAlike_1 : decode cX3_endAlike 1 = .ok (.istore_n 2, 1) := by decide +kernel
theorem dX3_endAlike_2 : decode cX3_endAlike 2 = .ok (.iload_n 2, 1) := by decide +kernel
theorem dX3_endAlike_3 : decode cX3_endAlike 3 = .ok (.bipush 19, 2) := by decide +kernel
theorem dX3_endAlike_5 : decode cX3_endAlike 5 = .ok (.if_icmp .ge 25, 3) := by decide +kernel
theorem dX3_endAlike_8 : decode cX3_endAlike 8 = .ok (.iload_n 2, 1) := by decide +kernel
theorem dX3_endAlike_9 : decode cX3_endAlike 9 = .ok (.iconst 2, 1) := by decide +kernel
theorem dX3_endAlike_10 : decode cX3_endAlike 10 = .ok (.if_icmp .eq 14, 3) := by decide +kernel
theorem dX3_endAlike_13 : decode cX3_endAlike 13 = .ok (.aload_n 0, 1) := by decide +kernel
theorem dX3_endAlike_14 : decode cX3_endAlike 14 = .ok (.iload_n 2, 1) := by decide +kernel
theorem dX3_endAlike_15 : decode cX3_endAlike 15 = .ok (.iaload, 1) := by decide +kernel
theorem dX3_endAlike_16 : decode cX3_endAlike 16 = .ok (.aload_n 1, 1) := by decide +kernel
theorem dX3_endAlike_17 : decode cX3_endAlike 17 = .ok (.iload_n 2, 1) := by decide +kernel
theorem dX3_endAlike_18 : decode cX3_endAlike 18 = .ok (.iaload, 1) := by decide +kernel
theorem dX3_endAlike_19 : decode cX3_endAlike 19 = .ok (.if_icmp .eq 5, 3) := by decide +kernel
theorem dX3_endAlike_22 : decode cX3_endAlike 22 = .ok (.iconst 0, 1) := by decide +kernel
theorem dX3_endAlike_23 : decode cX3_endAlike 23 = .ok (.ireturn, 1) := by decide +kernel
theorem dX3_endAlike_24 : decode cX3_endAlike 24 = .ok (.iinc 2 1, 3) := by decide +kernel
theorem dX3_endAlike_27 : decode cX3_endAlike 27 = .ok (.goto (-25), 3) := by decide +kernel
theorem dX3_endAlike_30 : decode cX3_endAlike 30 = .ok (.iconst 1, 1) := by decide +kernel
theorem dX3_endAlike_31 : decode cX3_endAlike 31 = .ok (.ireturn, 1) := by decide +kernel
theorem dX3_enter_0 : decode cX3_enter 0 = .ok (.aload_n 0, 1) := by decide +kernel
theorem dX3_enter_1 : decode cX3_enter 1 = .ok (.getfield 84, 3) := by decide +kernel
theorem dX3_enter_4 : decode cX3_enter 4 = .ok (.bipush 8, 2) := by decide +kernel
theorem dX3_enter_6 : decode cX3_enter 6 = .ok (.if_icmp .ne 9, 3) := by decide +kernel
theorem dX3_enter_9 : decode cX3_enter 9 = .ok (.aload_n 0, 1) := by decide +kernel
theorem dX3_enter_10 : decode cX3_enter 10 = .ok (.iconst 3, 1) := by decide +kernel
theorem dX3_enter_11 : decode cX3_enter 11 = .ok (.invokevirtual 137, 3) := by decide +kernel
theorem dX3_enter_14 : decode cX3_enter 14 = .ok (.return_, 1) := by decide +kernel
theorem dX3_enter_15 : decode cX3_enter 15 = .ok (.aload_n 0, 1) := by decide +kernel
theorem dX3_enter_16 : decode cX3_enter 16 = .ok (.getfield 84, 3) := by decide +kernel
theorem dX3_enter_19 : decode cX3_enter 19 = .ok (.istore_n 3, 1) := by decide +kernel
theorem dX3_enter_20 : decode cX3_enter 20 = .ok (.aload_n 0, 1) := by decide +kernel
theorem dX3_enter_21 : decode cX3_enter 21 = .ok (.dup, 1) := by decide +kernel
theorem dX3_enter_22 : decode cX3_enter 22 = .ok (.getfield 84, 3) := by decide +kernel
theorem dX3_enter_25 : decode cX3_enter 25 = .ok (.iconst 1, 1) := by decide +kernel
theorem dX3_enter_26 : decode cX3_enter 26 = .ok (.iadd, 1) := by decide +kernel
theorem dX3_enter_27 : decode cX3_enter 27 = .ok (.putfield 84, 3) := by decide +kernel
theorem dX3_enter_30 : decode cX3_enter 30 = .ok (.aload_n 0, 1) := by decide +kernel
theorem dX3_enter_31 : decode cX3_enter 31 = .ok (.getfield 42, 3) := by decide +kernel
theorem dX3_enter_34 : decode cX3_enter 34 = .ok (.getfield 94, 3) := by decide +kernel
theorem dX3_enter_37 : decode cX3_enter 37 = .ok (.iload_n 2, 1) := by decide +kernel
theorem dX3_enter_38 : decode cX3_enter 38 = .ok (.iaload, 1) := by decide +kernel
theorem dX3_enter_39 : decode cX3_enter 39 = .ok (.istore 4, 2) := by decide +kernel
theorem dX3_enter_41 : decode cX3_enter 41 = .ok (.iload 4, 2) := by decide +kernel
theorem dX3_enter_43 : decode cX3_enter 43 = .ok (.iconst 1, 1) := by decide +kernel
theorem dX3_enter_44 : decode cX3_enter 44 = .ok (.isub, 1) := by decide +kernel
theorem dX3_enter_45 : decode cX3_enter 45 = .ok (.istore 5, 2) := by decide +kernel
theorem dX3_enter_47 : decode cX3_enter 47 = .ok (.iload 5, 2) := by decide +kernel
theorem dX3_enter_49 : decode cX3_enter 49 = .ok (.ifCond .lt 24, 3) := by decide +kernel
theorem dX3_enter_52 : decode cX3_enter 52 = .ok (.aload_n 0, 1) := by decide +kernel
theorem dX3_enter_53 : decode cX3_enter 53 = .ok (.getfield 30, 3) := by decide +kernel
theorem dX3_enter_56 : decode cX3_enter 56 = .ok (.iload_n 3, 1) := by decide +kernel
theorem dX3_enter_57 : decode cX3_enter 57 = .ok (.iconst 4, 1) := by decide +kernel
theorem dX3_enter_58 : decode cX3_enter 58 = .ok (.imul, 1) := by decide +kernel
theorem dX3_enter_59 : decode cX3_enter 59 = .ok (.iload 5, 2) := by decide +kernel
theorem dX3_enter_61 : decode cX3_enter 61 = .ok (.iadd, 1) := by decide +kernel
theorem dX3_enter_62 : decode cX3_enter 62 = .ok (.aload_n 0, 1) := by decide +kernel
theorem dX3_enter_63 : decode cX3_enter 63 = .ok (.invokevirtual 140, 3) := by decide +kernel
theorem dX3_enter_66 : decode cX3_enter 66 = .ok (.iastore, 1) := by decide +kernel
theorem dX3_enter_67 : decode cX3_enter 67 = .ok (.iinc 5 (-1), 3) := by decide +kernel
theorem dX3_enter_70 : decode cX3_enter 70 = .ok (.goto (-23), 3) := by decide +kernel
theorem dX3_enter_73 : decode cX3_enter 73 = .ok (.aload_n 0, 1) := by decide +kernel
theorem dX3_enter_74 : decode cX3_enter 74 = .ok (.getfield 18, 3) := by decide +kernel
theorem dX3_enter_77 : decode cX3_enter 77 = .ok (.iload_n 3, 1) := by decide +kernel
theorem dX3_enter_78 : decode cX3_enter 78 = .ok (.iload_n 2, 1) := by decide +kernel
theorem dX3_enter_79 : decode cX3_enter 79 = .ok (.iastore, 1) := by decide +kernel
theorem dX3_enter_80 : decode cX3_enter 80 = .ok (.aload_n 0, 1) := by decide +kernel
theorem dX3_enter_81 : decode cX3_enter 81 = .ok (.getfield 24, 3) := by decide +kernel
theorem dX3_enter_84 : decode cX3_enter 84 = .ok (.iload_n 3, 1) := by decide +kernel
theorem dX3_enter_85 : decode cX3_enter 85 = .ok (.iconst 0, 1) := by decide +kernel
theorem dX3_enter_86 : decode cX3_enter 86 = .ok (.iastore, 1) := by decide +kernel
theorem dX3_enter_87 : decode cX3_enter 87 = .ok (.aload_n 0, 1) := by decide +kernel
theorem dX3_enter_88 : decode cX3_enter 88 = .ok (.getfield 27, 3) := by decide +kernel
theorem dX3_enter_91 : decode cX3_enter 91 = .ok (.iload_n 3, 1) := by decide +kernel
theorem dX3_enter_92 : decode cX3_enter 92 = .ok (.iconst (-1), 1) := by decide +kernel
theorem dX3_enter_93 : decode cX3_enter 93 = .ok (.iastore, 1) := by decide +kernel
theorem dX3_enter_94 : decode cX3_enter 94 = .ok (.aload_n 0, 1) := by decide +kernel
theorem dX3_enter_95 : decode cX3_enter 95 = .ok (.getfield 21, 3) := by decide +kernel
theorem dX3_enter_98 : decode cX3_enter 98 = .ok (.iload_n 3, 1) := by decide +kernel
theorem dX3_enter_99 : decode cX3_enter 99 = .ok (.iload_n 1, 1) := by decide +kernel
theorem dX3_enter_100 : decode cX3_enter 100 = .ok (.ifCond .ne 15, 3) := by decide +kernel
theorem dX3_enter_103 : decode cX3_enter 103 = .ok (.aload_n 0, 1) := by decide +kernel
theorem dX3_enter_104 : decode cX3_enter 104 = .ok (.getfield 42, 3) := by decide +kernel
theorem dX3_enter_107 : decode cX3_enter 107 = .ok (.getfield 144, 3) := by decide +kernel
theorem dX3_enter_110 : decode cX3_enter 110 = .ok (.iload_n 2, 1) := by decide +kernel
theorem dX3_enter_111 : decode cX3_enter 111 = .ok (.iaload, 1) := by decide +kernel
theorem dX3_enter_112 : decode cX3_enter 112 = .ok (.goto 14, 3) := by decide +kernel
theorem dX3_enter_115 : decode cX3_enter 115 = .ok (.iload_n 1, 1) := by decide +kernel
theorem dX3_enter_116 : decode cX3_enter 116 = .ok (.iconst 1, 1) := by decide +kernel
theorem dX3_enter_117 : decode cX3_enter 117 = .ok (.if_icmp .ne 8, 3) := by decide +kernel
theorem dX3_enter_120 : decode cX3_enter 120 = .ok (.bipush (-2), 2) := by decide +kernel
theorem dX3_enter_122 : decode cX3_enter 122 = .ok (.goto 4, 3) := by decide +kernel
theorem dX3_enter_125 : decode cX3_enter 125 = .ok (.iconst 0, 1) := by decide +kernel
theorem dX3_enter_126 : decode cX3_enter 126 = .ok (.iastore, 1) := by decide +kernel
theorem dX3_enter_127 : decode cX3_enter 127 = .ok (.aload_n 0, 1) := by decide +kernel
theorem dX3_enter_128 : decode cX3_enter 128 = .ok (.getfield 33, 3) := by decide +kernel
theorem dX3_enter_131 : decode cX3_enter 131 = .ok (.iload_n 3, 1) := by decide +kernel
theorem dX3_enter_132 : decode cX3_enter 132 = .ok (.sipush 320, 3) := by decide +kernel
theorem dX3_enter_135 : decode cX3_enter 135 = .ok (.imul, 1) := by decide +kernel
theorem dX3_enter_136 : decode cX3_enter 136 = .ok (.iload_n 3, 1) := by decide +kernel
theorem dX3_enter_137 : decode cX3_enter 137 = .ok (.iconst 1, 1) := by decide +kernel
theorem dX3_enter_138 : decode cX3_enter 138 = .ok (.iadd, 1) := by decide +kernel
theorem dX3_enter_139 : decode cX3_enter 139 = .ok (.sipush 320, 3) := by decide +kernel
theorem dX3_enter_142 : decode cX3_enter 142 = .ok (.imul, 1) := by decide +kernel
theorem dX3_enter_143 : decode cX3_enter 143 = .ok (.iconst 0, 1) := by decide +kernel
theorem dX3_enter_144 : decode cX3_enter 144 = .ok (.invokestatic 147, 3) := by decide +kernel
theorem dX3_enter_147 : decode cX3_enter 147 = .ok (.aload_n 0, 1) := by decide +kernel
theorem dX3_enter_148 : decode cX3_enter 148 = .ok (.getfield 36, 3) := by decide +kernel
theorem dX3_enter_151 : decode cX3_enter 151 = .ok (.iload_n 3, 1) := by decide +kernel
theorem dX3_enter_152 : decode cX3_enter 152 = .ok (.aload_n 0, 1) := by decide +kernel
theorem dX3_enter_153 : decode cX3_enter 153 = .ok (.getfield 116, 3) := by decide +kernel
theorem dX3_enter_156 : decode cX3_enter 156 = .ok (.imul, 1) := by decide +kernel
theorem dX3_enter_157 : decode cX3_enter 157 = .ok (.iload_n 3, 1) := by decide +kernel
theorem dX3_enter_158 : decode cX3_enter 158 = .ok (.iconst 1, 1) := by decide +kernel
theorem dX3_enter_159 : decode cX3_enter 159 = .ok (.iadd, 1) := by decide +kernel
theorem dX3_enter_160 : decode cX3_enter 160 = .ok (.aload_n 0, 1) := by decide +kernel
theorem dX3_enter_161 : decode cX3_enter 161 = .ok (.getfield 116, 3) := by decide +kernel
theorem dX3_enter_164 : decode cX3_enter 164 = .ok (.imul, 1) := by decide +kernel
theorem dX3_enter_165 : decode cX3_enter 165 = .ok (.iconst 0, 1) := by decide +kernel
theorem dX3_enter_166 : decode cX3_enter 166 = .ok (.invokestatic 147, 3) := by decide +kernel
theorem dX3_enter_169 : decode cX3_enter 169 = .ok (.return_, 1) := by decide +kernel
theorem dX3_enterBlock_0 : decode cX3_enterBlock 0 = .ok (.iload_n 2, 1) := by decide +kernel
theorem dX3_enterBlock_1 : decode cX3_enterBlock 1 = .ok (.sipush 320, 3) := by decide +kernel
theorem dX3_enterBlock_4 : decode cX3_enterBlock 4 = .ok (.imul, 1) := by decide +kernel
theorem dX3_enterBlock_5 : decode cX3_enterBlock 5 = .ok (.istore_n 3, 1) := by decide +kernel
theorem dX3_enterBlock_6 : decode cX3_enterBlock 6 = .ok (.aload_n 0, 1) := by decide +kernel
theorem dX3_enterBlock_7 : decode cX3_enterBlock 7 = .ok (.getfield 24, 3) := by decide +kernel
theorem dX3_enterBlock_10 : decode cX3_enterBlock 10 = .ok (.iload_n 2, 1) := by decide +kernel
theorem dX3_enterBlock_11 : decode cX3_enterBlock 11 = .ok (.iaload, 1) := by decide +kernel
theorem dX3_enterBlock_12 : decode cX3_enterBlock 12 = .ok (.istore 4, 2) := by decide +kernel
theorem dX3_enterBlock_14 : decode cX3_enterBlock 14 = .ok (.iconst 0, 1) := by decide +kernel
theorem dX3_enterBlock_15 : decode cX3_enterBlock 15 = .ok (.istore 5, 2) := by decide +kernel
theorem dX3_enterBlock_17 : decode cX3_enterBlock 17 = .ok (.aload_n 1, 1) := by decide +kernel
theorem dX3_enterBlock_18 : decode cX3_enterBlock 18 = .ok (.getfield 221, 3) := by decide +kernel
theorem dX3_enterBlock_21 : decode cX3_enterBlock 21 = .ok (.iload 4, 2) := by decide +kernel
theorem dX3_enterBlock_23 : decode cX3_enterBlock 23 = .ok (.iaload, 1) := by decide +kernel
theorem dX3_enterBlock_24 : decode cX3_enterBlock 24 = .ok (.istore 6, 2) := by decide +kernel
theorem dX3_enterBlock_26 : decode cX3_enterBlock 26 = .ok (.iload 6, 2) := by decide +kernel
theorem dX3_enterBlock_28 : decode cX3_enterBlock 28 = .ok (.ifCond .lt 53, 3) := by decide +kernel
theorem dX3_enterBlock_31 : decode cX3_enterBlock 31 = .ok (.aload_n 0, 1) := by decide +kernel
theorem dX3_enterBlock_32 : decode cX3_enterBlock 32 = .ok (.iconst 1, 1) := by decide +kernel
theorem dX3_enterBlock_33 : decode cX3_enterBlock 33 = .ok (.invokevirtual 161, 3) := by decide +kernel
theorem dX3_enterBlock_36 : decode cX3_enterBlock 36 = .ok (.ifCond .ne 4, 3) := by decide +kernel
theorem dX3_enterBlock_39 : decode cX3_enterBlock 39 = .ok (.return_, 1) := by decide +kernel
theorem dX3_enterBlock_40 : decode cX3_enterBlock 40 = .ok (.aload_n 0, 1) := by decide +kernel
theorem dX3_enterBlock_41 : decode cX3_enterBlock 41 = .ok (.getfield 39, 3) := by decide +kernel
theorem dX3_enterBlock_44 : decode cX3_enterBlock 44 = .ok (.iload 5, 2) := by decide +kernel
theorem dX3_enterBlock_46 : decode cX3_enterBlock 46 = .ok (.aload_n 0, 1) := by decide +kernel
theorem dX3_enterBlock_47 : decode cX3_enterBlock 47 = .ok (.getfield 33, 3) := by decide +kernel
theorem dX3_enterBlock_50 : decode cX3_enterBlock 50 = .ok (.iload_n 3, 1) := by decide +kernel
theorem dX3_enterBlock_51 : decode cX3_enterBlock 51 = .ok (.aload_n 1, 1) := by decide +kernel
theorem dX3_enterBlock_52 : decode cX3_enterBlock 52 = .ok (.iload 6, 2) := by decide +kernel
theorem dX3_enterBlock_54 : decode cX3_enterBlock 54 = .ok (.aload_n 0, 1) := by decide +kernel
theorem dX3_enterBlock_55 : decode cX3_enterBlock 55 = .ok (.getfield 27, 3) := by decide +kernel
theorem dX3_enterBlock_58 : decode cX3_enterBlock 58 = .ok (.iload_n 2, 1) := by decide +kernel
theorem dX3_enterBlock_59 : decode cX3_enterBlock 59 = .ok (.iaload, 1) := by decide +kernel
theorem dX3_enterBlock_60 : decode cX3_enterBlock 60 = .ok (.invokevirtual 224, 3) := by decide +kernel
theorem dX3_enterBlock_63 : decode cX3_enterBlock 63 = .ok (.iadd, 1) := by decide +kernel
theorem dX3_enterBlock_64 : decode cX3_enterBlock 64 = .ok (.iaload, 1) := by decide +kernel
theorem dX3_enterBlock_65 : decode cX3_enterBlock 65 = .ok (.iastore, 1) := by decide +kernel
theorem dX3_enterBlock_66 : decode cX3_enterBlock 66 = .ok (.iinc 5 1, 3) := by decide +kernel
theorem dX3_enterBlock_69 : decode cX3_enterBlock 69 = .ok (.aload_n 1, 1) := by decide +kernel
theorem dX3_enterBlock_70 : decode cX3_enterBlock 70 = .ok (.getfield 227, 3) := by decide +kernel
theorem dX3_enterBlock_73 : decode cX3_enterBlock 73 = .ok (.iload 6, 2) := by decide +kernel
theorem dX3_enterBlock_75 : decode cX3_enterBlock 75 = .ok (.iaload, 1) := by decide +kernel
theorem dX3_enterBlock_76 : decode cX3_enterBlock 76 = .ok (.istore 6, 2) := by decide +kernel
theorem dX3_enterBlock_78 : decode cX3_enterBlock 78 = .ok (.goto (-52), 3) := by decide +kernel
theorem dX3_enterBlock_81 : decode cX3_enterBlock 81 = .ok (.iconst 0, 1) := by decide +kernel
theorem dX3_enterBlock_82 : decode cX3_enterBlock 82 = .ok (.istore 5, 2) := by decide +kernel
theorem dX3_enterBlock_84 : decode cX3_enterBlock 84 = .ok (.aload_n 1, 1) := by decide +kernel
theorem dX3_enterBlock_85 : decode cX3_enterBlock 85 = .ok (.getfield 221, 3) := by decide +kernel
theorem dX3_enterBlock_88 : decode cX3_enterBlock 88 = .ok (.iload 4, 2) := by decide +kernel
theorem dX3_enterBlock_90 : decode cX3_enterBlock 90 = .ok (.iaload, 1) := by decide +kernel
theorem dX3_enterBlock_91 : decode cX3_enterBlock 91 = .ok (.istore 6, 2) := by decide +kernel
theorem dX3_enterBlock_93 : decode cX3_enterBlock 93 = .ok (.iload 6, 2) := by decide +kernel
theorem dX3_enterBlock_95 : decode cX3_enterBlock 95 = .ok (.ifCond .lt 39, 3) := by decide +kernel
theorem dX3_enterBlock_98 : decode cX3_enterBlock 98 = .ok (.aload_n 0, 1) := by decide +kernel
theorem dX3_enterBlock_99 : decode cX3_enterBlock 99 = .ok (.getfield 33, 3) := by decide +kernel
theorem dX3_enterBlock_102 : decode cX3_enterBlock 102 = .ok (.iload_n 3, 1) := by decide +kernel
theorem dX3_enterBlock_103 : decode cX3_enterBlock 103 = .ok (.aload_n 1, 1) := by decide +kernel
theorem dX3_enterBlock_104 : decode cX3_enterBlock 104 = .ok (.getfield 230, 3) := by decide +kernel
theorem dX3_enterBlock_107 : decode cX3_enterBlock 107 = .ok (.iload 6, 2) := by decide +kernel
theorem dX3_enterBlock_109 : decode cX3_enterBlock 109 = .ok (.iaload, 1) := by decide +kernel
theorem dX3_enterBlock_110 : decode cX3_enterBlock 110 = .ok (.iadd, 1) := by decide +kernel
theorem dX3_enterBlock_111 : decode cX3_enterBlock 111 = .ok (.aload_n 0, 1) := by decide +kernel
theorem dX3_enterBlock_112 : decode cX3_enterBlock 112 = .ok (.getfield 39, 3) := by decide +kernel
theorem dX3_enterBlock_115 : decode cX3_enterBlock 115 = .ok (.iload 5, 2) := by decide +kernel
theorem dX3_enterBlock_117 : decode cX3_enterBlock 117 = .ok (.iaload, 1) := by decide +kernel
theorem dX3_enterBlock_118 : decode cX3_enterBlock 118 = .ok (.iastore, 1) := by decide +kernel
theorem dX3_enterBlock_119 : decode cX3_enterBlock 119 = .ok (.iinc 5 1, 3) := by decide +kernel
theorem dX3_enterBlock_122 : decode cX3_enterBlock 122 = .ok (.aload_n 1, 1) := by decide +kernel
theorem dX3_enterBlock_123 : decode cX3_enterBlock 123 = .ok (.getfield 227, 3) := by decide +kernel
theorem dX3_enterBlock_126 : decode cX3_enterBlock 126 = .ok (.iload 6, 2) := by decide +kernel
theorem dX3_enterBlock_128 : decode cX3_enterBlock 128 = .ok (.iaload, 1) := by decide +kernel
theorem dX3_enterBlock_129 : decode cX3_enterBlock 129 = .ok (.istore 6, 2) := by decide +kernel
theorem dX3_enterBlock_131 : decode cX3_enterBlock 131 = .ok (.goto (-38), 3) := by decide +kernel
theorem dX3_enterBlock_134 : decode cX3_enterBlock 134 = .ok (.aload_n 0, 1) := by decide +kernel
theorem dX3_enterBlock_135 : decode cX3_enterBlock 135 = .ok (.getfield 21, 3) := by decide +kernel
theorem dX3_enterBlock_138 : decode cX3_enterBlock 138 = .ok (.iload_n 2, 1) := by decide +kernel
theorem dX3_enterBlock_139 : decode cX3_enterBlock 139 = .ok (.aload_n 1, 1) := by decide +kernel
theorem dX3_enterBlock_140 : decode cX3_enterBlock 140 = .ok (.getfield 233, 3) := by decide +kernel
theorem dX3_enterBlock_143 : decode cX3_enterBlock 143 = .ok (.iload 4, 2) := by decide +kernel
theorem dX3_enterBlock_145 : decode cX3_enterBlock 145 = .ok (.iaload, 1) := by decide +kernel
theorem dX3_enterBlock_146 : decode cX3_enterBlock 146 = .ok (.iastore, 1) := by decide +kernel
theorem dX3_enterBlock_147 : decode cX3_enterBlock 147 = .ok (.return_, 1) := by decide +kernel
theorem dX3_pop_0 : decode cX3_pop 0 = .ok (.aload_n 0, 1) := by decide +kernel
theorem dX3_pop_1 : decode cX3_pop 1 = .ok (.getfield 87, 3) := by decide +kernel
theorem dX3_pop_4 : decode cX3_pop 4 = .ok (.ifCond .ne 5, 3) := by decide +kernel
theorem dX3_pop_7 : decode cX3_pop 7 = .ok (.iconst 0, 1) := by decide +kernel
theorem dX3_pop_8 : decode cX3_pop 8 = .ok (.ireturn, 1) := by decide +kernel
theorem dX3_pop_9 : decode cX3_pop 9 = .ok (.aload_n 0, 1) := by decide +kernel
theorem dX3_pop_10 : decode cX3_pop 10 = .ok (.dup, 1) := by decide +kernel
theorem dX3_pop_11 : decode cX3_pop 11 = .ok (.getfield 87, 3) := by decide +kernel
theorem dX3_pop_14 : decode cX3_pop 14 = .ok (.iconst 1, 1) := by decide +kernel
theorem dX3_pop_15 : decode cX3_pop 15 = .ok (.isub, 1) := by decide +kernel
theorem dX3_pop_16 : decode cX3_pop 16 = .ok (.putfield 87, 3) := by decide +kernel
theorem dX3_pop_19 : decode cX3_pop 19 = .ok (.aload_n 0, 1) := by decide +kernel
theorem dX3_pop_20 : decode cX3_pop 20 = .ok (.getfield 39, 3) := by decide +kernel
theorem dX3_pop_23 : decode cX3_pop 23 = .ok (.aload_n 0, 1) := by decide +kernel
theorem dX3_pop_24 : decode cX3_pop 24 = .ok (.getfield 87, 3) := by decide +kernel
theorem dX3_pop_27 : decode cX3_pop 27 = .ok (.iaload, 1) := by decide +kernel
theorem dX3_pop_28 : decode cX3_pop 28 = .ok (.ireturn, 1) := by decide +kernel
theorem dX3_stop_0 : decode cX3_stop 0 = .ok (.aload_n 0, 1) := by decide +kernel
theorem dX3_stop_1 : decode cX3_stop 1 = .ok (.iload_n 1, 1) := by decide +kernel
theorem dX3_stop_2 : decode cX3_stop 2 = .ok (.putfield 54, 3) := by decide +kernel
theorem dX3_stop_5 : decode cX3_stop 5 = .ok (.aload_n 0, 1) := by decide +kernel
theorem dX3_stop_6 : decode cX3_stop 6 = .ok (.iconst 0, 1) := by decide +kernel
theorem dX3_stop_7 : decode cX3_stop 7 = .ok (.putfield 80, 3) := by decide +kernel
theorem dX3_stop_10 : decode cX3_stop 10 = .ok (.return_, 1) := by decide +kernel
theorem dX3_tick_0 : decode cX3_tick 0 = .ok (.aload_n 0, 1) := by decide +kernel
theorem dX3_tick_1 : decode cX3_tick 1 = .ok (.getfield 61, 3) := by decide +kernel
theorem dX3_tick_4 : decode cX3_tick 4 = .ok (.iload_n 1, 1) := by decide +kernel
theorem dX3_tick_5 : decode cX3_tick 5 = .ok (.iadd, 1) := by decide +kernel
theorem dX3_tick_6 : decode cX3_tick 6 = .ok (.sipush 5000, 3) := by decide +kernel
theorem dX3_tick_9 : decode cX3_tick 9 = .ok (.if_icmp .le 17, 3) := by decide +kernel
theorem dX3_tick_12 : decode cX3_tick 12 = .ok (.aload_n 0, 1) := by decide +kernel
theorem dX3_tick_13 : decode cX3_tick 13 = .ok (.sipush 5000, 3) := by decide +kernel
theorem dX3_tick_16 : decode cX3_tick 16 = .ok (.putfield 61, 3) := by decide +kernel
theorem dX3_tick_19 : decode cX3_tick 19 = .ok (.aload_n 0, 1) := by decide +kernel
theorem dX3_tick_20 : decode cX3_tick 20 = .ok (.iconst 2, 1) := by decide +kernel
theorem dX3_tick_21 : decode cX3_tick 21 = .ok (.invokevirtual 137, 3) := by decide +kernel
theorem dX3_tick_24 : decode cX3_tick 24 = .ok (.iconst 0, 1) := by decide +kernel
theorem dX3_tick_25 : decode cX3_tick 25 = .ok (.ireturn, 1) := by decide +kernel
theorem dX3_tick_26 : decode cX3_tick 26 = .ok (.aload_n 0, 1) := by decide +kernel
theorem dX3_tick_27 : decode cX3_tick 27 = .ok (.dup, 1) := by decide +kernel
theorem dX3_tick_28 : decode cX3_tick 28 = .ok (.getfield 61, 3) := by decide +kernel
theorem dX3_tick_31 : decode cX3_tick 31 = .ok (.iload_n 1, 1) := by decide +kernel
theorem dX3_tick_32 : decode cX3_tick 32 = .ok (.iadd, 1) := by decide +kernel
theorem dX3_tick_33 : decode cX3_tick 33 = .ok (.putfield 61, 3) := by decide +kernel
theorem dX3_tick_36 : decode cX3_tick 36 = .ok (.iconst 1, 1) := by decide +kernel
theorem dX3_tick_37 : decode cX3_tick 37 = .ok (.ireturn, 1) := by decide +kernel
theorem qw856 : Cond.fieldLink RX0 53 "Gearbox$Allocator" "lineOf" "[I" ∈ gw := mq_3 (i := 109) rfl rfl
theorem qw857 : Cond.code yX0_isIdle cX0_isIdle 3 (Option.some Jvm.ClassFile.FieldType.boolean) ∈ gw := mq_9 (i := 120) rfl rfl
theorem qw858 : Cond.methodLink RX0 228 yX0_isIdle ∈ gw := mq_9 (i := 117) rfl rfl
theorem qw859 : Cond.instanceMethod yX0_isIdle ∈ gw := mq_9 (i := 119) rfl rfl
theorem qw860 : Cond.selects RX0 yX0_isIdle yX0_isIdle ∈ gw := mk_s (i := 91) rfl rfl
theorem qw861 : Cond.code yX0_endLines cX0_endLines 3 (Option.some Jvm.ClassFile.FieldType.int) ∈ gw := mq_9 (i := 124) rfl rfl
theorem qw862 : Cond.methodLink RX0 231 yX0_endLines ∈ gw := mq_9 (i := 121) rfl rfl
theorem qw863 : Cond.instanceMethod yX0_endLines ∈ gw := mq_9 (i := 123) rfl rfl
theorem qw864 : Cond.selects RX0 yX0_endLines yX0_endLines ∈ gw := mk_s (i := 92) rfl rfl
theorem qw865 : Cond.fieldLink RX0 81 "Gearbox$Steps" "count" "I" ∈ gw := mq_1 (i := 159) rfl rfl
theorem qw866 : Cond.methodLink RX0 251 yX9_add ∈ gw := mq_9 (i := 130) rfl rfl
theorem qw867 : Cond.code yX0_writeStep cX0_writeStep 8 (Option.none : Option Jvm.ClassFile.FieldType) ∈ gw := mq_9 (i := 129) rfl rfl
theorem qw868 : Cond.methodLink RX0 234 yX0_writeStep ∈ gw := mq_9 (i := 126) rfl rfl
theorem qw869 : Cond.instanceMethod yX0_writeStep ∈ gw := mq_9 (i := 128) rfl rfl
theorem qw870 : Cond.selects RX0 yX0_writeStep yX0_writeStep ∈ gw := mk_s (i := 93) rfl rfl
theorem qw871 : Cond.fieldLink RX0 255 "Gearbox$Flow" "second" "[I" ∈ gw := mq_2 (i := 32) rfl rfl
theorem qw872 : Cond.code yX0_writeEnd cX0_writeEnd 7 (Option.none : Option Jvm.ClassFile.FieldType) ∈ gw := mq_9 (i := 134) rfl rfl
theorem qw873 : Cond.methodLink RX0 238 yX0_writeEnd ∈ gw := mq_9 (i := 131) rfl rfl
theorem qw874 : Cond.instanceMethod yX0_writeEnd ∈ gw := mq_9 (i := 133) rfl rfl
theorem qw875 : Cond.selects RX0 yX0_writeEnd yX0_writeEnd ∈ gw := mk_s (i := 94) rfl rfl
theorem qw876 : Cond.fieldLink RX3 30 "Gearbox$Machine" "arguments" "[I" ∈ gw := mq_4 (i := 0) rfl rfl
theorem qw877 : Cond.fieldLink RX3 54 "Gearbox$Machine" "outcome" "I" ∈ gw := mq_3 (i := 222) rfl rfl
theorem qw878 : Cond.fieldLink RX3 58 "Gearbox$Machine" "result" "I" ∈ gw := mq_3 (i := 224) rfl rfl
theorem qw879 : Cond.fieldLink RX3 61 "Gearbox$Machine" "steps" "I" ∈ gw := mq_3 (i := 226) rfl rfl
theorem qw880 : Cond.fieldLink RX3 9 "Gearbox$Machine" "memory" "[I" ∈ gw := mq_3 (i := 228) rfl rfl
theorem qw881 : Cond.methodLink RX3 70 ⟨"java/lang/System", "arraycopy", "(Ljava/lang/Object;ILjava/lang/Object;II)V"⟩ ∈ gw := mq_10 (i := 49) rfl rfl
theorem qw882 : Cond.fieldLink RX3 84 "Gearbox$Machine" "calls" "I" ∈ gw := mq_3 (i := 235) rfl rfl
theorem qw883 : Cond.fieldLink RX3 80 "Gearbox$Machine" "isRunning" "Z" ∈ gw := mq_3 (i := 234) rfl rfl
theorem qw884 : Cond.code yX3_stop cX3_stop 2 (Option.none : Option Jvm.ClassFile.FieldType) ∈ gw := mq_9 (i := 191) rfl rfl
theorem qw885 : Cond.methodLink RX3 137 yX3_stop ∈ gw := mq_9 (i := 188) rfl rfl
theorem qw886 : Cond.instanceMethod yX3_stop ∈ gw := mq_9 (i := 190) rfl rfl
theorem qw887 : Cond.selects RX3 yX3_stop yX3_stop ∈ gw := mk_s (i := 95) rfl rfl
theorem qw888 : Cond.initialized RX3 ∈ gw := mq_1 (i := 27) rfl rfl
theorem qw889 : Cond.fieldLink RX3 24 "Gearbox$Machine" "block" "[I" ∈ gw := mq_3 (i := 238) rfl rfl
theorem qw891 : Cond.fieldLink RX3 33 "Gearbox$Machine" "cells" "[I" ∈ gw := mq_4 (i := 1) rfl rfl
theorem qw898 : Cond.fieldLink RX3 18 "Gearbox$Machine" "function" "[I" ∈ gw := mq_3 (i := 236) rfl rfl
theorem qw899 : Cond.fieldLink RX3 42 "Gearbox$Machine" "program" "LGearbox$Program;" ∈ gw := mq_3 (i := 230) rfl rfl
theorem qw900 : Cond.fieldLink RX3 94 "Gearbox$Program" "parameters" "[I" ∈ gw := mq_3 (i := 163) rfl rfl
theorem qw901 : Cond.fieldLink RX3 87 "Gearbox$Machine" "count" "I" ∈ gw := mq_4 (i := 5) rfl rfl
theorem qw902 : Cond.fieldLink RX3 39 "Gearbox$Machine" "waiting" "[I" ∈ gw := mq_4 (i := 4) rfl rfl
theorem qw903 : Cond.code yX3_pop cX3_pop 1 (Option.some Jvm.ClassFile.FieldType.int) ∈ gw := mq_9 (i := 195) rfl rfl
theorem qw904 : Cond.methodLink RX3 140 yX3_pop ∈ gw := mq_9 (i := 192) rfl rfl
theorem qw905 : Cond.instanceMethod yX3_pop ∈ gw := mq_9 (i := 194) rfl rfl
theorem qw906 : Cond.selects RX3 yX3_pop yX3_pop ∈ gw := mk_s (i := 97) rfl rfl
theorem qw907 : Cond.fieldLink RX3 27 "Gearbox$Machine" "blockAhead" "[I" ∈ gw := mq_3 (i := 239) rfl rfl
theorem qw908 : Cond.fieldLink RX3 21 "Gearbox$Machine" "at" "[I" ∈ gw := mq_3 (i := 237) rfl rfl
theorem qw909 : Cond.fieldLink RX3 144 "Gearbox$Program" "from" "[I" ∈ gw := mq_3 (i := 171) rfl rfl
theorem qw910 : Cond.methodLink RX3 147 yJ7_fill_fda19 ∈ gw := mq_9 (i := 196) rfl rfl
theorem qw911 : Cond.fieldLink RX3 36 "Gearbox$Machine" "slots" "[I" ∈ gw := mq_4 (i := 2) rfl rfl
theorem qw912 : Cond.fieldLink RX3 116 "Gearbox$Machine" "slotRoom" "I" ∈ gw := mq_4 (i := 3) rfl rfl
theorem qw913 : Cond.fieldLink RX3 221 "Gearbox$Flow" "firstPhi" "[I" ∈ gw := mq_2 (i := 0) rfl rfl
theorem qw914 : Cond.code yX3_tick cX3_tick 2 (Option.some Jvm.ClassFile.FieldType.boolean) ∈ gw := mq_9 (i := 205) rfl rfl
theorem qw915 : Cond.methodLink RX3 161 yX3_tick ∈ gw := mq_9 (i := 202) rfl rfl
theorem qw916 : Cond.instanceMethod yX3_tick ∈ gw := mq_9 (i := 204) rfl rfl
theorem qw917 : Cond.selects RX3 yX3_tick yX3_tick ∈ gw := mk_s (i := 98) rfl rfl
theorem qw918 : Cond.methodLink RX3 224 yX1_take ∈ gw := mq_10 (i := 5) rfl rfl
theorem qw919 : Cond.fieldLink RX3 227 "Gearbox$Flow" "phiNext" "[I" ∈ gw := mq_2 (i := 68) rfl rfl
theorem qw920 : Cond.fieldLink RX3 230 "Gearbox$Flow" "phiGives" "[I" ∈ gw := mq_2 (i := 61) rfl rfl
theorem qw921 : Cond.fieldLink RX3 233 "Gearbox$Flow" "firstStep" "[I" ∈ gw := mq_1 (i := 231) rfl rfl
def fX0_writeStep_G123_19 (o_7 : Int32 × ST × (Nat → Nat)) : Option (ST × (Nat → Nat)) := some ((o_7.2.1), (o_7.2.2))
theorem mo_fX0_writeStep_G123_19 {o_7 : Int32 × ST × (Nat → Nat)} {o9q : ST × (Nat → Nat)} (hrun : fX0_writeStep_G123_19 o_7 = some o9q) : glX9 (o_7.2.2) (o9q.2) := by
  unfold fX0_writeStep_G123_19 at hrun
  obtain rfl := (Option.some.inj hrun)
  exact (glX9_rf _)
def fX0_writeStep_J109 (p1n : Nat → Nat) (p1w : ST) (p2 : Int32) (p0_0_2w : ST) (y0_43 : Int32) (y0_76 : Int32) (y0_109 : Int32) : Option (ST × (Nat → Nat)) := ((fX9_add p1n p1w (p0_0_2w 2 (nn p2)) y0_43 y0_76 y0_109).bind fun (o_7 : Int32 × ST × (Nat → Nat)) => (fX0_writeStep_G123_19 o_7))
theorem mo_fX0_writeStep_J109 {p1n : Nat → Nat} {p1w : ST} {p2 : Int32} {p0_0_2w : ST} {y0_43 : Int32} {y0_76 : Int32} {y0_109 : Int32} {o9q : ST × (Nat → Nat)} (hrun : fX0_writeStep_J109 p1n p1w p2 p0_0_2w y0_43 y0_76 y0_109 = some o9q) : glX9 p1n (o9q.2) := by
  unfold fX0_writeStep_J109 at hrun
  obtain ⟨o_7, hc_7, hrun⟩ := bnd9 hrun
  exact (glX9_tr (mo_fX9_add hc_7) (mo_fX0_writeStep_G123_19 hrun))
def fX0_writeStep_J76 (p1n : Nat → Nat) (p1w : ST) (p2 : Int32) (p0_0_2n : Nat → Nat) (p0_0_2w : ST) (p0_6n : Nat → Nat) (p0_6w : ST) (y0_43 : Int32) (y0_76 : Int32) : Option (ST × (Nat → Nat)) := ((fX11_usesRight (p0_0_2w 2 (nn p2))).bind fun (o_5 : Int32) => (if o_5 = 0 then (if ixb p2 (p0_0_2n 5) = true then (fX0_writeStep_J109 p1n p1w p2 p0_0_2w y0_43 y0_76 (p0_0_2w 5 (nn p2))) else none) else (if ixb p2 (p0_0_2n 5) = true then (if ixb (p0_0_2w 5 (nn p2)) (p0_6n 17) = true then (fX0_writeStep_J109 p1n p1w p2 p0_0_2w y0_43 y0_76 (p0_6w 17 (nn (p0_0_2w 5 (nn p2))))) else none) else none)))
theorem mo_fX0_writeStep_J76 {p1n : Nat → Nat} {p1w : ST} {p2 : Int32} {p0_0_2n : Nat → Nat} {p0_0_2w : ST} {p0_6n : Nat → Nat} {p0_6w : ST} {y0_43 : Int32} {y0_76 : Int32} {o9q : ST × (Nat → Nat)} (hrun : fX0_writeStep_J76 p1n p1w p2 p0_0_2n p0_0_2w p0_6n p0_6w y0_43 y0_76 = some o9q) : glX9 p1n (o9q.2) := by
  unfold fX0_writeStep_J76 at hrun
  obtain ⟨o_5, hc_5, hrun⟩ := bnd9 hrun
  rcases br9 hrun with ⟨hc20, hrun⟩ | ⟨hc20, hrun⟩
  · skip
    obtain ⟨hq21, hrun⟩ := chk9 hrun
    exact (mo_fX0_writeStep_J109 hrun)
  · skip
    obtain ⟨hq22, hrun⟩ := chk9 hrun
    obtain ⟨hq23, hrun⟩ := chk9 hrun
    exact (mo_fX0_writeStep_J109 hrun)
def fX0_writeStep_J43 (p1n : Nat → Nat) (p1w : ST) (p2 : Int32) (p0_0_2n : Nat → Nat) (p0_0_2w : ST) (p0_6n : Nat → Nat) (p0_6w : ST) (y0_43 : Int32) : Option (ST × (Nat → Nat)) := ((fX11_usesLeft (p0_0_2w 2 (nn p2))).bind fun (o_3 : Int32) => (if o_3 = 0 then (if ixb p2 (p0_0_2n 4) = true then (fX0_writeStep_J76 p1n p1w p2 p0_0_2n p0_0_2w p0_6n p0_6w y0_43 (p0_0_2w 4 (nn p2))) else none) else (if ixb p2 (p0_0_2n 4) = true then (if ixb (p0_0_2w 4 (nn p2)) (p0_6n 17) = true then (fX0_writeStep_J76 p1n p1w p2 p0_0_2n p0_0_2w p0_6n p0_6w y0_43 (p0_6w 17 (nn (p0_0_2w 4 (nn p2))))) else none) else none)))
theorem mo_fX0_writeStep_J43 {p1n : Nat → Nat} {p1w : ST} {p2 : Int32} {p0_0_2n : Nat → Nat} {p0_0_2w : ST} {p0_6n : Nat → Nat} {p0_6w : ST} {y0_43 : Int32} {o9q : ST × (Nat → Nat)} (hrun : fX0_writeStep_J43 p1n p1w p2 p0_0_2n p0_0_2w p0_6n p0_6w y0_43 = some o9q) : glX9 p1n (o9q.2) := by
  unfold fX0_writeStep_J43 at hrun
  obtain ⟨o_3, hc_3, hrun⟩ := bnd9 hrun
  rcases br9 hrun with ⟨hc24, hrun⟩ | ⟨hc24, hrun⟩
  · skip
    obtain ⟨hq25, hrun⟩ := chk9 hrun
    exact (mo_fX0_writeStep_J76 hrun)
  · skip
    obtain ⟨hq26, hrun⟩ := chk9 hrun
    obtain ⟨hq27, hrun⟩ := chk9 hrun
    exact (mo_fX0_writeStep_J76 hrun)
def fX0_writeStep (p1n : Nat → Nat) (p1w : ST) (p2 : Int32) (p0_0_2n : Nat → Nat) (p0_0_2w : ST) (p0_6n : Nat → Nat) (p0_6w : ST) : Option (ST × (Nat → Nat)) := (if ixb p2 (p0_0_2n 2) = true then (if ixb p2 (p0_0_2n 3) = true then (if 0 ≤ (p0_0_2w 3 (nn p2)) then (if ixb p2 (p0_0_2n 3) = true then (if ixb (p0_0_2w 3 (nn p2)) (p0_6n 17) = true then (fX0_writeStep_J43 p1n p1w p2 p0_0_2n p0_0_2w p0_6n p0_6w (p0_6w 17 (nn (p0_0_2w 3 (nn p2))))) else none) else none) else (fX0_writeStep_J43 p1n p1w p2 p0_0_2n p0_0_2w p0_6n p0_6w (-1))) else none) else none)
theorem mo_fX0_writeStep {p1n : Nat → Nat} {p1w : ST} {p2 : Int32} {p0_0_2n : Nat → Nat} {p0_0_2w : ST} {p0_6n : Nat → Nat} {p0_6w : ST} {o9q : ST × (Nat → Nat)} (hrun : fX0_writeStep p1n p1w p2 p0_0_2n p0_0_2w p0_6n p0_6w = some o9q) : glX9 p1n (o9q.2) := by
  unfold fX0_writeStep at hrun
  obtain ⟨hq1, hrun⟩ := chk9 hrun
  obtain ⟨hq2, hrun⟩ := chk9 hrun
  rcases br9 hrun with ⟨hc28, hrun⟩ | ⟨hc28, hrun⟩
  · skip
    obtain ⟨hq29, hrun⟩ := chk9 hrun
    obtain ⟨hq30, hrun⟩ := chk9 hrun
    exact (mo_fX0_writeStep_J43 hrun)
  · skip
    exact (mo_fX0_writeStep_J43 hrun)
set_option maxHeartbeats 16000000 in
set_option maxRecDepth 100000 in
theorem kX0_writeStep {zs : Nat × Nat} (l : Launch) (dC : Nat → ClassId) (dI : Nat → Nat → Nat) (p0a : Nat → Nat) (p0k : Nat → ClassId) (p0n : Nat → Nat) (p0w : ST) (p1a : Nat → Nat) (p1k : Nat → ClassId) (p1n : Nat → Nat) (p1w : ST) (p2 : Int32) (p0_0a : Nat → Nat) (p0_0k : Nat → ClassId) (p0_0n : Nat → Nat) (p0_0w : ST) (p0_0l : SL) (p0_0_2a : Nat → Nat) (p0_0_2k : Nat → ClassId) (p0_0_2n : Nat → Nat) (p0_0_2w : ST) (p0_6a : Nat → Nat) (p0_6k : Nat → ClassId) (p0_6n : Nat → Nat) (p0_6w : ST) (p0_6l : SL) (sz : Nat) (o : ST × (Nat → Nat)) (hrun : fX0_writeStep p1n p1w p2 p0_0_2n p0_0_2w p0_6n p0_6w = some o) : Met l yX0_writeStep (wz yX0_writeStep cX0_writeStep 8 (Option.none : Option Jvm.ClassFile.FieldType)) ({ frames := 3, cells := (gcX9 p1n (o.2)), slots := (3 * (gcX9 p1n (o.2))), locals := 87 } : Room) (va_Pc [.ref (p0a 0), .ref (p1a 0), .int p2] (PRE zs dC dI ((oX0 (p0a 0) p0a p0k p0n p0w) ++ (oX9 (p1a 0) p1a p1k p1n p1w) ++ (oX1 (p0a 1) p0_0a p0_0k p0_0n p0_0w p0_0l) ++ (oX9 (p0_0a 3) p0_0_2a p0_0_2k p0_0_2n p0_0_2w) ++ (oX2 (p0a 7) p0_6a p0_6k p0_6n p0_6w p0_6l)) ((tX0 p0k) ++ (tX9 p1k) ++ (tX1 p0_0k) ++ (tX9 p0_0_2k) ++ (tX2 p0_6k)) sz)) (va_Qv (fun (_ : Unit) => True) (fun _ t => ∃ (xp1_1_z : Nat), ∃ (zp1_1_z : ClassId), ∃ (xp1_2_z : Nat), ∃ (zp1_2_z : ClassId), ∃ (xp1_3_z : Nat), ∃ (zp1_3_z : ClassId), ∃ (xp1_4_z : Nat), ∃ (zp1_4_z : ClassId), ∃ (xp1_5_z : Nat), ∃ (zp1_5_z : ClassId), POST dC dI ((oX0 (p0a 0) p0a p0k p0n p0w) ++ (oX9 (p1a 0) (st1 (st1 (st1 (st1 (st1 p1a 2 xp1_1_z) 3 xp1_2_z) 4 xp1_3_z) 5 xp1_4_z) 6 xp1_5_z) (st1 (st1 (st1 (st1 (st1 p1k 2 zp1_1_z) 3 zp1_2_z) 4 zp1_3_z) 5 zp1_4_z) 6 zp1_5_z) (o.2) (o.1)) ++ (oX1 (p0a 1) p0_0a p0_0k p0_0n p0_0w p0_0l) ++ (oX9 (p0_0a 3) p0_0_2a p0_0_2k p0_0_2n p0_0_2w) ++ (oX2 (p0a 7) p0_6a p0_6k p0_6n p0_6w p0_6l)) ((tX0 p0k) ++ (tX9 (st1 (st1 (st1 (st1 (st1 p1k 2 zp1_1_z) 3 zp1_2_z) 4 zp1_3_z) 5 zp1_4_z) 6 zp1_5_z)) ++ (tX1 p0_0k) ++ (tX9 p0_0_2k) ++ (tX2 p0_6k)) (va_A ((oX0 (p0a 0) p0a p0k p0n p0w) ++ (oX9 (p1a 0) p1a p1k p1n p1w) ++ (oX1 (p0a 1) p0_0a p0_0k p0_0n p0_0w p0_0l) ++ (oX9 (p0_0a 3) p0_0_2a p0_0_2k p0_0_2n p0_0_2w) ++ (oX2 (p0a 7) p0_6a p0_6k p0_6n p0_6w p0_6l)) sz) t) (va_A ((oX0 (p0a 0) p0a p0k p0n p0w) ++ (oX9 (p1a 0) p1a p1k p1n p1w) ++ (oX1 (p0a 1) p0_0a p0_0k p0_0n p0_0w p0_0l) ++ (oX9 (p0_0a 3) p0_0_2a p0_0_2k p0_0_2n p0_0_2w) ++ (oX2 (p0a 7) p0_6a p0_6k p0_6n p0_6w p0_6l)) sz)) (gcX9 p1n (o.2)) (3 * (gcX9 p1n (o.2))) (va_A ((oX0 (p0a 0) p0a p0k p0n p0w) ++ (oX9 (p1a 0) p1a p1k p1n p1w) ++ (oX1 (p0a 1) p0_0a p0_0k p0_0n p0_0w p0_0l) ++ (oX9 (p0_0a 3) p0_0_2a p0_0_2k p0_0_2n p0_0_2w) ++ (oX2 (p0a 7) p0_6a p0_6k p0_6n p0_6w p0_6l)) sz) := by
  refine Met.ofW (cc := cX0_writeStep) (maxL := 8) (ret := (Option.none : Option Jvm.ClassFile.FieldType)) (by decide) rfl ?_
  intro p e s m args below meth c s₁ B hml hv
  obtain ⟨rfl, hsz, hP, hK, hD0, hE⟩ := hv
  have hx := B.exec
  have hb := B.bytes
  have hr := B.returns
  have hts0 := atoms_spec (ws := wz yX0_writeStep cX0_writeStep 8 (Option.none : Option Jvm.ClassFile.FieldType)) B.pre
  have hts : ∀ w ∈ gw, w.before _ s = true := fun w h => hts0 w (List.mem_cons_of_mem _ h)
  have hown : s.vm.findClass RX0 = some m.cls := findClass_of_methodNamed B.named
  have hlocks := B.notSynchronized
  subst hsz
  have hD := hD0.self (sz := s.heap.size)
  refine gQ9 ?_
  intro Q hQ
  generalize hAe : va_A ((oX0 (p0a 0) p0a p0k p0n p0w) ++ (oX9 (p1a 0) p1a p1k p1n p1w) ++ (oX1 (p0a 1) p0_0a p0_0k p0_0n p0_0w p0_0l) ++ (oX9 (p0_0a 3) p0_0_2a p0_0_2k p0_0_2n p0_0_2w) ++ (oX2 (p0a 7) p0_6a p0_6k p0_6n p0_6w p0_6l)) s.heap.size = A at hD hE hQ
  have hA : ∀ q : Nat, s.heap.size ≤ q → A q := fun q h => by rw [← hAe]; exact Or.inr h
  have hS : va_S A s.heap s.heap [] := va_S.rf
  have hP : va_P (dC, dI) cls ((oX0 (p0a 0) p0a p0k p0n p0w) ++ (oX9 (p1a 0) p1a p1k p1n p1w) ++ (oX1 (p0a 1) p0_0a p0_0k p0_0n p0_0w p0_0l) ++ (oX9 (p0_0a 3) p0_0_2a p0_0_2k p0_0_2n p0_0_2w) ++ (oX2 (p0a 7) p0_6a p0_6k p0_6n p0_6w p0_6l)) s.heap := hP
  have hl := lv_entry ([.ref (p0a 0), .ref (p1a 0), .int p2]) (n := 8) (Nat.le_of_ble_eq_true rfl)
  rw [lg_entry_eq]
  generalize (lg_sl ([.ref (p0a 0), .ref (p1a 0), .int p2]) ++ List.replicate (8 - (lg_sl ([.ref (p0a 0), .ref (p1a 0), .int p2])).length) Slot.unset).toArray = ls at hl ⊢
  have hl : lv_has ls 8 [(0, .ref (p0a 0)), (1, .ref (p1a 0)), (2, .int p2)] := hl
  obtain ⟨H, hHe⟩ : ∃ H, H = s.heap := ⟨_, rfl⟩
  obtain ⟨locs, hle⟩ : ∃ locs : List Loc, locs = [] := ⟨_, rfl⟩
  rw [← hHe] at hP
  have hS : va_S A s.heap H locs := by rw [hHe, hle]; exact hS
  show W p l e ({ frames := 3, cells := (gcX9 p1n (o.2)), slots := (3 * (gcX9 p1n (o.2))), locals := 87 } : Room) s m ([.ref (p0a 0), .ref (p1a 0), .int p2] : List Value).toArray below meth c s.heap [] 0 0 Q (F0 m 0 ls [])
  rw [← hle]
  refine wH9 hHe ?_
  have hg_p1 := glX9_rf p1n
  have hgn_p1 : glX9 p1n (o.2) := (mo_fX0_writeStep hrun)
  refine W.widen (k := (gcX9 p1n p1n)) (n := (3 * (gcX9 p1n p1n))) (Nat.zero_le _) (Nat.zero_le _) ?_
  unfold fX0_writeStep at hrun
  refine lv_aload_n hx hb dX0_writeStep_0 rfl (lv_at hl 0 rfl) ?_
  refine va_get (D := (dC, dI)) (ci := 8) (v := .ref (p0a 1)) (C := RX0) (T := TX0) (N := 17) hx hb hts i_X0 hown hK hP 0 rfl rfl 0 (by decide) (hts _ qw618) (fun _ h9 => h9) rfl dX0_writeStep_1 ?_
  refine va_get (D := (dC, dI)) (ci := 4) (v := .ref (p0_0a 3)) (C := RX1) (T := TX1) (N := 21) hx hb hts i_X1 hown hK hP 15 rfl rfl 2 (by decide) (hts _ qw629) (fun _ h9 => h9) rfl dX0_writeStep_4 ?_
  refine lv_astore_n (lv' := [(3, .ref (p0_0a 3)), (0, .ref (p0a 0)), (1, .ref (p1a 0)), (2, .int p2)]) hx hb dX0_writeStep_7 rfl hl (by decide) rfl (fun ls hl => ?_)
  refine lv_aload_n hx hb dX0_writeStep_8 rfl (lv_at hl 0 rfl) ?_
  refine va_get (D := (dC, dI)) (ci := 3) (v := .ref (p0_0_2a 2)) (C := RX9) (T := TX9) (N := 6) hx hb hts i_X9 hown hK hP 33 rfl rfl 1 (by decide) (hts _ qw630) (fun _ h9 => h9) rfl dX0_writeStep_9 ?_
  refine lv_iload_n hx hb dX0_writeStep_12 rfl (lv_at hl 3 rfl) ?_
  obtain ⟨hq1, hrun⟩ := chk9 hrun
  refine va_iald hx hb hK hP 34 30 rfl rfl (ixb_in hq1) dX0_writeStep_13 ?_
  refine lv_istore (lv' := [(4, .int (p0_0_2w 2 (nn p2))), (3, .ref (p0_0a 3)), (0, .ref (p0a 0)), (1, .ref (p1a 0)), (2, .int p2)]) hx hb dX0_writeStep_14 hl (by decide) rfl (fun ls hl => ?_)
  refine lv_aload_n hx hb dX0_writeStep_16 rfl (lv_at hl 1 rfl) ?_
  refine va_get (D := (dC, dI)) (ci := 3) (v := .ref (p0_0_2a 3)) (C := RX9) (T := TX9) (N := 6) hx hb hts i_X9 hown hK hP 33 rfl rfl 2 (by decide) (hts _ qw636) (fun _ h9 => h9) rfl dX0_writeStep_17 ?_
  refine lv_iload_n hx hb dX0_writeStep_20 rfl (lv_at hl 4 rfl) ?_
  obtain ⟨hq2, hrun⟩ := chk9 hrun
  refine va_iald hx hb hK hP 35 31 rfl rfl (ixb_in hq2) dX0_writeStep_21 ?_
  have J43 : ∀ (y0_43 : Int32) (H : Heap) (locs : List Loc) (ls : Array Slot), (fX0_writeStep_J43 p1n p1w p2 p0_0_2n p0_0_2w p0_6n p0_6w y0_43) = some o → va_P (dC, dI) cls ((oX0 (p0a 0) p0a p0k p0n p0w) ++ (oX9 (p1a 0) p1a p1k p1n p1w) ++ (oX1 (p0a 1) p0_0a p0_0k p0_0n p0_0w p0_0l) ++ (oX9 (p0_0a 3) p0_0_2a p0_0_2k p0_0_2n p0_0_2w) ++ (oX2 (p0a 7) p0_6a p0_6k p0_6n p0_6w p0_6l)) H → va_D A ((oX0 (p0a 0) p0a p0k p0n p0w) ++ (oX9 (p1a 0) p1a p1k p1n p1w) ++ (oX1 (p0a 1) p0_0a p0_0k p0_0n p0_0w p0_0l) ++ (oX9 (p0_0a 3) p0_0_2a p0_0_2k p0_0_2n p0_0_2w) ++ (oX2 (p0a 7) p0_6a p0_6k p0_6n p0_6w p0_6l)) → va_K (dC, dI) cls ((tX0 p0k) ++ (tX9 p1k) ++ (tX1 p0_0k) ++ (tX9 p0_0_2k) ++ (tX2 p0_6k)) s → va_S A s.heap H locs → lv_has ls 8 [(0, .ref (p0a 0)), (1, .ref (p1a 0)), (2, .int p2), (3, .ref (p0_0a 3)), (4, .int (p0_0_2w 2 (nn p2)))] → glX9 p1n p1n → W p l e ({ frames := 3, cells := (gcX9 p1n (o.2)), slots := (3 * (gcX9 p1n (o.2))), locals := 87 } : Room) s m ([.ref (p0a 0), .ref (p1a 0), .int p2] : List Value).toArray below meth c H locs (gcX9 p1n p1n) (3 * (gcX9 p1n p1n)) Q (F0 m 43 ls [.int y0_43]) := by
    intro y0_43 H locs ls hrun hP hD hK hS hl hg_p1 
    have hgn_p1 : glX9 p1n (o.2) := (mo_fX0_writeStep_J43 hrun)
    unfold fX0_writeStep_J43 at hrun
    refine lv_istore (lv' := [(5, .int y0_43), (0, .ref (p0a 0)), (1, .ref (p1a 0)), (2, .int p2), (3, .ref (p0_0a 3)), (4, .int (p0_0_2w 2 (nn p2)))]) hx hb dX0_writeStep_43 hl (by decide) rfl (fun ls hl => ?_)
    refine lv_iload hx hb dX0_writeStep_45 (lv_at hl 5 rfl) ?_
    obtain ⟨o_3, hc_3, hrun⟩ := bnd9 hrun
    have hPc := hP.sub (ws' := ([] : va_W)) [] rfl
    have hDc := hD.sub (ws' := ([] : va_W)) [] (by decide) rfl
    have hKc := hK.sub (tys' := ([] : List (ClassId × FieldType))) [] rfl
    have hFc := va_free (wc := ([] : va_W)) hD hS hA [] rfl
    refine va_calli (va_runSN (As := [.int (p0_0_2w 2 (nn p2))]) (rest := []) ⟨hx, hb, hml, hown, hts⟩ (kX11_usesLeft l dC dI (p0 := (p0_0_2w 2 (nn p2))) (sz := _) (o := o_3) (hrun := hc_3)) ⟨(va_cnB 1 hts (gi_z qw446) rfl rfl rfl (hE.nw (List.mem_append_right _ (tbl_9 (i := 64) rfl)) rfl) (hts _ qw129) (by decide +kernel) ⟨Nat.le_of_ble_eq_true rfl, Nat.le_of_ble_eq_true rfl⟩), (hts _ qw447), trivial⟩ ⟨PRE.blind, PRE.of hE hS hFc hPc hKc hDc⟩ rfl rfl hl.1 rfl (lv_room (Nat.le_of_ble_eq_true rfl)) dX0_writeStep_47 ⟨(show (gcX9 p1n p1n) + 0 ≤ (gcX9 p1n (o.2)) from by have q0 := gmX9 hg_p1 hgn_p1; omega), (show (3 * (gcX9 p1n p1n)) + 0 ≤ (3 * (gcX9 p1n (o.2))) from by have q0 := gmX9 hg_p1 hgn_p1; omega)⟩) hS (fun q _ h => hFc q h) hFc (fun r4 u t H locs ht hvm hw hB hz1 hk1 hS => ?_)
    obtain ⟨hP, hD, hK⟩ := JOIN (wr := ((oX0 (p0a 0) p0a p0k p0n p0w) ++ (oX9 (p1a 0) p1a p1k p1n p1w) ++ (oX1 (p0a 1) p0_0a p0_0k p0_0n p0_0w p0_0l) ++ (oX9 (p0_0a 3) p0_0_2a p0_0_2k p0_0_2n p0_0_2w) ++ (oX2 (p0a 7) p0_6a p0_6k p0_6n p0_6w p0_6l))) hP hD hK [] [0, 1, 2, 3, 4, 5, 6, 7, 8, 9, 10, 11, 12, 13, 14, 15, 16, 17, 18, 19, 20, 21, 22, 23, 24, 25, 26, 27, 28, 29, 30, 31, 32, 33, 34, 35, 36, 37, 38, 39, 40, 41, 42, 43, 44, 45, 46, 47, 48, 49, 50, 51, 52, 53, 54] [0, 1, 2, 3, 4, 5, 6, 7, 8, 9, 10, 11, 12, 13, 14, 15, 16, 17, 18, 19, 20, 21, 22, 23, 24, 25, 26, 27, 28, 29, 30, 31, 32, 33, 34, 35, 36, 37, 38, 39, 40, 41, 42, 43, 44, 45, 46, 47, 48, 49] rfl rfl (by decide) (by decide) rfl hk1 hFc ht hvm hB
    have hP : va_P (dC, dI) cls ((oX0 (p0a 0) p0a p0k p0n p0w) ++ (oX9 (p1a 0) p1a p1k p1n p1w) ++ (oX1 (p0a 1) p0_0a p0_0k p0_0n p0_0w p0_0l) ++ (oX9 (p0_0a 3) p0_0_2a p0_0_2k p0_0_2n p0_0_2w) ++ (oX2 (p0a 7) p0_6a p0_6k p0_6n p0_6w p0_6l)) H := hP.sub [0, 1, 2, 3, 4, 5, 6, 7, 8, 9, 10, 11, 12, 13, 14, 15, 16, 17, 18, 19, 20, 21, 22, 23, 24, 25, 26, 27, 28, 29, 30, 31, 32, 33, 34, 35, 36, 37, 38, 39, 40, 41, 42, 43, 44, 45, 46, 47, 48, 49, 50, 51, 52, 53, 54] rfl
    have hD : va_D A ((oX0 (p0a 0) p0a p0k p0n p0w) ++ (oX9 (p1a 0) p1a p1k p1n p1w) ++ (oX1 (p0a 1) p0_0a p0_0k p0_0n p0_0w p0_0l) ++ (oX9 (p0_0a 3) p0_0_2a p0_0_2k p0_0_2n p0_0_2w) ++ (oX2 (p0a 7) p0_6a p0_6k p0_6n p0_6w p0_6l)) := hD.sub [0, 1, 2, 3, 4, 5, 6, 7, 8, 9, 10, 11, 12, 13, 14, 15, 16, 17, 18, 19, 20, 21, 22, 23, 24, 25, 26, 27, 28, 29, 30, 31, 32, 33, 34, 35, 36, 37, 38, 39, 40, 41, 42, 43, 44, 45, 46, 47, 48, 49, 50, 51, 52, 53, 54] (by decide) rfl
    have hK : va_K (dC, dI) cls ((tX0 p0k) ++ (tX9 p1k) ++ (tX1 p0_0k) ++ (tX9 p0_0_2k) ++ (tX2 p0_6k)) s := hK.sub [0, 1, 2, 3, 4, 5, 6, 7, 8, 9, 10, 11, 12, 13, 14, 15, 16, 17, 18, 19, 20, 21, 22, 23, 24, 25, 26, 27, 28, 29, 30, 31, 32, 33, 34, 35, 36, 37, 38, 39, 40, 41, 42, 43, 44, 45, 46, 47, 48, 49] rfl
    obtain rfl : o_3 = r4 := hw.symm
    have J76 : ∀ (y0_76 : Int32) (H : Heap) (locs : List Loc) (ls : Array Slot), (fX0_writeStep_J76 p1n p1w p2 p0_0_2n p0_0_2w p0_6n p0_6w y0_43 y0_76) = some o → va_P (dC, dI) cls ((oX0 (p0a 0) p0a p0k p0n p0w) ++ (oX9 (p1a 0) p1a p1k p1n p1w) ++ (oX1 (p0a 1) p0_0a p0_0k p0_0n p0_0w p0_0l) ++ (oX9 (p0_0a 3) p0_0_2a p0_0_2k p0_0_2n p0_0_2w) ++ (oX2 (p0a 7) p0_6a p0_6k p0_6n p0_6w p0_6l)) H → va_D A ((oX0 (p0a 0) p0a p0k p0n p0w) ++ (oX9 (p1a 0) p1a p1k p1n p1w) ++ (oX1 (p0a 1) p0_0a p0_0k p0_0n p0_0w p0_0l) ++ (oX9 (p0_0a 3) p0_0_2a p0_0_2k p0_0_2n p0_0_2w) ++ (oX2 (p0a 7) p0_6a p0_6k p0_6n p0_6w p0_6l)) → va_K (dC, dI) cls ((tX0 p0k) ++ (tX9 p1k) ++ (tX1 p0_0k) ++ (tX9 p0_0_2k) ++ (tX2 p0_6k)) s → va_S A s.heap H locs → lv_has ls 8 [(0, .ref (p0a 0)), (1, .ref (p1a 0)), (2, .int p2), (3, .ref (p0_0a 3)), (4, .int (p0_0_2w 2 (nn p2))), (5, .int y0_43)] → glX9 p1n p1n → W p l e ({ frames := 3, cells := (gcX9 p1n (o.2)), slots := (3 * (gcX9 p1n (o.2))), locals := 87 } : Room) s m ([.ref (p0a 0), .ref (p1a 0), .int p2] : List Value).toArray below meth c H locs (gcX9 p1n p1n) (3 * (gcX9 p1n p1n)) Q (F0 m 76 ls [.int y0_76]) := by
      intro y0_76 H locs ls hrun hP hD hK hS hl hg_p1 
      have hgn_p1 : glX9 p1n (o.2) := (mo_fX0_writeStep_J76 hrun)
      unfold fX0_writeStep_J76 at hrun
      refine lv_istore (lv' := [(6, .int y0_76), (0, .ref (p0a 0)), (1, .ref (p1a 0)), (2, .int p2), (3, .ref (p0_0a 3)), (4, .int (p0_0_2w 2 (nn p2))), (5, .int y0_43)]) hx hb dX0_writeStep_76 hl (by decide) rfl (fun ls hl => ?_)
      refine lv_iload hx hb dX0_writeStep_78 (lv_at hl 5 rfl) ?_
      obtain ⟨o_5, hc_5, hrun⟩ := bnd9 hrun
      have hPc := hP.sub (ws' := ([] : va_W)) [] rfl
      have hDc := hD.sub (ws' := ([] : va_W)) [] (by decide) rfl
      have hKc := hK.sub (tys' := ([] : List (ClassId × FieldType))) [] rfl
      have hFc := va_free (wc := ([] : va_W)) hD hS hA [] rfl
      refine va_calli (va_runSN (As := [.int (p0_0_2w 2 (nn p2))]) (rest := []) ⟨hx, hb, hml, hown, hts⟩ (kX11_usesRight l dC dI (p0 := (p0_0_2w 2 (nn p2))) (sz := _) (o := o_5) (hrun := hc_5)) ⟨(va_cnB 1 hts (gi_z qw351) rfl rfl rfl (hE.nw (List.mem_append_right _ (tbl_9 (i := 65) rfl)) rfl) (hts _ qw129) (by decide +kernel) ⟨Nat.le_of_ble_eq_true rfl, Nat.le_of_ble_eq_true rfl⟩), (hts _ qw352), trivial⟩ ⟨PRE.blind, PRE.of hE hS hFc hPc hKc hDc⟩ rfl rfl hl.1 rfl (lv_room (Nat.le_of_ble_eq_true rfl)) dX0_writeStep_80 ⟨(show (gcX9 p1n p1n) + 0 ≤ (gcX9 p1n (o.2)) from by have q0 := gmX9 hg_p1 hgn_p1; omega), (show (3 * (gcX9 p1n p1n)) + 0 ≤ (3 * (gcX9 p1n (o.2))) from by have q0 := gmX9 hg_p1 hgn_p1; omega)⟩) hS (fun q _ h => hFc q h) hFc (fun r6 u t H locs ht hvm hw hB hz1 hk1 hS => ?_)
      obtain ⟨hP, hD, hK⟩ := JOIN (wr := ((oX0 (p0a 0) p0a p0k p0n p0w) ++ (oX9 (p1a 0) p1a p1k p1n p1w) ++ (oX1 (p0a 1) p0_0a p0_0k p0_0n p0_0w p0_0l) ++ (oX9 (p0_0a 3) p0_0_2a p0_0_2k p0_0_2n p0_0_2w) ++ (oX2 (p0a 7) p0_6a p0_6k p0_6n p0_6w p0_6l))) hP hD hK [] [0, 1, 2, 3, 4, 5, 6, 7, 8, 9, 10, 11, 12, 13, 14, 15, 16, 17, 18, 19, 20, 21, 22, 23, 24, 25, 26, 27, 28, 29, 30, 31, 32, 33, 34, 35, 36, 37, 38, 39, 40, 41, 42, 43, 44, 45, 46, 47, 48, 49, 50, 51, 52, 53, 54] [0, 1, 2, 3, 4, 5, 6, 7, 8, 9, 10, 11, 12, 13, 14, 15, 16, 17, 18, 19, 20, 21, 22, 23, 24, 25, 26, 27, 28, 29, 30, 31, 32, 33, 34, 35, 36, 37, 38, 39, 40, 41, 42, 43, 44, 45, 46, 47, 48, 49] rfl rfl (by decide) (by decide) rfl hk1 hFc ht hvm hB
      have hP : va_P (dC, dI) cls ((oX0 (p0a 0) p0a p0k p0n p0w) ++ (oX9 (p1a 0) p1a p1k p1n p1w) ++ (oX1 (p0a 1) p0_0a p0_0k p0_0n p0_0w p0_0l) ++ (oX9 (p0_0a 3) p0_0_2a p0_0_2k p0_0_2n p0_0_2w) ++ (oX2 (p0a 7) p0_6a p0_6k p0_6n p0_6w p0_6l)) H := hP.sub [0, 1, 2, 3, 4, 5, 6, 7, 8, 9, 10, 11, 12, 13, 14, 15, 16, 17, 18, 19, 20, 21, 22, 23, 24, 25, 26, 27, 28, 29, 30, 31, 32, 33, 34, 35, 36, 37, 38, 39, 40, 41, 42, 43, 44, 45, 46, 47, 48, 49, 50, 51, 52, 53, 54] rfl
      have hD : va_D A ((oX0 (p0a 0) p0a p0k p0n p0w) ++ (oX9 (p1a 0) p1a p1k p1n p1w) ++ (oX1 (p0a 1) p0_0a p0_0k p0_0n p0_0w p0_0l) ++ (oX9 (p0_0a 3) p0_0_2a p0_0_2k p0_0_2n p0_0_2w) ++ (oX2 (p0a 7) p0_6a p0_6k p0_6n p0_6w p0_6l)) := hD.sub [0, 1, 2, 3, 4, 5, 6, 7, 8, 9, 10, 11, 12, 13, 14, 15, 16, 17, 18, 19, 20, 21, 22, 23, 24, 25, 26, 27, 28, 29, 30, 31, 32, 33, 34, 35, 36, 37, 38, 39, 40, 41, 42, 43, 44, 45, 46, 47, 48, 49, 50, 51, 52, 53, 54] (by decide) rfl
      have hK : va_K (dC, dI) cls ((tX0 p0k) ++ (tX9 p1k) ++ (tX1 p0_0k) ++ (tX9 p0_0_2k) ++ (tX2 p0_6k)) s := hK.sub [0, 1, 2, 3, 4, 5, 6, 7, 8, 9, 10, 11, 12, 13, 14, 15, 16, 17, 18, 19, 20, 21, 22, 23, 24, 25, 26, 27, 28, 29, 30, 31, 32, 33, 34, 35, 36, 37, 38, 39, 40, 41, 42, 43, 44, 45, 46, 47, 48, 49] rfl
      obtain rfl : o_5 = r6 := hw.symm
      have J109 : ∀ (y0_109 : Int32) (H : Heap) (locs : List Loc) (ls : Array Slot), (fX0_writeStep_J109 p1n p1w p2 p0_0_2w y0_43 y0_76 y0_109) = some o → va_P (dC, dI) cls ((oX0 (p0a 0) p0a p0k p0n p0w) ++ (oX9 (p1a 0) p1a p1k p1n p1w) ++ (oX1 (p0a 1) p0_0a p0_0k p0_0n p0_0w p0_0l) ++ (oX9 (p0_0a 3) p0_0_2a p0_0_2k p0_0_2n p0_0_2w) ++ (oX2 (p0a 7) p0_6a p0_6k p0_6n p0_6w p0_6l)) H → va_D A ((oX0 (p0a 0) p0a p0k p0n p0w) ++ (oX9 (p1a 0) p1a p1k p1n p1w) ++ (oX1 (p0a 1) p0_0a p0_0k p0_0n p0_0w p0_0l) ++ (oX9 (p0_0a 3) p0_0_2a p0_0_2k p0_0_2n p0_0_2w) ++ (oX2 (p0a 7) p0_6a p0_6k p0_6n p0_6w p0_6l)) → va_K (dC, dI) cls ((tX0 p0k) ++ (tX9 p1k) ++ (tX1 p0_0k) ++ (tX9 p0_0_2k) ++ (tX2 p0_6k)) s → va_S A s.heap H locs → lv_has ls 8 [(1, .ref (p1a 0)), (4, .int (p0_0_2w 2 (nn p2))), (5, .int y0_43), (6, .int y0_76)] → glX9 p1n p1n → W p l e ({ frames := 3, cells := (gcX9 p1n (o.2)), slots := (3 * (gcX9 p1n (o.2))), locals := 87 } : Room) s m ([.ref (p0a 0), .ref (p1a 0), .int p2] : List Value).toArray below meth c H locs (gcX9 p1n p1n) (3 * (gcX9 p1n p1n)) Q (F0 m 109 ls [.int y0_109]) := by
        intro y0_109 H locs ls hrun hP hD hK hS hl hg_p1 
        have hgn_p1 : glX9 p1n (o.2) := (mo_fX0_writeStep_J109 hrun)
        unfold fX0_writeStep_J109 at hrun
        refine lv_istore (lv' := [(7, .int y0_109), (1, .ref (p1a 0)), (4, .int (p0_0_2w 2 (nn p2))), (5, .int y0_43), (6, .int y0_76)]) hx hb dX0_writeStep_109 hl (by decide) rfl (fun ls hl => ?_)
        refine lv_aload_n hx hb dX0_writeStep_111 rfl (lv_at hl 1 rfl) ?_
        refine lv_iload hx hb dX0_writeStep_112 (lv_at hl 2 rfl) ?_
        refine lv_iload hx hb dX0_writeStep_114 (lv_at hl 3 rfl) ?_
        refine lv_iload hx hb dX0_writeStep_116 (lv_at hl 4 rfl) ?_
        refine lv_iload hx hb dX0_writeStep_118 (lv_at hl 0 rfl) ?_
        obtain ⟨o_7, hc_7, hrun⟩ := bnd9 hrun
        have hPc := hP.sub (ws' := (oX9 (p1a 0) p1a p1k p1n p1w)) [9, 10, 11, 12, 13, 14] rfl
        have hDc := hD.sub (ws' := (oX9 (p1a 0) p1a p1k p1n p1w)) [9, 10, 11, 12, 13, 14] (by decide) rfl
        have hKc := hK.sub (tys' := (tX9 p1k)) [8, 9, 10, 11, 12] rfl
        have hFc := va_free (wc := (oX9 (p1a 0) p1a p1k p1n p1w)) hD hS hA [9, 10, 11, 12, 13, 14] rfl
        have hgn_p1 : glX9 (o_7.2.2) (o.2) := (mo_fX0_writeStep_G123_19 hrun)
        refine va_calli (va_runV (As := [.int (p0_0_2w 2 (nn p2)), .int y0_43, .int y0_76, .int y0_109]) (rest := []) ⟨hx, hb, hml, hown, hts⟩ (kX9_add l dC dI (p0a := (st0 (p1a 0) p1a)) (p0k := p1k) (p0n := p1n) (p0w := p1w) (p1 := (p0_0_2w 2 (nn p2))) (p2 := y0_43) (p3 := y0_76) (p4 := y0_109) (sz := _) (o := o_7) (hrun := hc_7)) (cwV 4 hts (gi_V qw866 qw135 qw136 qw137 (gi_z qw133)) rfl rfl rfl (by decide +kernel) ⟨Nat.le_of_ble_eq_true rfl, Nat.le_of_ble_eq_true rfl⟩) ⟨PRE.blind, va_recv hKc hPc (ci := 3) (q0 := 0) rfl rfl, PRE.of hE hS hFc hPc hKc hDc⟩ rfl rfl hl.1 rfl (lv_room (Nat.le_of_ble_eq_true rfl)) dX0_writeStep_120 ⟨(show (gcX9 p1n p1n) + (gcX9 p1n (o_7.2.2)) ≤ (gcX9 p1n (o.2)) from by have q0 := gsX9 hg_p1 (mo_fX9_add hc_7) hgn_p1; omega), (show (3 * (gcX9 p1n p1n)) + (3 * ((gcX9 p1n (o_7.2.2)))) ≤ (3 * (gcX9 p1n (o.2))) from by have q0 := gsX9 hg_p1 (mo_fX9_add hc_7) hgn_p1; omega)⟩) hS (fun q _ h => hFc q h) hFc (fun r8 u t H locs ht hvm hw hB hz1 hk1 hS => ?_)
        obtain ⟨x9, z10, x11, z12, x13, z14, x15, z16, x17, z18, hB⟩ := hB
        obtain ⟨hP, hD, hK⟩ := JOIN (wr := ((oX0 (p0a 0) p0a p0k p0n p0w) ++ (oX1 (p0a 1) p0_0a p0_0k p0_0n p0_0w p0_0l) ++ (oX9 (p0_0a 3) p0_0_2a p0_0_2k p0_0_2n p0_0_2w) ++ (oX2 (p0a 7) p0_6a p0_6k p0_6n p0_6w p0_6l))) hP hD hK [9, 10, 11, 12, 13, 14] [0, 1, 2, 3, 4, 5, 6, 7, 8, 15, 16, 17, 18, 19, 20, 21, 22, 23, 24, 25, 26, 27, 28, 29, 30, 31, 32, 33, 34, 35, 36, 37, 38, 39, 40, 41, 42, 43, 44, 45, 46, 47, 48, 49, 50, 51, 52, 53, 54] [0, 1, 2, 3, 4, 5, 6, 7, 13, 14, 15, 16, 17, 18, 19, 20, 21, 22, 23, 24, 25, 26, 27, 28, 29, 30, 31, 32, 33, 34, 35, 36, 37, 38, 39, 40, 41, 42, 43, 44, 45, 46, 47, 48, 49] rfl rfl (by decide) (by decide) rfl hk1 hFc ht hvm hB
        have hP : va_P (dC, dI) cls ((oX0 (p0a 0) p0a p0k p0n p0w) ++ (oX9 (p1a 0) (st1 (st1 (st1 (st1 (st1 p1a 2 x9) 3 x11) 4 x13) 5 x15) 6 x17) (st1 (st1 (st1 (st1 (st1 p1k 2 z10) 3 z12) 4 z14) 5 z16) 6 z18) (o_7.2.2) (o_7.2.1)) ++ (oX1 (p0a 1) p0_0a p0_0k p0_0n p0_0w p0_0l) ++ (oX9 (p0_0a 3) p0_0_2a p0_0_2k p0_0_2n p0_0_2w) ++ (oX2 (p0a 7) p0_6a p0_6k p0_6n p0_6w p0_6l)) H := hP.sub [0, 1, 2, 3, 4, 5, 6, 7, 8, 49, 50, 51, 52, 53, 54, 9, 10, 11, 12, 13, 14, 15, 16, 17, 18, 19, 20, 21, 22, 23, 24, 25, 26, 27, 28, 29, 30, 31, 32, 33, 34, 35, 36, 37, 38, 39, 40, 41, 42, 43, 44, 45, 46, 47, 48] rfl
        have hD : va_D A ((oX0 (p0a 0) p0a p0k p0n p0w) ++ (oX9 (p1a 0) (st1 (st1 (st1 (st1 (st1 p1a 2 x9) 3 x11) 4 x13) 5 x15) 6 x17) (st1 (st1 (st1 (st1 (st1 p1k 2 z10) 3 z12) 4 z14) 5 z16) 6 z18) (o_7.2.2) (o_7.2.1)) ++ (oX1 (p0a 1) p0_0a p0_0k p0_0n p0_0w p0_0l) ++ (oX9 (p0_0a 3) p0_0_2a p0_0_2k p0_0_2n p0_0_2w) ++ (oX2 (p0a 7) p0_6a p0_6k p0_6n p0_6w p0_6l)) := hD.sub [0, 1, 2, 3, 4, 5, 6, 7, 8, 49, 50, 51, 52, 53, 54, 9, 10, 11, 12, 13, 14, 15, 16, 17, 18, 19, 20, 21, 22, 23, 24, 25, 26, 27, 28, 29, 30, 31, 32, 33, 34, 35, 36, 37, 38, 39, 40, 41, 42, 43, 44, 45, 46, 47, 48] (by decide) rfl
        have hK : va_K (dC, dI) cls ((tX0 p0k) ++ (tX9 (st1 (st1 (st1 (st1 (st1 p1k 2 z10) 3 z12) 4 z14) 5 z16) 6 z18)) ++ (tX1 p0_0k) ++ (tX9 p0_0_2k) ++ (tX2 p0_6k)) s := hK.sub [0, 1, 2, 3, 4, 5, 6, 7, 45, 46, 47, 48, 49, 8, 9, 10, 11, 12, 13, 14, 15, 16, 17, 18, 19, 20, 21, 22, 23, 24, 25, 26, 27, 28, 29, 30, 31, 32, 33, 34, 35, 36, 37, 38, 39, 40, 41, 42, 43, 44] rfl
        obtain rfl : r8 = (o_7.1) := hw
        refine W.widen (k := (gcX9 p1n (o_7.2.2))) (n := (3 * (gcX9 p1n (o_7.2.2)))) (by have a0 := gcX9_add hg_p1 (mo_fX9_add hc_7); omega) (by have a0 := gcX9_add hg_p1 (mo_fX9_add hc_7); omega) ?_
        have hg_p1 : glX9 p1n (o_7.2.2) := glX9_tr hg_p1 (mo_fX9_add hc_7)
        unfold fX0_writeStep_G123_19 at hrun
        refine lv_pop hx hb dX0_writeStep_123 rfl ?_
        have ho9 : ((o_7.2.1), (o_7.2.2)) = o := Option.some.inj hrun
        subst ho9
        subst hQ
        exact W.vret hx hb hr (fun t ht hW => ⟨⟨(), rfl, trivial, ⟨x9, z10, x11, z12, x13, z14, x15, z16, x17, z18, by rw [ht]; exact hP, va_K.moved hW.alike hK, hD⟩⟩, hS.F ht⟩) hS.2.2 dX0_writeStep_124
      rcases br9 hrun with ⟨hc20, hrun⟩ | ⟨hc20, hrun⟩
      · refine lv_if_eq (tgt := 103) hx hb dX0_writeStep_83 (by decide) (fun _ => ?_) (fun c => absurd hc20 c)
        refine lv_aload_n hx hb dX0_writeStep_103 rfl (lv_at hl 4 rfl) ?_
        refine va_get (D := (dC, dI)) (ci := 3) (v := .ref (p0_0_2a 5)) (C := RX9) (T := TX9) (N := 6) hx hb hts i_X9 hown hK hP 33 rfl rfl 4 (by decide) (hts _ qw800) (fun _ h9 => h9) rfl dX0_writeStep_104 ?_
        refine lv_iload_n hx hb dX0_writeStep_107 rfl (lv_at hl 3 rfl) ?_
        obtain ⟨hq21, hrun⟩ := chk9 hrun
        refine va_iald hx hb hK hP 37 33 rfl rfl (ixb_in hq21) dX0_writeStep_108 ?_
        exact J109 (p0_0_2w 5 (nn p2)) _ _ _ hrun hP hD hK hS (lv_sub hl [2, 5, 6, 0] rfl) hg_p1
      · refine lv_if_eq (tgt := 103) hx hb dX0_writeStep_83 (by decide) (fun c => absurd c hc20) (fun _ => ?_)
        refine lv_aload_n hx hb dX0_writeStep_86 rfl (lv_at hl 1 rfl) ?_
        refine va_get (D := (dC, dI)) (ci := 8) (v := .ref (p0a 7)) (C := RX0) (T := TX0) (N := 17) hx hb hts i_X0 hown hK hP 0 rfl rfl 6 (by decide) (hts _ qw626) (fun _ h9 => h9) rfl dX0_writeStep_87 ?_
        refine va_get (D := (dC, dI)) (ci := 9) (v := .ref (p0_6a 17)) (C := RX2) (T := TX2) (N := 19) hx hb hts i_X2 hown hK hP 39 rfl rfl 16 (by decide) (hts _ qw635) (fun _ h9 => h9) rfl dX0_writeStep_90 ?_
        refine lv_aload_n hx hb dX0_writeStep_93 rfl (lv_at hl 4 rfl) ?_
        refine va_get (D := (dC, dI)) (ci := 3) (v := .ref (p0_0_2a 5)) (C := RX9) (T := TX9) (N := 6) hx hb hts i_X9 hown hK hP 33 rfl rfl 4 (by decide) (hts _ qw800) (fun _ h9 => h9) rfl dX0_writeStep_94 ?_
        refine lv_iload_n hx hb dX0_writeStep_97 rfl (lv_at hl 3 rfl) ?_
        obtain ⟨hq22, hrun⟩ := chk9 hrun
        refine va_iald hx hb hK hP 37 33 rfl rfl (ixb_in hq22) dX0_writeStep_98 ?_
        obtain ⟨hq23, hrun⟩ := chk9 hrun
        refine va_iald hx hb hK hP 52 47 rfl rfl (ixb_in hq23) dX0_writeStep_99 ?_
        refine lv_goto (tgt := 109) hx hb dX0_writeStep_100 (by decide) ?_
        exact J109 (p0_6w 17 (nn (p0_0_2w 5 (nn p2)))) _ _ _ hrun hP hD hK hS (lv_sub hl [2, 5, 6, 0] rfl) hg_p1
    rcases br9 hrun with ⟨hc24, hrun⟩ | ⟨hc24, hrun⟩
    · refine lv_if_eq (tgt := 70) hx hb dX0_writeStep_50 (by decide) (fun _ => ?_) (fun c => absurd hc24 c)
      refine lv_aload_n hx hb dX0_writeStep_70 rfl (lv_at hl 4 rfl) ?_
      refine va_get (D := (dC, dI)) (ci := 3) (v := .ref (p0_0_2a 4)) (C := RX9) (T := TX9) (N := 6) hx hb hts i_X9 hown hK hP 33 rfl rfl 3 (by decide) (hts _ qw631) (fun _ h9 => h9) rfl dX0_writeStep_71 ?_
      refine lv_iload_n hx hb dX0_writeStep_74 rfl (lv_at hl 3 rfl) ?_
      obtain ⟨hq25, hrun⟩ := chk9 hrun
      refine va_iald hx hb hK hP 36 32 rfl rfl (ixb_in hq25) dX0_writeStep_75 ?_
      exact J76 (p0_0_2w 4 (nn p2)) _ _ _ hrun hP hD hK hS (lv_sub hl [1, 2, 3, 4, 5, 0] rfl) hg_p1
    · refine lv_if_eq (tgt := 70) hx hb dX0_writeStep_50 (by decide) (fun c => absurd c hc24) (fun _ => ?_)
      refine lv_aload_n hx hb dX0_writeStep_53 rfl (lv_at hl 1 rfl) ?_
      refine va_get (D := (dC, dI)) (ci := 8) (v := .ref (p0a 7)) (C := RX0) (T := TX0) (N := 17) hx hb hts i_X0 hown hK hP 0 rfl rfl 6 (by decide) (hts _ qw626) (fun _ h9 => h9) rfl dX0_writeStep_54 ?_
      refine va_get (D := (dC, dI)) (ci := 9) (v := .ref (p0_6a 17)) (C := RX2) (T := TX2) (N := 19) hx hb hts i_X2 hown hK hP 39 rfl rfl 16 (by decide) (hts _ qw635) (fun _ h9 => h9) rfl dX0_writeStep_57 ?_
      refine lv_aload_n hx hb dX0_writeStep_60 rfl (lv_at hl 4 rfl) ?_
      refine va_get (D := (dC, dI)) (ci := 3) (v := .ref (p0_0_2a 4)) (C := RX9) (T := TX9) (N := 6) hx hb hts i_X9 hown hK hP 33 rfl rfl 3 (by decide) (hts _ qw631) (fun _ h9 => h9) rfl dX0_writeStep_61 ?_
      refine lv_iload_n hx hb dX0_writeStep_64 rfl (lv_at hl 3 rfl) ?_
      obtain ⟨hq26, hrun⟩ := chk9 hrun
      refine va_iald hx hb hK hP 36 32 rfl rfl (ixb_in hq26) dX0_writeStep_65 ?_
      obtain ⟨hq27, hrun⟩ := chk9 hrun
      refine va_iald hx hb hK hP 52 47 rfl rfl (ixb_in hq27) dX0_writeStep_66 ?_
      refine lv_goto (tgt := 76) hx hb dX0_writeStep_67 (by decide) ?_
      exact J76 (p0_6w 17 (nn (p0_0_2w 4 (nn p2)))) _ _ _ hrun hP hD hK hS (lv_sub hl [1, 2, 3, 4, 5, 0] rfl) hg_p1
  rcases br9 hrun with ⟨hc28, hrun⟩ | ⟨hc28, hrun⟩
  · refine lv_if_ge (tgt := 29) hx hb dX0_writeStep_22 (by decide) (fun _ => ?_) (fun c => absurd hc28 c)
    refine lv_aload_n hx hb dX0_writeStep_29 rfl (lv_at hl 2 rfl) ?_
    refine va_get (D := (dC, dI)) (ci := 8) (v := .ref (p0a 7)) (C := RX0) (T := TX0) (N := 17) hx hb hts i_X0 hown hK hP 0 rfl rfl 6 (by decide) (hts _ qw626) (fun _ h9 => h9) rfl dX0_writeStep_30 ?_
    refine va_get (D := (dC, dI)) (ci := 9) (v := .ref (p0_6a 17)) (C := RX2) (T := TX2) (N := 19) hx hb hts i_X2 hown hK hP 39 rfl rfl 16 (by decide) (hts _ qw635) (fun _ h9 => h9) rfl dX0_writeStep_33 ?_
    refine lv_aload_n hx hb dX0_writeStep_36 rfl (lv_at hl 1 rfl) ?_
    refine va_get (D := (dC, dI)) (ci := 3) (v := .ref (p0_0_2a 3)) (C := RX9) (T := TX9) (N := 6) hx hb hts i_X9 hown hK hP 33 rfl rfl 2 (by decide) (hts _ qw636) (fun _ h9 => h9) rfl dX0_writeStep_37 ?_
    refine lv_iload_n hx hb dX0_writeStep_40 rfl (lv_at hl 4 rfl) ?_
    obtain ⟨hq29, hrun⟩ := chk9 hrun
    refine va_iald hx hb hK hP 35 31 rfl rfl (ixb_in hq29) dX0_writeStep_41 ?_
    obtain ⟨hq30, hrun⟩ := chk9 hrun
    refine va_iald hx hb hK hP 52 47 rfl rfl (ixb_in hq30) dX0_writeStep_42 ?_
    exact J43 (p0_6w 17 (nn (p0_0_2w 3 (nn p2)))) _ _ _ hrun hP hD hK hS (lv_sub hl [2, 3, 4, 1, 0] rfl) hg_p1
  · refine lv_if_ge (tgt := 29) hx hb dX0_writeStep_22 (by decide) (fun c => absurd c hc28) (fun _ => ?_)
    refine lv_iconst (v := (-1)) hx hb dX0_writeStep_25 (by decide) ?_
    refine lv_goto (tgt := 43) hx hb dX0_writeStep_26 (by decide) ?_
    exact J43 (-1) _ _ _ hrun hP hD hK hS (lv_sub hl [2, 3, 4, 1, 0] rfl) hg_p1
def fX0_writeEnd_J62 (p1w_62 : ST) (p1n_62 : Nat → Nat) : Option (ST × (Nat → Nat)) := some (p1w_62, p1n_62)
theorem mo_fX0_writeEnd_J62 {p1w_62 : ST} {p1n_62 : Nat → Nat} {o9q : ST × (Nat → Nat)} (hrun : fX0_writeEnd_J62 p1w_62 p1n_62 = some o9q) : glX9 p1n_62 (o9q.2) := by
  unfold fX0_writeEnd_J62 at hrun
  obtain rfl := (Option.some.inj hrun)
  exact (glX9_rf _)
def fX0_writeEnd_G61_19 (o_7 : Int32 × ST × (Nat → Nat)) : Option (ST × (Nat → Nat)) := (fX0_writeEnd_J62 (o_7.2.1) (o_7.2.2))
theorem mo_fX0_writeEnd_G61_19 {o_7 : Int32 × ST × (Nat → Nat)} {o9q : ST × (Nat → Nat)} (hrun : fX0_writeEnd_G61_19 o_7 = some o9q) : glX9 (o_7.2.2) (o9q.2) := by
  unfold fX0_writeEnd_G61_19 at hrun
  exact (mo_fX0_writeEnd_J62 hrun)
def fX0_writeEnd_J195 (p1w_195 : ST) (p1n_195 : Nat → Nat) : Option (ST × (Nat → Nat)) := some (p1w_195, p1n_195)
theorem mo_fX0_writeEnd_J195 {p1w_195 : ST} {p1n_195 : Nat → Nat} {o9q : ST × (Nat → Nat)} (hrun : fX0_writeEnd_J195 p1w_195 p1n_195 = some o9q) : glX9 p1n_195 (o9q.2) := by
  unfold fX0_writeEnd_J195 at hrun
  obtain rfl := (Option.some.inj hrun)
  exact (glX9_rf _)
def fX0_writeEnd_G106_36 (o_24 : Int32 × ST × (Nat → Nat)) : Option (ST × (Nat → Nat)) := (fX0_writeEnd_J195 (o_24.2.1) (o_24.2.2))
theorem mo_fX0_writeEnd_G106_36 {o_24 : Int32 × ST × (Nat → Nat)} {o9q : ST × (Nat → Nat)} (hrun : fX0_writeEnd_G106_36 o_24 = some o9q) : glX9 (o_24.2.2) (o9q.2) := by
  unfold fX0_writeEnd_G106_36 at hrun
  exact (mo_fX0_writeEnd_J195 hrun)
def fX0_writeEnd_G132_51 (o_39 : Int32 × ST × (Nat → Nat)) : Option (ST × (Nat → Nat)) := (fX0_writeEnd_J195 (o_39.2.1) (o_39.2.2))
theorem mo_fX0_writeEnd_G132_51 {o_39 : Int32 × ST × (Nat → Nat)} {o9q : ST × (Nat → Nat)} (hrun : fX0_writeEnd_G132_51 o_39 = some o9q) : glX9 (o_39.2.2) (o9q.2) := by
  unfold fX0_writeEnd_G132_51 at hrun
  exact (mo_fX0_writeEnd_J195 hrun)
def fX0_writeEnd_G158_66 (o_54 : Int32 × ST × (Nat → Nat)) : Option (ST × (Nat → Nat)) := (fX0_writeEnd_J195 (o_54.2.1) (o_54.2.2))
theorem mo_fX0_writeEnd_G158_66 {o_54 : Int32 × ST × (Nat → Nat)} {o9q : ST × (Nat → Nat)} (hrun : fX0_writeEnd_G158_66 o_54 = some o9q) : glX9 (o_54.2.2) (o9q.2) := by
  unfold fX0_writeEnd_G158_66 at hrun
  exact (mo_fX0_writeEnd_J195 hrun)
def fX0_writeEnd_G194_94 (o_82 : Int32 × ST × (Nat → Nat)) : Option (ST × (Nat → Nat)) := (fX0_writeEnd_J195 (o_82.2.1) (o_82.2.2))
theorem mo_fX0_writeEnd_G194_94 {o_82 : Int32 × ST × (Nat → Nat)} {o9q : ST × (Nat → Nat)} (hrun : fX0_writeEnd_G194_94 o_82 = some o9q) : glX9 (o_82.2.2) (o9q.2) := by
  unfold fX0_writeEnd_G194_94 at hrun
  exact (mo_fX0_writeEnd_J195 hrun)
def fX0_writeEnd_G178_80 (p0w : ST) (p2 : Int32) (p0_0w : ST) (o_68 : Int32 × ST × (Nat → Nat)) : Option (ST × (Nat → Nat)) := (if ixb (p0_0w 11 (nn p2)) 61 = true then ((fX9_add (o_68.2.2) (o_68.2.1) 22 (-1) (p0w 17 (nn (p0_0w 11 (nn p2)))) (-1)).bind fun (o_82 : Int32 × ST × (Nat → Nat)) => (fX0_writeEnd_G194_94 o_82)) else none)
theorem mo_fX0_writeEnd_G178_80 {p0w : ST} {p2 : Int32} {p0_0w : ST} {o_68 : Int32 × ST × (Nat → Nat)} {o9q : ST × (Nat → Nat)} (hrun : fX0_writeEnd_G178_80 p0w p2 p0_0w o_68 = some o9q) : glX9 (o_68.2.2) (o9q.2) := by
  unfold fX0_writeEnd_G178_80 at hrun
  obtain ⟨hq81, hrun⟩ := chk9 hrun
  obtain ⟨o_82, hc_82, hrun⟩ := bnd9 hrun
  exact (glX9_tr (mo_fX9_add hc_82) (mo_fX0_writeEnd_G194_94 hrun))
def fX0_writeEnd (p0w : ST) (p1n : Nat → Nat) (p1w : ST) (p2 : Int32) (p0_0w : ST) (p0_6n : Nat → Nat) (p0_6w : ST) : Option (ST × (Nat → Nat)) := (if ixb p2 60 = true then (if ixb p2 60 = true then (if ixb p2 60 = true then (if (p0_0w 8 (nn p2)) = 22 then (if (p0_0w 10 (nn p2)) = (p2 + 1) then (fX0_writeEnd_J62 p1w p1n) else (if ixb (p0_0w 10 (nn p2)) 61 = true then ((fX9_add p1n p1w 22 (-1) (p0w 17 (nn (p0_0w 10 (nn p2)))) (-1)).bind fun (o_7 : Int32 × ST × (Nat → Nat)) => (fX0_writeEnd_G61_19 o_7)) else none)) else (if ixb p2 60 = true then (if ixb (p0_0w 9 (nn p2)) (p0_6n 17) = true then (if ixb p2 60 = true then (if (p0_0w 8 (nn p2)) = 24 then ((fX9_add p1n p1w 24 (-1) (p0_6w 17 (nn (p0_0w 9 (nn p2)))) (-1)).bind fun (o_24 : Int32 × ST × (Nat → Nat)) => (fX0_writeEnd_G106_36 o_24)) else (if (p0_0w 11 (nn p2)) = (p2 + 1) then (if ixb (p0_0w 10 (nn p2)) 61 = true then ((fX9_add p1n p1w 23 (-1) (p0_6w 17 (nn (p0_0w 9 (nn p2)))) (p0w 17 (nn (p0_0w 10 (nn p2))))).bind fun (o_39 : Int32 × ST × (Nat → Nat)) => (fX0_writeEnd_G132_51 o_39)) else none) else (if (p0_0w 10 (nn p2)) = (p2 + 1) then (if ixb (p0_0w 11 (nn p2)) 61 = true then ((fX9_add p1n p1w 28 (-1) (p0_6w 17 (nn (p0_0w 9 (nn p2)))) (p0w 17 (nn (p0_0w 11 (nn p2))))).bind fun (o_54 : Int32 × ST × (Nat → Nat)) => (fX0_writeEnd_G158_66 o_54)) else none) else (if ixb (p0_0w 10 (nn p2)) 61 = true then ((fX9_add p1n p1w 23 (-1) (p0_6w 17 (nn (p0_0w 9 (nn p2)))) (p0w 17 (nn (p0_0w 10 (nn p2))))).bind fun (o_68 : Int32 × ST × (Nat → Nat)) => (fX0_writeEnd_G178_80 p0w p2 p0_0w o_68)) else none)))) else none) else none) else none)) else none) else none) else none)
theorem mo_fX0_writeEnd {p0w : ST} {p1n : Nat → Nat} {p1w : ST} {p2 : Int32} {p0_0w : ST} {p0_6n : Nat → Nat} {p0_6w : ST} {o9q : ST × (Nat → Nat)} (hrun : fX0_writeEnd p0w p1n p1w p2 p0_0w p0_6n p0_6w = some o9q) : glX9 p1n (o9q.2) := by
  unfold fX0_writeEnd at hrun
  obtain ⟨hq1, hrun⟩ := chk9 hrun
  obtain ⟨hq2, hrun⟩ := chk9 hrun
  obtain ⟨hq3, hrun⟩ := chk9 hrun
  rcases br9 hrun with ⟨hc4, hrun⟩ | ⟨hc4, hrun⟩
  · skip
    rcases br9 hrun with ⟨hc5, hrun⟩ | ⟨hc5, hrun⟩
    · skip
      exact (mo_fX0_writeEnd_J62 hrun)
    · skip
      obtain ⟨hq6, hrun⟩ := chk9 hrun
      obtain ⟨o_7, hc_7, hrun⟩ := bnd9 hrun
      exact (glX9_tr (mo_fX9_add hc_7) (mo_fX0_writeEnd_G61_19 hrun))
  · skip
    obtain ⟨hq20, hrun⟩ := chk9 hrun
    obtain ⟨hq21, hrun⟩ := chk9 hrun
    obtain ⟨hq22, hrun⟩ := chk9 hrun
    rcases br9 hrun with ⟨hc23, hrun⟩ | ⟨hc23, hrun⟩
    · skip
      obtain ⟨o_24, hc_24, hrun⟩ := bnd9 hrun
      exact (glX9_tr (mo_fX9_add hc_24) (mo_fX0_writeEnd_G106_36 hrun))
    · skip
      rcases br9 hrun with ⟨hc37, hrun⟩ | ⟨hc37, hrun⟩
      · skip
        obtain ⟨hq38, hrun⟩ := chk9 hrun
        obtain ⟨o_39, hc_39, hrun⟩ := bnd9 hrun
        exact (glX9_tr (mo_fX9_add hc_39) (mo_fX0_writeEnd_G132_51 hrun))
      · skip
        rcases br9 hrun with ⟨hc52, hrun⟩ | ⟨hc52, hrun⟩
        · skip
          obtain ⟨hq53, hrun⟩ := chk9 hrun
          obtain ⟨o_54, hc_54, hrun⟩ := bnd9 hrun
          exact (glX9_tr (mo_fX9_add hc_54) (mo_fX0_writeEnd_G158_66 hrun))
        · skip
          obtain ⟨hq67, hrun⟩ := chk9 hrun
          obtain ⟨o_68, hc_68, hrun⟩ := bnd9 hrun
          exact (glX9_tr (mo_fX9_add hc_68) (mo_fX0_writeEnd_G178_80 hrun))
set_option maxHeartbeats 16000000 in
set_option maxRecDepth 100000 in
theorem kX0_writeEnd {zs : Nat × Nat} (l : Launch) (dC : Nat → ClassId) (dI : Nat → Nat → Nat) (p0a : Nat → Nat) (p0k : Nat → ClassId) (p0n : Nat → Nat) (p0w : ST) (p1a : Nat → Nat) (p1k : Nat → ClassId) (p1n : Nat → Nat) (p1w : ST) (p2 : Int32) (p0_0a : Nat → Nat) (p0_0k : Nat → ClassId) (p0_0n : Nat → Nat) (p0_0w : ST) (p0_0l : SL) (p0_6a : Nat → Nat) (p0_6k : Nat → ClassId) (p0_6n : Nat → Nat) (p0_6w : ST) (p0_6l : SL) (sz : Nat) (o : ST × (Nat → Nat)) (hrun : fX0_writeEnd p0w p1n p1w p2 p0_0w p0_6n p0_6w = some o) : Met l yX0_writeEnd (wz yX0_writeEnd cX0_writeEnd 7 (Option.none : Option Jvm.ClassFile.FieldType)) ({ frames := 3, cells := (gcX9 p1n (o.2)), slots := (3 * (gcX9 p1n (o.2))), locals := 87 } : Room) (va_Pc [.ref (p0a 0), .ref (p1a 0), .int p2] (PRE zs dC dI ((oX0 (p0a 0) p0a p0k p0n p0w) ++ (oX9 (p1a 0) p1a p1k p1n p1w) ++ (oX1 (p0a 1) p0_0a p0_0k p0_0n p0_0w p0_0l) ++ (oX2 (p0a 7) p0_6a p0_6k p0_6n p0_6w p0_6l)) ((tX0 p0k) ++ (tX9 p1k) ++ (tX1 p0_0k) ++ (tX2 p0_6k)) sz)) (va_Qv (fun (_ : Unit) => True) (fun _ t => ∃ (xp1_1_z : Nat), ∃ (zp1_1_z : ClassId), ∃ (xp1_2_z : Nat), ∃ (zp1_2_z : ClassId), ∃ (xp1_3_z : Nat), ∃ (zp1_3_z : ClassId), ∃ (xp1_4_z : Nat), ∃ (zp1_4_z : ClassId), ∃ (xp1_5_z : Nat), ∃ (zp1_5_z : ClassId), POST dC dI ((oX0 (p0a 0) p0a p0k p0n p0w) ++ (oX9 (p1a 0) (st1 (st1 (st1 (st1 (st1 p1a 2 xp1_1_z) 3 xp1_2_z) 4 xp1_3_z) 5 xp1_4_z) 6 xp1_5_z) (st1 (st1 (st1 (st1 (st1 p1k 2 zp1_1_z) 3 zp1_2_z) 4 zp1_3_z) 5 zp1_4_z) 6 zp1_5_z) (o.2) (o.1)) ++ (oX1 (p0a 1) p0_0a p0_0k p0_0n p0_0w p0_0l) ++ (oX2 (p0a 7) p0_6a p0_6k p0_6n p0_6w p0_6l)) ((tX0 p0k) ++ (tX9 (st1 (st1 (st1 (st1 (st1 p1k 2 zp1_1_z) 3 zp1_2_z) 4 zp1_3_z) 5 zp1_4_z) 6 zp1_5_z)) ++ (tX1 p0_0k) ++ (tX2 p0_6k)) (va_A ((oX0 (p0a 0) p0a p0k p0n p0w) ++ (oX9 (p1a 0) p1a p1k p1n p1w) ++ (oX1 (p0a 1) p0_0a p0_0k p0_0n p0_0w p0_0l) ++ (oX2 (p0a 7) p0_6a p0_6k p0_6n p0_6w p0_6l)) sz) t) (va_A ((oX0 (p0a 0) p0a p0k p0n p0w) ++ (oX9 (p1a 0) p1a p1k p1n p1w) ++ (oX1 (p0a 1) p0_0a p0_0k p0_0n p0_0w p0_0l) ++ (oX2 (p0a 7) p0_6a p0_6k p0_6n p0_6w p0_6l)) sz)) (gcX9 p1n (o.2)) (3 * (gcX9 p1n (o.2))) (va_A ((oX0 (p0a 0) p0a p0k p0n p0w) ++ (oX9 (p1a 0) p1a p1k p1n p1w) ++ (oX1 (p0a 1) p0_0a p0_0k p0_0n p0_0w p0_0l) ++ (oX2 (p0a 7) p0_6a p0_6k p0_6n p0_6w p0_6l)) sz) := by
  refine Met.ofW (cc := cX0_writeEnd) (maxL := 7) (ret := (Option.none : Option Jvm.ClassFile.FieldType)) (by decide) rfl ?_
  intro p e s m args below meth c s₁ B hml hv
  obtain ⟨rfl, hsz, hP, hK, hD0, hE⟩ := hv
  have hx := B.exec
  have hb := B.bytes
  have hr := B.returns
  have hts0 := atoms_spec (ws := wz yX0_writeEnd cX0_writeEnd 7 (Option.none : Option Jvm.ClassFile.FieldType)) B.pre
  have hts : ∀ w ∈ gw, w.before _ s = true := fun w h => hts0 w (List.mem_cons_of_mem _ h)
  have hown : s.vm.findClass RX0 = some m.cls := findClass_of_methodNamed B.named
  have hlocks := B.notSynchronized
  subst hsz
  have hD := hD0.self (sz := s.heap.size)
  refine gQ9 ?_
  intro Q hQ
  generalize hAe : va_A ((oX0 (p0a 0) p0a p0k p0n p0w) ++ (oX9 (p1a 0) p1a p1k p1n p1w) ++ (oX1 (p0a 1) p0_0a p0_0k p0_0n p0_0w p0_0l) ++ (oX2 (p0a 7) p0_6a p0_6k p0_6n p0_6w p0_6l)) s.heap.size = A at hD hE hQ
  have hA : ∀ q : Nat, s.heap.size ≤ q → A q := fun q h => by rw [← hAe]; exact Or.inr h
  have hS : va_S A s.heap s.heap [] := va_S.rf
  have hP : va_P (dC, dI) cls ((oX0 (p0a 0) p0a p0k p0n p0w) ++ (oX9 (p1a 0) p1a p1k p1n p1w) ++ (oX1 (p0a 1) p0_0a p0_0k p0_0n p0_0w p0_0l) ++ (oX2 (p0a 7) p0_6a p0_6k p0_6n p0_6w p0_6l)) s.heap := hP
  have hl := lv_entry ([.ref (p0a 0), .ref (p1a 0), .int p2]) (n := 7) (Nat.le_of_ble_eq_true rfl)
  rw [lg_entry_eq]
  generalize (lg_sl ([.ref (p0a 0), .ref (p1a 0), .int p2]) ++ List.replicate (7 - (lg_sl ([.ref (p0a 0), .ref (p1a 0), .int p2])).length) Slot.unset).toArray = ls at hl ⊢
  have hl : lv_has ls 7 [(0, .ref (p0a 0)), (1, .ref (p1a 0)), (2, .int p2)] := hl
  obtain ⟨H, hHe⟩ : ∃ H, H = s.heap := ⟨_, rfl⟩
  obtain ⟨locs, hle⟩ : ∃ locs : List Loc, locs = [] := ⟨_, rfl⟩
  rw [← hHe] at hP
  have hS : va_S A s.heap H locs := by rw [hHe, hle]; exact hS
  show W p l e ({ frames := 3, cells := (gcX9 p1n (o.2)), slots := (3 * (gcX9 p1n (o.2))), locals := 87 } : Room) s m ([.ref (p0a 0), .ref (p1a 0), .int p2] : List Value).toArray below meth c s.heap [] 0 0 Q (F0 m 0 ls [])
  rw [← hle]
  refine wH9 hHe ?_
  have hg_p1 := glX9_rf p1n
  have hgn_p1 : glX9 p1n (o.2) := (mo_fX0_writeEnd hrun)
  refine W.widen (k := (gcX9 p1n p1n)) (n := (3 * (gcX9 p1n p1n))) (Nat.zero_le _) (Nat.zero_le _) ?_
  unfold fX0_writeEnd at hrun
  refine lv_iload_n hx hb dX0_writeEnd_0 rfl (lv_at hl 2 rfl) ?_
  refine lv_iconst (v := 1) hx hb dX0_writeEnd_1 (by decide) ?_
  refine lv_iadd hx hb dX0_writeEnd_2 ?_
  refine lv_istore_n (lv' := [(3, .int (p2 + 1)), (0, .ref (p0a 0)), (1, .ref (p1a 0)), (2, .int p2)]) hx hb dX0_writeEnd_3 rfl hl (by decide) rfl (fun ls hl => ?_)
  refine lv_aload_n hx hb dX0_writeEnd_4 rfl (lv_at hl 1 rfl) ?_
  refine va_get (D := (dC, dI)) (ci := 8) (v := .ref (p0a 1)) (C := RX0) (T := TX0) (N := 17) hx hb hts i_X0 hown hK hP 0 rfl rfl 0 (by decide) (hts _ qw618) (fun _ h9 => h9) rfl dX0_writeEnd_5 ?_
  refine va_get (D := (dC, dI)) (ci := 4) (v := .ref (p0_0a 10)) (C := RX1) (T := TX1) (N := 21) hx hb hts i_X1 hown hK hP 15 rfl rfl 9 (by decide) (hts _ qw620) (fun _ h9 => h9) rfl dX0_writeEnd_8 ?_
  refine lv_iload_n hx hb dX0_writeEnd_11 rfl (lv_at hl 3 rfl) ?_
  obtain ⟨hq1, hrun⟩ := chk9 hrun
  refine va_iald hx hb hK hP 22 19 rfl rfl (ixb_in hq1) dX0_writeEnd_12 ?_
  refine lv_istore (lv' := [(4, .int (p0_0w 10 (nn p2))), (3, .int (p2 + 1)), (0, .ref (p0a 0)), (1, .ref (p1a 0)), (2, .int p2)]) hx hb dX0_writeEnd_13 hl (by decide) rfl (fun ls hl => ?_)
  refine lv_aload_n hx hb dX0_writeEnd_15 rfl (lv_at hl 2 rfl) ?_
  refine va_get (D := (dC, dI)) (ci := 8) (v := .ref (p0a 1)) (C := RX0) (T := TX0) (N := 17) hx hb hts i_X0 hown hK hP 0 rfl rfl 0 (by decide) (hts _ qw618) (fun _ h9 => h9) rfl dX0_writeEnd_16 ?_
  refine va_get (D := (dC, dI)) (ci := 4) (v := .ref (p0_0a 11)) (C := RX1) (T := TX1) (N := 21) hx hb hts i_X1 hown hK hP 15 rfl rfl 10 (by decide) (hts _ qw871) (fun _ h9 => h9) rfl dX0_writeEnd_19 ?_
  refine lv_iload_n hx hb dX0_writeEnd_22 rfl (lv_at hl 4 rfl) ?_
  obtain ⟨hq2, hrun⟩ := chk9 hrun
  refine va_iald hx hb hK hP 23 20 rfl rfl (ixb_in hq2) dX0_writeEnd_23 ?_
  refine lv_istore (lv' := [(5, .int (p0_0w 11 (nn p2))), (4, .int (p0_0w 10 (nn p2))), (3, .int (p2 + 1)), (0, .ref (p0a 0)), (1, .ref (p1a 0)), (2, .int p2)]) hx hb dX0_writeEnd_24 hl (by decide) rfl (fun ls hl => ?_)
  refine lv_aload_n hx hb dX0_writeEnd_26 rfl (lv_at hl 3 rfl) ?_
  refine va_get (D := (dC, dI)) (ci := 8) (v := .ref (p0a 1)) (C := RX0) (T := TX0) (N := 17) hx hb hts i_X0 hown hK hP 0 rfl rfl 0 (by decide) (hts _ qw618) (fun _ h9 => h9) rfl dX0_writeEnd_27 ?_
  refine va_get (D := (dC, dI)) (ci := 4) (v := .ref (p0_0a 8)) (C := RX1) (T := TX1) (N := 21) hx hb hts i_X1 hown hK hP 15 rfl rfl 7 (by decide) (hts _ qw619) (fun _ h9 => h9) rfl dX0_writeEnd_30 ?_
  refine lv_iload_n hx hb dX0_writeEnd_33 rfl (lv_at hl 5 rfl) ?_
  obtain ⟨hq3, hrun⟩ := chk9 hrun
  refine va_iald hx hb hK hP 20 17 rfl rfl (ixb_in hq3) dX0_writeEnd_34 ?_
  refine lv_bipush (v := 22) hx hb dX0_writeEnd_35 (by decide) ?_
  rcases br9 hrun with ⟨hc4, hrun⟩ | ⟨hc4, hrun⟩
  · refine lv_icmp_ne (tgt := 63) hx hb dX0_writeEnd_37 (by decide) (fun c => absurd hc4 c) (fun _ => ?_)
    refine lv_iload hx hb dX0_writeEnd_40 (lv_at hl 1 rfl) ?_
    refine lv_iload_n hx hb dX0_writeEnd_42 rfl (lv_at hl 2 rfl) ?_
    have J62 : ∀ (p1w_62 : ST) (p1n_62 : Nat → Nat) (xp1_1_62 : Nat) (zp1_1_62 : ClassId) (xp1_2_62 : Nat) (zp1_2_62 : ClassId) (xp1_3_62 : Nat) (zp1_3_62 : ClassId) (xp1_4_62 : Nat) (zp1_4_62 : ClassId) (xp1_5_62 : Nat) (zp1_5_62 : ClassId) (H : Heap) (locs : List Loc) (ls : Array Slot), (fX0_writeEnd_J62 p1w_62 p1n_62) = some o → va_P (dC, dI) cls ((oX0 (p0a 0) p0a p0k p0n p0w) ++ (oX9 (p1a 0) (st1 (st1 (st1 (st1 (st1 p1a 2 xp1_1_62) 3 xp1_2_62) 4 xp1_3_62) 5 xp1_4_62) 6 xp1_5_62) (st1 (st1 (st1 (st1 (st1 p1k 2 zp1_1_62) 3 zp1_2_62) 4 zp1_3_62) 5 zp1_4_62) 6 zp1_5_62) p1n_62 p1w_62) ++ (oX1 (p0a 1) p0_0a p0_0k p0_0n p0_0w p0_0l) ++ (oX2 (p0a 7) p0_6a p0_6k p0_6n p0_6w p0_6l)) H → va_D A ((oX0 (p0a 0) p0a p0k p0n p0w) ++ (oX9 (p1a 0) (st1 (st1 (st1 (st1 (st1 p1a 2 xp1_1_62) 3 xp1_2_62) 4 xp1_3_62) 5 xp1_4_62) 6 xp1_5_62) (st1 (st1 (st1 (st1 (st1 p1k 2 zp1_1_62) 3 zp1_2_62) 4 zp1_3_62) 5 zp1_4_62) 6 zp1_5_62) p1n_62 p1w_62) ++ (oX1 (p0a 1) p0_0a p0_0k p0_0n p0_0w p0_0l) ++ (oX2 (p0a 7) p0_6a p0_6k p0_6n p0_6w p0_6l)) → va_K (dC, dI) cls ((tX0 p0k) ++ (tX9 (st1 (st1 (st1 (st1 (st1 p1k 2 zp1_1_62) 3 zp1_2_62) 4 zp1_3_62) 5 zp1_4_62) 6 zp1_5_62)) ++ (tX1 p0_0k) ++ (tX2 p0_6k)) s → va_S A s.heap H locs → lv_has ls 7 [] → glX9 p1n p1n_62 → W p l e ({ frames := 3, cells := (gcX9 p1n (o.2)), slots := (3 * (gcX9 p1n (o.2))), locals := 87 } : Room) s m ([.ref (p0a 0), .ref (p1a 0), .int p2] : List Value).toArray below meth c H locs (gcX9 p1n p1n_62) (3 * (gcX9 p1n p1n_62)) Q (F0 m 62 ls []) := by
      intro p1w_62 p1n_62 xp1_1_62 zp1_1_62 xp1_2_62 zp1_2_62 xp1_3_62 zp1_3_62 xp1_4_62 zp1_4_62 xp1_5_62 zp1_5_62 H locs ls hrun hP hD hK hS hl hg_p1 
      have hgn_p1 : glX9 p1n_62 (o.2) := (mo_fX0_writeEnd_J62 hrun)
      unfold fX0_writeEnd_J62 at hrun
      have ho9 : (p1w_62, p1n_62) = o := Option.some.inj hrun
      subst ho9
      subst hQ
      exact W.vret hx hb hr (fun t ht hW => ⟨⟨(), rfl, trivial, ⟨xp1_1_62, zp1_1_62, xp1_2_62, zp1_2_62, xp1_3_62, zp1_3_62, xp1_4_62, zp1_4_62, xp1_5_62, zp1_5_62, by rw [ht]; exact hP, va_K.moved hW.alike hK, hD⟩⟩, hS.F ht⟩) hS.2.2 dX0_writeEnd_62
    rcases br9 hrun with ⟨hc5, hrun⟩ | ⟨hc5, hrun⟩
    · refine lv_icmp_eq (tgt := 62) hx hb dX0_writeEnd_43 (by decide) (fun _ => ?_) (fun c => absurd hc5 c)
      exact J62 p1w p1n (p1a 2) (p1k 2) (p1a 3) (p1k 3) (p1a 4) (p1k 4) (p1a 5) (p1k 5) (p1a 6) (p1k 6) _ _ _ hrun hP hD hK hS (lv_sub hl [] rfl) hg_p1
    · refine lv_icmp_eq (tgt := 62) hx hb dX0_writeEnd_43 (by decide) (fun c => absurd c hc5) (fun _ => ?_)
      refine lv_aload_n hx hb dX0_writeEnd_46 rfl (lv_at hl 4 rfl) ?_
      refine lv_bipush (v := 22) hx hb dX0_writeEnd_47 (by decide) ?_
      refine lv_iconst (v := (-1)) hx hb dX0_writeEnd_49 (by decide) ?_
      refine lv_aload_n hx hb dX0_writeEnd_50 rfl (lv_at hl 3 rfl) ?_
      refine va_get (D := (dC, dI)) (ci := 8) (v := .ref (p0a 17)) (C := RX0) (T := TX0) (N := 17) hx hb hts i_X0 hown hK hP 0 rfl rfl 16 (by decide) (hts _ qw856) (fun _ h9 => h9) rfl dX0_writeEnd_51 ?_
      refine lv_iload hx hb dX0_writeEnd_54 (lv_at hl 1 rfl) ?_
      obtain ⟨hq6, hrun⟩ := chk9 hrun
      refine va_iald hx hb hK hP 8 7 rfl rfl (ixb_in hq6) dX0_writeEnd_56 ?_
      refine lv_iconst (v := (-1)) hx hb dX0_writeEnd_57 (by decide) ?_
      obtain ⟨o_7, hc_7, hrun⟩ := bnd9 hrun
      have hPc := hP.sub (ws' := (oX9 (p1a 0) p1a p1k p1n p1w)) [9, 10, 11, 12, 13, 14] rfl
      have hDc := hD.sub (ws' := (oX9 (p1a 0) p1a p1k p1n p1w)) [9, 10, 11, 12, 13, 14] (by decide) rfl
      have hKc := hK.sub (tys' := (tX9 p1k)) [8, 9, 10, 11, 12] rfl
      have hFc := va_free (wc := (oX9 (p1a 0) p1a p1k p1n p1w)) hD hS hA [9, 10, 11, 12, 13, 14] rfl
      have hgn_p1 : glX9 (o_7.2.2) (o.2) := (mo_fX0_writeEnd_G61_19 hrun)
      refine va_calli (va_runV (As := [.int 22, .int (-1), .int (p0w 17 (nn (p0_0w 10 (nn p2)))), .int (-1)]) (rest := []) ⟨hx, hb, hml, hown, hts⟩ (kX9_add l dC dI (p0a := (st0 (p1a 0) p1a)) (p0k := p1k) (p0n := p1n) (p0w := p1w) (p1 := 22) (p2 := (-1)) (p3 := (p0w 17 (nn (p0_0w 10 (nn p2))))) (p4 := (-1)) (sz := _) (o := o_7) (hrun := hc_7)) (cwV 4 hts (gi_V qw866 qw135 qw136 qw137 (gi_z qw133)) rfl rfl rfl (by decide +kernel) ⟨Nat.le_of_ble_eq_true rfl, Nat.le_of_ble_eq_true rfl⟩) ⟨PRE.blind, va_recv hKc hPc (ci := 3) (q0 := 0) rfl rfl, PRE.of hE hS hFc hPc hKc hDc⟩ rfl rfl hl.1 rfl (lv_room (Nat.le_of_ble_eq_true rfl)) dX0_writeEnd_58 ⟨(show (gcX9 p1n p1n) + (gcX9 p1n (o_7.2.2)) ≤ (gcX9 p1n (o.2)) from by have q0 := gsX9 hg_p1 (mo_fX9_add hc_7) hgn_p1; omega), (show (3 * (gcX9 p1n p1n)) + (3 * ((gcX9 p1n (o_7.2.2)))) ≤ (3 * (gcX9 p1n (o.2))) from by have q0 := gsX9 hg_p1 (mo_fX9_add hc_7) hgn_p1; omega)⟩) hS (fun q _ h => hFc q h) hFc (fun r8 u t H locs ht hvm hw hB hz1 hk1 hS => ?_)
      obtain ⟨x9, z10, x11, z12, x13, z14, x15, z16, x17, z18, hB⟩ := hB
      obtain ⟨hP, hD, hK⟩ := JOIN (wr := ((oX0 (p0a 0) p0a p0k p0n p0w) ++ (oX1 (p0a 1) p0_0a p0_0k p0_0n p0_0w p0_0l) ++ (oX2 (p0a 7) p0_6a p0_6k p0_6n p0_6w p0_6l))) hP hD hK [9, 10, 11, 12, 13, 14] [0, 1, 2, 3, 4, 5, 6, 7, 8, 15, 16, 17, 18, 19, 20, 21, 22, 23, 24, 25, 26, 27, 28, 29, 30, 31, 32, 33, 34, 35, 36, 37, 38, 39, 40, 41, 42, 43, 44, 45, 46, 47, 48] [0, 1, 2, 3, 4, 5, 6, 7, 13, 14, 15, 16, 17, 18, 19, 20, 21, 22, 23, 24, 25, 26, 27, 28, 29, 30, 31, 32, 33, 34, 35, 36, 37, 38, 39, 40, 41, 42, 43, 44] rfl rfl (by decide) (by decide) rfl hk1 hFc ht hvm hB
      have hP : va_P (dC, dI) cls ((oX0 (p0a 0) p0a p0k p0n p0w) ++ (oX9 (p1a 0) (st1 (st1 (st1 (st1 (st1 p1a 2 x9) 3 x11) 4 x13) 5 x15) 6 x17) (st1 (st1 (st1 (st1 (st1 p1k 2 z10) 3 z12) 4 z14) 5 z16) 6 z18) (o_7.2.2) (o_7.2.1)) ++ (oX1 (p0a 1) p0_0a p0_0k p0_0n p0_0w p0_0l) ++ (oX2 (p0a 7) p0_6a p0_6k p0_6n p0_6w p0_6l)) H := hP.sub [0, 1, 2, 3, 4, 5, 6, 7, 8, 43, 44, 45, 46, 47, 48, 9, 10, 11, 12, 13, 14, 15, 16, 17, 18, 19, 20, 21, 22, 23, 24, 25, 26, 27, 28, 29, 30, 31, 32, 33, 34, 35, 36, 37, 38, 39, 40, 41, 42] rfl
      have hD : va_D A ((oX0 (p0a 0) p0a p0k p0n p0w) ++ (oX9 (p1a 0) (st1 (st1 (st1 (st1 (st1 p1a 2 x9) 3 x11) 4 x13) 5 x15) 6 x17) (st1 (st1 (st1 (st1 (st1 p1k 2 z10) 3 z12) 4 z14) 5 z16) 6 z18) (o_7.2.2) (o_7.2.1)) ++ (oX1 (p0a 1) p0_0a p0_0k p0_0n p0_0w p0_0l) ++ (oX2 (p0a 7) p0_6a p0_6k p0_6n p0_6w p0_6l)) := hD.sub [0, 1, 2, 3, 4, 5, 6, 7, 8, 43, 44, 45, 46, 47, 48, 9, 10, 11, 12, 13, 14, 15, 16, 17, 18, 19, 20, 21, 22, 23, 24, 25, 26, 27, 28, 29, 30, 31, 32, 33, 34, 35, 36, 37, 38, 39, 40, 41, 42] (by decide) rfl
      have hK : va_K (dC, dI) cls ((tX0 p0k) ++ (tX9 (st1 (st1 (st1 (st1 (st1 p1k 2 z10) 3 z12) 4 z14) 5 z16) 6 z18)) ++ (tX1 p0_0k) ++ (tX2 p0_6k)) s := hK.sub [0, 1, 2, 3, 4, 5, 6, 7, 40, 41, 42, 43, 44, 8, 9, 10, 11, 12, 13, 14, 15, 16, 17, 18, 19, 20, 21, 22, 23, 24, 25, 26, 27, 28, 29, 30, 31, 32, 33, 34, 35, 36, 37, 38, 39] rfl
      obtain rfl : r8 = (o_7.1) := hw
      refine W.widen (k := (gcX9 p1n (o_7.2.2))) (n := (3 * (gcX9 p1n (o_7.2.2)))) (by have a0 := gcX9_add hg_p1 (mo_fX9_add hc_7); omega) (by have a0 := gcX9_add hg_p1 (mo_fX9_add hc_7); omega) ?_
      have hg_p1 : glX9 p1n (o_7.2.2) := glX9_tr hg_p1 (mo_fX9_add hc_7)
      unfold fX0_writeEnd_G61_19 at hrun
      refine lv_pop hx hb dX0_writeEnd_61 rfl ?_
      exact J62 (o_7.2.1) (o_7.2.2) x9 z10 x11 z12 x13 z14 x15 z16 x17 z18 _ _ _ hrun hP hD hK hS (lv_sub hl [] rfl) hg_p1
  · refine lv_icmp_ne (tgt := 63) hx hb dX0_writeEnd_37 (by decide) (fun _ => ?_) (fun c => absurd c hc4)
    refine lv_aload_n hx hb dX0_writeEnd_63 rfl (lv_at hl 3 rfl) ?_
    refine va_get (D := (dC, dI)) (ci := 8) (v := .ref (p0a 7)) (C := RX0) (T := TX0) (N := 17) hx hb hts i_X0 hown hK hP 0 rfl rfl 6 (by decide) (hts _ qw626) (fun _ h9 => h9) rfl dX0_writeEnd_64 ?_
    refine va_get (D := (dC, dI)) (ci := 9) (v := .ref (p0_6a 17)) (C := RX2) (T := TX2) (N := 19) hx hb hts i_X2 hown hK hP 33 rfl rfl 16 (by decide) (hts _ qw635) (fun _ h9 => h9) rfl dX0_writeEnd_67 ?_
    refine lv_aload_n hx hb dX0_writeEnd_70 rfl (lv_at hl 3 rfl) ?_
    refine va_get (D := (dC, dI)) (ci := 8) (v := .ref (p0a 1)) (C := RX0) (T := TX0) (N := 17) hx hb hts i_X0 hown hK hP 0 rfl rfl 0 (by decide) (hts _ qw618) (fun _ h9 => h9) rfl dX0_writeEnd_71 ?_
    refine va_get (D := (dC, dI)) (ci := 4) (v := .ref (p0_0a 9)) (C := RX1) (T := TX1) (N := 21) hx hb hts i_X1 hown hK hP 15 rfl rfl 8 (by decide) (hts _ qw801) (fun _ h9 => h9) rfl dX0_writeEnd_74 ?_
    refine lv_iload_n hx hb dX0_writeEnd_77 rfl (lv_at hl 5 rfl) ?_
    obtain ⟨hq20, hrun⟩ := chk9 hrun
    refine va_iald hx hb hK hP 21 18 rfl rfl (ixb_in hq20) dX0_writeEnd_78 ?_
    obtain ⟨hq21, hrun⟩ := chk9 hrun
    refine va_iald hx hb hK hP 46 42 rfl rfl (ixb_in hq21) dX0_writeEnd_79 ?_
    refine lv_istore (lv' := [(6, .int (p0_6w 17 (nn (p0_0w 9 (nn p2))))), (5, .int (p0_0w 11 (nn p2))), (4, .int (p0_0w 10 (nn p2))), (3, .int (p2 + 1)), (0, .ref (p0a 0)), (1, .ref (p1a 0)), (2, .int p2)]) hx hb dX0_writeEnd_80 hl (by decide) rfl (fun ls hl => ?_)
    refine lv_aload_n hx hb dX0_writeEnd_82 rfl (lv_at hl 4 rfl) ?_
    refine va_get (D := (dC, dI)) (ci := 8) (v := .ref (p0a 1)) (C := RX0) (T := TX0) (N := 17) hx hb hts i_X0 hown hK hP 0 rfl rfl 0 (by decide) (hts _ qw618) (fun _ h9 => h9) rfl dX0_writeEnd_83 ?_
    refine va_get (D := (dC, dI)) (ci := 4) (v := .ref (p0_0a 8)) (C := RX1) (T := TX1) (N := 21) hx hb hts i_X1 hown hK hP 15 rfl rfl 7 (by decide) (hts _ qw619) (fun _ h9 => h9) rfl dX0_writeEnd_86 ?_
    refine lv_iload_n hx hb dX0_writeEnd_89 rfl (lv_at hl 6 rfl) ?_
    obtain ⟨hq22, hrun⟩ := chk9 hrun
    refine va_iald hx hb hK hP 20 17 rfl rfl (ixb_in hq22) dX0_writeEnd_90 ?_
    refine lv_bipush (v := 24) hx hb dX0_writeEnd_91 (by decide) ?_
    have J195 : ∀ (p1w_195 : ST) (p1n_195 : Nat → Nat) (xp1_1_195 : Nat) (zp1_1_195 : ClassId) (xp1_2_195 : Nat) (zp1_2_195 : ClassId) (xp1_3_195 : Nat) (zp1_3_195 : ClassId) (xp1_4_195 : Nat) (zp1_4_195 : ClassId) (xp1_5_195 : Nat) (zp1_5_195 : ClassId) (H : Heap) (locs : List Loc) (ls : Array Slot), (fX0_writeEnd_J195 p1w_195 p1n_195) = some o → va_P (dC, dI) cls ((oX0 (p0a 0) p0a p0k p0n p0w) ++ (oX9 (p1a 0) (st1 (st1 (st1 (st1 (st1 p1a 2 xp1_1_195) 3 xp1_2_195) 4 xp1_3_195) 5 xp1_4_195) 6 xp1_5_195) (st1 (st1 (st1 (st1 (st1 p1k 2 zp1_1_195) 3 zp1_2_195) 4 zp1_3_195) 5 zp1_4_195) 6 zp1_5_195) p1n_195 p1w_195) ++ (oX1 (p0a 1) p0_0a p0_0k p0_0n p0_0w p0_0l) ++ (oX2 (p0a 7) p0_6a p0_6k p0_6n p0_6w p0_6l)) H → va_D A ((oX0 (p0a 0) p0a p0k p0n p0w) ++ (oX9 (p1a 0) (st1 (st1 (st1 (st1 (st1 p1a 2 xp1_1_195) 3 xp1_2_195) 4 xp1_3_195) 5 xp1_4_195) 6 xp1_5_195) (st1 (st1 (st1 (st1 (st1 p1k 2 zp1_1_195) 3 zp1_2_195) 4 zp1_3_195) 5 zp1_4_195) 6 zp1_5_195) p1n_195 p1w_195) ++ (oX1 (p0a 1) p0_0a p0_0k p0_0n p0_0w p0_0l) ++ (oX2 (p0a 7) p0_6a p0_6k p0_6n p0_6w p0_6l)) → va_K (dC, dI) cls ((tX0 p0k) ++ (tX9 (st1 (st1 (st1 (st1 (st1 p1k 2 zp1_1_195) 3 zp1_2_195) 4 zp1_3_195) 5 zp1_4_195) 6 zp1_5_195)) ++ (tX1 p0_0k) ++ (tX2 p0_6k)) s → va_S A s.heap H locs → lv_has ls 7 [] → glX9 p1n p1n_195 → W p l e ({ frames := 3, cells := (gcX9 p1n (o.2)), slots := (3 * (gcX9 p1n (o.2))), locals := 87 } : Room) s m ([.ref (p0a 0), .ref (p1a 0), .int p2] : List Value).toArray below meth c H locs (gcX9 p1n p1n_195) (3 * (gcX9 p1n p1n_195)) Q (F0 m 195 ls []) := by
      intro p1w_195 p1n_195 xp1_1_195 zp1_1_195 xp1_2_195 zp1_2_195 xp1_3_195 zp1_3_195 xp1_4_195 zp1_4_195 xp1_5_195 zp1_5_195 H locs ls hrun hP hD hK hS hl hg_p1 
      have hgn_p1 : glX9 p1n_195 (o.2) := (mo_fX0_writeEnd_J195 hrun)
      unfold fX0_writeEnd_J195 at hrun
      have ho9 : (p1w_195, p1n_195) = o := Option.some.inj hrun
      subst ho9
      subst hQ
      exact W.vret hx hb hr (fun t ht hW => ⟨⟨(), rfl, trivial, ⟨xp1_1_195, zp1_1_195, xp1_2_195, zp1_2_195, xp1_3_195, zp1_3_195, xp1_4_195, zp1_4_195, xp1_5_195, zp1_5_195, by rw [ht]; exact hP, va_K.moved hW.alike hK, hD⟩⟩, hS.F ht⟩) hS.2.2 dX0_writeEnd_195
    rcases br9 hrun with ⟨hc23, hrun⟩ | ⟨hc23, hrun⟩
    · refine lv_icmp_ne (tgt := 110) hx hb dX0_writeEnd_93 (by decide) (fun c => absurd hc23 c) (fun _ => ?_)
      refine lv_aload_n hx hb dX0_writeEnd_96 rfl (lv_at hl 5 rfl) ?_
      refine lv_bipush (v := 24) hx hb dX0_writeEnd_97 (by decide) ?_
      refine lv_iconst (v := (-1)) hx hb dX0_writeEnd_99 (by decide) ?_
      refine lv_iload hx hb dX0_writeEnd_100 (lv_at hl 0 rfl) ?_
      refine lv_iconst (v := (-1)) hx hb dX0_writeEnd_102 (by decide) ?_
      obtain ⟨o_24, hc_24, hrun⟩ := bnd9 hrun
      have hPc := hP.sub (ws' := (oX9 (p1a 0) p1a p1k p1n p1w)) [9, 10, 11, 12, 13, 14] rfl
      have hDc := hD.sub (ws' := (oX9 (p1a 0) p1a p1k p1n p1w)) [9, 10, 11, 12, 13, 14] (by decide) rfl
      have hKc := hK.sub (tys' := (tX9 p1k)) [8, 9, 10, 11, 12] rfl
      have hFc := va_free (wc := (oX9 (p1a 0) p1a p1k p1n p1w)) hD hS hA [9, 10, 11, 12, 13, 14] rfl
      have hgn_p1 : glX9 (o_24.2.2) (o.2) := (mo_fX0_writeEnd_G106_36 hrun)
      refine va_calli (va_runV (As := [.int 24, .int (-1), .int (p0_6w 17 (nn (p0_0w 9 (nn p2)))), .int (-1)]) (rest := []) ⟨hx, hb, hml, hown, hts⟩ (kX9_add l dC dI (p0a := (st0 (p1a 0) p1a)) (p0k := p1k) (p0n := p1n) (p0w := p1w) (p1 := 24) (p2 := (-1)) (p3 := (p0_6w 17 (nn (p0_0w 9 (nn p2))))) (p4 := (-1)) (sz := _) (o := o_24) (hrun := hc_24)) (cwV 4 hts (gi_V qw866 qw135 qw136 qw137 (gi_z qw133)) rfl rfl rfl (by decide +kernel) ⟨Nat.le_of_ble_eq_true rfl, Nat.le_of_ble_eq_true rfl⟩) ⟨PRE.blind, va_recv hKc hPc (ci := 3) (q0 := 0) rfl rfl, PRE.of hE hS hFc hPc hKc hDc⟩ rfl rfl hl.1 rfl (lv_room (Nat.le_of_ble_eq_true rfl)) dX0_writeEnd_103 ⟨(show (gcX9 p1n p1n) + (gcX9 p1n (o_24.2.2)) ≤ (gcX9 p1n (o.2)) from by have q0 := gsX9 hg_p1 (mo_fX9_add hc_24) hgn_p1; omega), (show (3 * (gcX9 p1n p1n)) + (3 * ((gcX9 p1n (o_24.2.2)))) ≤ (3 * (gcX9 p1n (o.2))) from by have q0 := gsX9 hg_p1 (mo_fX9_add hc_24) hgn_p1; omega)⟩) hS (fun q _ h => hFc q h) hFc (fun r25 u t H locs ht hvm hw hB hz1 hk1 hS => ?_)
      obtain ⟨x26, z27, x28, z29, x30, z31, x32, z33, x34, z35, hB⟩ := hB
      obtain ⟨hP, hD, hK⟩ := JOIN (wr := ((oX0 (p0a 0) p0a p0k p0n p0w) ++ (oX1 (p0a 1) p0_0a p0_0k p0_0n p0_0w p0_0l) ++ (oX2 (p0a 7) p0_6a p0_6k p0_6n p0_6w p0_6l))) hP hD hK [9, 10, 11, 12, 13, 14] [0, 1, 2, 3, 4, 5, 6, 7, 8, 15, 16, 17, 18, 19, 20, 21, 22, 23, 24, 25, 26, 27, 28, 29, 30, 31, 32, 33, 34, 35, 36, 37, 38, 39, 40, 41, 42, 43, 44, 45, 46, 47, 48] [0, 1, 2, 3, 4, 5, 6, 7, 13, 14, 15, 16, 17, 18, 19, 20, 21, 22, 23, 24, 25, 26, 27, 28, 29, 30, 31, 32, 33, 34, 35, 36, 37, 38, 39, 40, 41, 42, 43, 44] rfl rfl (by decide) (by decide) rfl hk1 hFc ht hvm hB
      have hP : va_P (dC, dI) cls ((oX0 (p0a 0) p0a p0k p0n p0w) ++ (oX9 (p1a 0) (st1 (st1 (st1 (st1 (st1 p1a 2 x26) 3 x28) 4 x30) 5 x32) 6 x34) (st1 (st1 (st1 (st1 (st1 p1k 2 z27) 3 z29) 4 z31) 5 z33) 6 z35) (o_24.2.2) (o_24.2.1)) ++ (oX1 (p0a 1) p0_0a p0_0k p0_0n p0_0w p0_0l) ++ (oX2 (p0a 7) p0_6a p0_6k p0_6n p0_6w p0_6l)) H := hP.sub [0, 1, 2, 3, 4, 5, 6, 7, 8, 43, 44, 45, 46, 47, 48, 9, 10, 11, 12, 13, 14, 15, 16, 17, 18, 19, 20, 21, 22, 23, 24, 25, 26, 27, 28, 29, 30, 31, 32, 33, 34, 35, 36, 37, 38, 39, 40, 41, 42] rfl
      have hD : va_D A ((oX0 (p0a 0) p0a p0k p0n p0w) ++ (oX9 (p1a 0) (st1 (st1 (st1 (st1 (st1 p1a 2 x26) 3 x28) 4 x30) 5 x32) 6 x34) (st1 (st1 (st1 (st1 (st1 p1k 2 z27) 3 z29) 4 z31) 5 z33) 6 z35) (o_24.2.2) (o_24.2.1)) ++ (oX1 (p0a 1) p0_0a p0_0k p0_0n p0_0w p0_0l) ++ (oX2 (p0a 7) p0_6a p0_6k p0_6n p0_6w p0_6l)) := hD.sub [0, 1, 2, 3, 4, 5, 6, 7, 8, 43, 44, 45, 46, 47, 48, 9, 10, 11, 12, 13, 14, 15, 16, 17, 18, 19, 20, 21, 22, 23, 24, 25, 26, 27, 28, 29, 30, 31, 32, 33, 34, 35, 36, 37, 38, 39, 40, 41, 42] (by decide) rfl
      have hK : va_K (dC, dI) cls ((tX0 p0k) ++ (tX9 (st1 (st1 (st1 (st1 (st1 p1k 2 z27) 3 z29) 4 z31) 5 z33) 6 z35)) ++ (tX1 p0_0k) ++ (tX2 p0_6k)) s := hK.sub [0, 1, 2, 3, 4, 5, 6, 7, 40, 41, 42, 43, 44, 8, 9, 10, 11, 12, 13, 14, 15, 16, 17, 18, 19, 20, 21, 22, 23, 24, 25, 26, 27, 28, 29, 30, 31, 32, 33, 34, 35, 36, 37, 38, 39] rfl
      obtain rfl : r25 = (o_24.1) := hw
      refine W.widen (k := (gcX9 p1n (o_24.2.2))) (n := (3 * (gcX9 p1n (o_24.2.2)))) (by have a0 := gcX9_add hg_p1 (mo_fX9_add hc_24); omega) (by have a0 := gcX9_add hg_p1 (mo_fX9_add hc_24); omega) ?_
      have hg_p1 : glX9 p1n (o_24.2.2) := glX9_tr hg_p1 (mo_fX9_add hc_24)
      unfold fX0_writeEnd_G106_36 at hrun
      refine lv_pop hx hb dX0_writeEnd_106 rfl ?_
      refine lv_goto (tgt := 195) hx hb dX0_writeEnd_107 (by decide) ?_
      exact J195 (o_24.2.1) (o_24.2.2) x26 z27 x28 z29 x30 z31 x32 z33 x34 z35 _ _ _ hrun hP hD hK hS (lv_sub hl [] rfl) hg_p1
    · refine lv_icmp_ne (tgt := 110) hx hb dX0_writeEnd_93 (by decide) (fun _ => ?_) (fun c => absurd c hc23)
      refine lv_iload hx hb dX0_writeEnd_110 (lv_at hl 1 rfl) ?_
      refine lv_iload_n hx hb dX0_writeEnd_112 rfl (lv_at hl 3 rfl) ?_
      rcases br9 hrun with ⟨hc37, hrun⟩ | ⟨hc37, hrun⟩
      · refine lv_icmp_ne (tgt := 136) hx hb dX0_writeEnd_113 (by decide) (fun c => absurd hc37 c) (fun _ => ?_)
        refine lv_aload_n hx hb dX0_writeEnd_116 rfl (lv_at hl 5 rfl) ?_
        refine lv_bipush (v := 23) hx hb dX0_writeEnd_117 (by decide) ?_
        refine lv_iconst (v := (-1)) hx hb dX0_writeEnd_119 (by decide) ?_
        refine lv_iload hx hb dX0_writeEnd_120 (lv_at hl 0 rfl) ?_
        refine lv_aload_n hx hb dX0_writeEnd_122 rfl (lv_at hl 4 rfl) ?_
        refine va_get (D := (dC, dI)) (ci := 8) (v := .ref (p0a 17)) (C := RX0) (T := TX0) (N := 17) hx hb hts i_X0 hown hK hP 0 rfl rfl 16 (by decide) (hts _ qw856) (fun _ h9 => h9) rfl dX0_writeEnd_123 ?_
        refine lv_iload hx hb dX0_writeEnd_126 (lv_at hl 2 rfl) ?_
        obtain ⟨hq38, hrun⟩ := chk9 hrun
        refine va_iald hx hb hK hP 8 7 rfl rfl (ixb_in hq38) dX0_writeEnd_128 ?_
        obtain ⟨o_39, hc_39, hrun⟩ := bnd9 hrun
        have hPc := hP.sub (ws' := (oX9 (p1a 0) p1a p1k p1n p1w)) [9, 10, 11, 12, 13, 14] rfl
        have hDc := hD.sub (ws' := (oX9 (p1a 0) p1a p1k p1n p1w)) [9, 10, 11, 12, 13, 14] (by decide) rfl
        have hKc := hK.sub (tys' := (tX9 p1k)) [8, 9, 10, 11, 12] rfl
        have hFc := va_free (wc := (oX9 (p1a 0) p1a p1k p1n p1w)) hD hS hA [9, 10, 11, 12, 13, 14] rfl
        have hgn_p1 : glX9 (o_39.2.2) (o.2) := (mo_fX0_writeEnd_G132_51 hrun)
        refine va_calli (va_runV (As := [.int 23, .int (-1), .int (p0_6w 17 (nn (p0_0w 9 (nn p2)))), .int (p0w 17 (nn (p0_0w 10 (nn p2))))]) (rest := []) ⟨hx, hb, hml, hown, hts⟩ (kX9_add l dC dI (p0a := (st0 (p1a 0) p1a)) (p0k := p1k) (p0n := p1n) (p0w := p1w) (p1 := 23) (p2 := (-1)) (p3 := (p0_6w 17 (nn (p0_0w 9 (nn p2))))) (p4 := (p0w 17 (nn (p0_0w 10 (nn p2))))) (sz := _) (o := o_39) (hrun := hc_39)) (cwV 4 hts (gi_V qw866 qw135 qw136 qw137 (gi_z qw133)) rfl rfl rfl (by decide +kernel) ⟨Nat.le_of_ble_eq_true rfl, Nat.le_of_ble_eq_true rfl⟩) ⟨PRE.blind, va_recv hKc hPc (ci := 3) (q0 := 0) rfl rfl, PRE.of hE hS hFc hPc hKc hDc⟩ rfl rfl hl.1 rfl (lv_room (Nat.le_of_ble_eq_true rfl)) dX0_writeEnd_129 ⟨(show (gcX9 p1n p1n) + (gcX9 p1n (o_39.2.2)) ≤ (gcX9 p1n (o.2)) from by have q0 := gsX9 hg_p1 (mo_fX9_add hc_39) hgn_p1; omega), (show (3 * (gcX9 p1n p1n)) + (3 * ((gcX9 p1n (o_39.2.2)))) ≤ (3 * (gcX9 p1n (o.2))) from by have q0 := gsX9 hg_p1 (mo_fX9_add hc_39) hgn_p1; omega)⟩) hS (fun q _ h => hFc q h) hFc (fun r40 u t H locs ht hvm hw hB hz1 hk1 hS => ?_)
        obtain ⟨x41, z42, x43, z44, x45, z46, x47, z48, x49, z50, hB⟩ := hB
        obtain ⟨hP, hD, hK⟩ := JOIN (wr := ((oX0 (p0a 0) p0a p0k p0n p0w) ++ (oX1 (p0a 1) p0_0a p0_0k p0_0n p0_0w p0_0l) ++ (oX2 (p0a 7) p0_6a p0_6k p0_6n p0_6w p0_6l))) hP hD hK [9, 10, 11, 12, 13, 14] [0, 1, 2, 3, 4, 5, 6, 7, 8, 15, 16, 17, 18, 19, 20, 21, 22, 23, 24, 25, 26, 27, 28, 29, 30, 31, 32, 33, 34, 35, 36, 37, 38, 39, 40, 41, 42, 43, 44, 45, 46, 47, 48] [0, 1, 2, 3, 4, 5, 6, 7, 13, 14, 15, 16, 17, 18, 19, 20, 21, 22, 23, 24, 25, 26, 27, 28, 29, 30, 31, 32, 33, 34, 35, 36, 37, 38, 39, 40, 41, 42, 43, 44] rfl rfl (by decide) (by decide) rfl hk1 hFc ht hvm hB
        have hP : va_P (dC, dI) cls ((oX0 (p0a 0) p0a p0k p0n p0w) ++ (oX9 (p1a 0) (st1 (st1 (st1 (st1 (st1 p1a 2 x41) 3 x43) 4 x45) 5 x47) 6 x49) (st1 (st1 (st1 (st1 (st1 p1k 2 z42) 3 z44) 4 z46) 5 z48) 6 z50) (o_39.2.2) (o_39.2.1)) ++ (oX1 (p0a 1) p0_0a p0_0k p0_0n p0_0w p0_0l) ++ (oX2 (p0a 7) p0_6a p0_6k p0_6n p0_6w p0_6l)) H := hP.sub [0, 1, 2, 3, 4, 5, 6, 7, 8, 43, 44, 45, 46, 47, 48, 9, 10, 11, 12, 13, 14, 15, 16, 17, 18, 19, 20, 21, 22, 23, 24, 25, 26, 27, 28, 29, 30, 31, 32, 33, 34, 35, 36, 37, 38, 39, 40, 41, 42] rfl
        have hD : va_D A ((oX0 (p0a 0) p0a p0k p0n p0w) ++ (oX9 (p1a 0) (st1 (st1 (st1 (st1 (st1 p1a 2 x41) 3 x43) 4 x45) 5 x47) 6 x49) (st1 (st1 (st1 (st1 (st1 p1k 2 z42) 3 z44) 4 z46) 5 z48) 6 z50) (o_39.2.2) (o_39.2.1)) ++ (oX1 (p0a 1) p0_0a p0_0k p0_0n p0_0w p0_0l) ++ (oX2 (p0a 7) p0_6a p0_6k p0_6n p0_6w p0_6l)) := hD.sub [0, 1, 2, 3, 4, 5, 6, 7, 8, 43, 44, 45, 46, 47, 48, 9, 10, 11, 12, 13, 14, 15, 16, 17, 18, 19, 20, 21, 22, 23, 24, 25, 26, 27, 28, 29, 30, 31, 32, 33, 34, 35, 36, 37, 38, 39, 40, 41, 42] (by decide) rfl
        have hK : va_K (dC, dI) cls ((tX0 p0k) ++ (tX9 (st1 (st1 (st1 (st1 (st1 p1k 2 z42) 3 z44) 4 z46) 5 z48) 6 z50)) ++ (tX1 p0_0k) ++ (tX2 p0_6k)) s := hK.sub [0, 1, 2, 3, 4, 5, 6, 7, 40, 41, 42, 43, 44, 8, 9, 10, 11, 12, 13, 14, 15, 16, 17, 18, 19, 20, 21, 22, 23, 24, 25, 26, 27, 28, 29, 30, 31, 32, 33, 34, 35, 36, 37, 38, 39] rfl
        obtain rfl : r40 = (o_39.1) := hw
        refine W.widen (k := (gcX9 p1n (o_39.2.2))) (n := (3 * (gcX9 p1n (o_39.2.2)))) (by have a0 := gcX9_add hg_p1 (mo_fX9_add hc_39); omega) (by have a0 := gcX9_add hg_p1 (mo_fX9_add hc_39); omega) ?_
        have hg_p1 : glX9 p1n (o_39.2.2) := glX9_tr hg_p1 (mo_fX9_add hc_39)
        unfold fX0_writeEnd_G132_51 at hrun
        refine lv_pop hx hb dX0_writeEnd_132 rfl ?_
        refine lv_goto (tgt := 195) hx hb dX0_writeEnd_133 (by decide) ?_
        exact J195 (o_39.2.1) (o_39.2.2) x41 z42 x43 z44 x45 z46 x47 z48 x49 z50 _ _ _ hrun hP hD hK hS (lv_sub hl [] rfl) hg_p1
      · refine lv_icmp_ne (tgt := 136) hx hb dX0_writeEnd_113 (by decide) (fun _ => ?_) (fun c => absurd c hc37)
        refine lv_iload hx hb dX0_writeEnd_136 (lv_at hl 2 rfl) ?_
        refine lv_iload_n hx hb dX0_writeEnd_138 rfl (lv_at hl 3 rfl) ?_
        rcases br9 hrun with ⟨hc52, hrun⟩ | ⟨hc52, hrun⟩
        · refine lv_icmp_ne (tgt := 162) hx hb dX0_writeEnd_139 (by decide) (fun c => absurd hc52 c) (fun _ => ?_)
          refine lv_aload_n hx hb dX0_writeEnd_142 rfl (lv_at hl 5 rfl) ?_
          refine lv_bipush (v := 28) hx hb dX0_writeEnd_143 (by decide) ?_
          refine lv_iconst (v := (-1)) hx hb dX0_writeEnd_145 (by decide) ?_
          refine lv_iload hx hb dX0_writeEnd_146 (lv_at hl 0 rfl) ?_
          refine lv_aload_n hx hb dX0_writeEnd_148 rfl (lv_at hl 4 rfl) ?_
          refine va_get (D := (dC, dI)) (ci := 8) (v := .ref (p0a 17)) (C := RX0) (T := TX0) (N := 17) hx hb hts i_X0 hown hK hP 0 rfl rfl 16 (by decide) (hts _ qw856) (fun _ h9 => h9) rfl dX0_writeEnd_149 ?_
          refine lv_iload hx hb dX0_writeEnd_152 (lv_at hl 1 rfl) ?_
          obtain ⟨hq53, hrun⟩ := chk9 hrun
          refine va_iald hx hb hK hP 8 7 rfl rfl (ixb_in hq53) dX0_writeEnd_154 ?_
          obtain ⟨o_54, hc_54, hrun⟩ := bnd9 hrun
          have hPc := hP.sub (ws' := (oX9 (p1a 0) p1a p1k p1n p1w)) [9, 10, 11, 12, 13, 14] rfl
          have hDc := hD.sub (ws' := (oX9 (p1a 0) p1a p1k p1n p1w)) [9, 10, 11, 12, 13, 14] (by decide) rfl
          have hKc := hK.sub (tys' := (tX9 p1k)) [8, 9, 10, 11, 12] rfl
          have hFc := va_free (wc := (oX9 (p1a 0) p1a p1k p1n p1w)) hD hS hA [9, 10, 11, 12, 13, 14] rfl
          have hgn_p1 : glX9 (o_54.2.2) (o.2) := (mo_fX0_writeEnd_G158_66 hrun)
          refine va_calli (va_runV (As := [.int 28, .int (-1), .int (p0_6w 17 (nn (p0_0w 9 (nn p2)))), .int (p0w 17 (nn (p0_0w 11 (nn p2))))]) (rest := []) ⟨hx, hb, hml, hown, hts⟩ (kX9_add l dC dI (p0a := (st0 (p1a 0) p1a)) (p0k := p1k) (p0n := p1n) (p0w := p1w) (p1 := 28) (p2 := (-1)) (p3 := (p0_6w 17 (nn (p0_0w 9 (nn p2))))) (p4 := (p0w 17 (nn (p0_0w 11 (nn p2))))) (sz := _) (o := o_54) (hrun := hc_54)) (cwV 4 hts (gi_V qw866 qw135 qw136 qw137 (gi_z qw133)) rfl rfl rfl (by decide +kernel) ⟨Nat.le_of_ble_eq_true rfl, Nat.le_of_ble_eq_true rfl⟩) ⟨PRE.blind, va_recv hKc hPc (ci := 3) (q0 := 0) rfl rfl, PRE.of hE hS hFc hPc hKc hDc⟩ rfl rfl hl.1 rfl (lv_room (Nat.le_of_ble_eq_true rfl)) dX0_writeEnd_155 ⟨(show (gcX9 p1n p1n) + (gcX9 p1n (o_54.2.2)) ≤ (gcX9 p1n (o.2)) from by have q0 := gsX9 hg_p1 (mo_fX9_add hc_54) hgn_p1; omega), (show (3 * (gcX9 p1n p1n)) + (3 * ((gcX9 p1n (o_54.2.2)))) ≤ (3 * (gcX9 p1n (o.2))) from by have q0 := gsX9 hg_p1 (mo_fX9_add hc_54) hgn_p1; omega)⟩) hS (fun q _ h => hFc q h) hFc (fun r55 u t H locs ht hvm hw hB hz1 hk1 hS => ?_)
          obtain ⟨x56, z57, x58, z59, x60, z61, x62, z63, x64, z65, hB⟩ := hB
          obtain ⟨hP, hD, hK⟩ := JOIN (wr := ((oX0 (p0a 0) p0a p0k p0n p0w) ++ (oX1 (p0a 1) p0_0a p0_0k p0_0n p0_0w p0_0l) ++ (oX2 (p0a 7) p0_6a p0_6k p0_6n p0_6w p0_6l))) hP hD hK [9, 10, 11, 12, 13, 14] [0, 1, 2, 3, 4, 5, 6, 7, 8, 15, 16, 17, 18, 19, 20, 21, 22, 23, 24, 25, 26, 27, 28, 29, 30, 31, 32, 33, 34, 35, 36, 37, 38, 39, 40, 41, 42, 43, 44, 45, 46, 47, 48] [0, 1, 2, 3, 4, 5, 6, 7, 13, 14, 15, 16, 17, 18, 19, 20, 21, 22, 23, 24, 25, 26, 27, 28, 29, 30, 31, 32, 33, 34, 35, 36, 37, 38, 39, 40, 41, 42, 43, 44] rfl rfl (by decide) (by decide) rfl hk1 hFc ht hvm hB
          have hP : va_P (dC, dI) cls ((oX0 (p0a 0) p0a p0k p0n p0w) ++ (oX9 (p1a 0) (st1 (st1 (st1 (st1 (st1 p1a 2 x56) 3 x58) 4 x60) 5 x62) 6 x64) (st1 (st1 (st1 (st1 (st1 p1k 2 z57) 3 z59) 4 z61) 5 z63) 6 z65) (o_54.2.2) (o_54.2.1)) ++ (oX1 (p0a 1) p0_0a p0_0k p0_0n p0_0w p0_0l) ++ (oX2 (p0a 7) p0_6a p0_6k p0_6n p0_6w p0_6l)) H := hP.sub [0, 1, 2, 3, 4, 5, 6, 7, 8, 43, 44, 45, 46, 47, 48, 9, 10, 11, 12, 13, 14, 15, 16, 17, 18, 19, 20, 21, 22, 23, 24, 25, 26, 27, 28, 29, 30, 31, 32, 33, 34, 35, 36, 37, 38, 39, 40, 41, 42] rfl
          have hD : va_D A ((oX0 (p0a 0) p0a p0k p0n p0w) ++ (oX9 (p1a 0) (st1 (st1 (st1 (st1 (st1 p1a 2 x56) 3 x58) 4 x60) 5 x62) 6 x64) (st1 (st1 (st1 (st1 (st1 p1k 2 z57) 3 z59) 4 z61) 5 z63) 6 z65) (o_54.2.2) (o_54.2.1)) ++ (oX1 (p0a 1) p0_0a p0_0k p0_0n p0_0w p0_0l) ++ (oX2 (p0a 7) p0_6a p0_6k p0_6n p0_6w p0_6l)) := hD.sub [0, 1, 2, 3, 4, 5, 6, 7, 8, 43, 44, 45, 46, 47, 48, 9, 10, 11, 12, 13, 14, 15, 16, 17, 18, 19, 20, 21, 22, 23, 24, 25, 26, 27, 28, 29, 30, 31, 32, 33, 34, 35, 36, 37, 38, 39, 40, 41, 42] (by decide) rfl
          have hK : va_K (dC, dI) cls ((tX0 p0k) ++ (tX9 (st1 (st1 (st1 (st1 (st1 p1k 2 z57) 3 z59) 4 z61) 5 z63) 6 z65)) ++ (tX1 p0_0k) ++ (tX2 p0_6k)) s := hK.sub [0, 1, 2, 3, 4, 5, 6, 7, 40, 41, 42, 43, 44, 8, 9, 10, 11, 12, 13, 14, 15, 16, 17, 18, 19, 20, 21, 22, 23, 24, 25, 26, 27, 28, 29, 30, 31, 32, 33, 34, 35, 36, 37, 38, 39] rfl
          obtain rfl : r55 = (o_54.1) := hw
          refine W.widen (k := (gcX9 p1n (o_54.2.2))) (n := (3 * (gcX9 p1n (o_54.2.2)))) (by have a0 := gcX9_add hg_p1 (mo_fX9_add hc_54); omega) (by have a0 := gcX9_add hg_p1 (mo_fX9_add hc_54); omega) ?_
          have hg_p1 : glX9 p1n (o_54.2.2) := glX9_tr hg_p1 (mo_fX9_add hc_54)
          unfold fX0_writeEnd_G158_66 at hrun
          refine lv_pop hx hb dX0_writeEnd_158 rfl ?_
          refine lv_goto (tgt := 195) hx hb dX0_writeEnd_159 (by decide) ?_
          exact J195 (o_54.2.1) (o_54.2.2) x56 z57 x58 z59 x60 z61 x62 z63 x64 z65 _ _ _ hrun hP hD hK hS (lv_sub hl [] rfl) hg_p1
        · refine lv_icmp_ne (tgt := 162) hx hb dX0_writeEnd_139 (by decide) (fun _ => ?_) (fun c => absurd c hc52)
          refine lv_aload_n hx hb dX0_writeEnd_162 rfl (lv_at hl 5 rfl) ?_
          refine lv_bipush (v := 23) hx hb dX0_writeEnd_163 (by decide) ?_
          refine lv_iconst (v := (-1)) hx hb dX0_writeEnd_165 (by decide) ?_
          refine lv_iload hx hb dX0_writeEnd_166 (lv_at hl 0 rfl) ?_
          refine lv_aload_n hx hb dX0_writeEnd_168 rfl (lv_at hl 4 rfl) ?_
          refine va_get (D := (dC, dI)) (ci := 8) (v := .ref (p0a 17)) (C := RX0) (T := TX0) (N := 17) hx hb hts i_X0 hown hK hP 0 rfl rfl 16 (by decide) (hts _ qw856) (fun _ h9 => h9) rfl dX0_writeEnd_169 ?_
          refine lv_iload hx hb dX0_writeEnd_172 (lv_at hl 2 rfl) ?_
          obtain ⟨hq67, hrun⟩ := chk9 hrun
          refine va_iald hx hb hK hP 8 7 rfl rfl (ixb_in hq67) dX0_writeEnd_174 ?_
          obtain ⟨o_68, hc_68, hrun⟩ := bnd9 hrun
          have hPc := hP.sub (ws' := (oX9 (p1a 0) p1a p1k p1n p1w)) [9, 10, 11, 12, 13, 14] rfl
          have hDc := hD.sub (ws' := (oX9 (p1a 0) p1a p1k p1n p1w)) [9, 10, 11, 12, 13, 14] (by decide) rfl
          have hKc := hK.sub (tys' := (tX9 p1k)) [8, 9, 10, 11, 12] rfl
          have hFc := va_free (wc := (oX9 (p1a 0) p1a p1k p1n p1w)) hD hS hA [9, 10, 11, 12, 13, 14] rfl
          have hgn_p1 : glX9 (o_68.2.2) (o.2) := (mo_fX0_writeEnd_G178_80 hrun)
          refine va_calli (va_runV (As := [.int 23, .int (-1), .int (p0_6w 17 (nn (p0_0w 9 (nn p2)))), .int (p0w 17 (nn (p0_0w 10 (nn p2))))]) (rest := []) ⟨hx, hb, hml, hown, hts⟩ (kX9_add l dC dI (p0a := (st0 (p1a 0) p1a)) (p0k := p1k) (p0n := p1n) (p0w := p1w) (p1 := 23) (p2 := (-1)) (p3 := (p0_6w 17 (nn (p0_0w 9 (nn p2))))) (p4 := (p0w 17 (nn (p0_0w 10 (nn p2))))) (sz := _) (o := o_68) (hrun := hc_68)) (cwV 4 hts (gi_V qw866 qw135 qw136 qw137 (gi_z qw133)) rfl rfl rfl (by decide +kernel) ⟨Nat.le_of_ble_eq_true rfl, Nat.le_of_ble_eq_true rfl⟩) ⟨PRE.blind, va_recv hKc hPc (ci := 3) (q0 := 0) rfl rfl, PRE.of hE hS hFc hPc hKc hDc⟩ rfl rfl hl.1 rfl (lv_room (Nat.le_of_ble_eq_true rfl)) dX0_writeEnd_175 ⟨(show (gcX9 p1n p1n) + (gcX9 p1n (o_68.2.2)) ≤ (gcX9 p1n (o.2)) from by have q0 := gsX9 hg_p1 (mo_fX9_add hc_68) hgn_p1; omega), (show (3 * (gcX9 p1n p1n)) + (3 * ((gcX9 p1n (o_68.2.2)))) ≤ (3 * (gcX9 p1n (o.2))) from by have q0 := gsX9 hg_p1 (mo_fX9_add hc_68) hgn_p1; omega)⟩) hS (fun q _ h => hFc q h) hFc (fun r69 u t H locs ht hvm hw hB hz1 hk1 hS => ?_)
          obtain ⟨x70, z71, x72, z73, x74, z75, x76, z77, x78, z79, hB⟩ := hB
          obtain ⟨hP, hD, hK⟩ := JOIN (wr := ((oX0 (p0a 0) p0a p0k p0n p0w) ++ (oX1 (p0a 1) p0_0a p0_0k p0_0n p0_0w p0_0l) ++ (oX2 (p0a 7) p0_6a p0_6k p0_6n p0_6w p0_6l))) hP hD hK [9, 10, 11, 12, 13, 14] [0, 1, 2, 3, 4, 5, 6, 7, 8, 15, 16, 17, 18, 19, 20, 21, 22, 23, 24, 25, 26, 27, 28, 29, 30, 31, 32, 33, 34, 35, 36, 37, 38, 39, 40, 41, 42, 43, 44, 45, 46, 47, 48] [0, 1, 2, 3, 4, 5, 6, 7, 13, 14, 15, 16, 17, 18, 19, 20, 21, 22, 23, 24, 25, 26, 27, 28, 29, 30, 31, 32, 33, 34, 35, 36, 37, 38, 39, 40, 41, 42, 43, 44] rfl rfl (by decide) (by decide) rfl hk1 hFc ht hvm hB
          have hP : va_P (dC, dI) cls ((oX0 (p0a 0) p0a p0k p0n p0w) ++ (oX9 (p1a 0) (st1 (st1 (st1 (st1 (st1 p1a 2 x70) 3 x72) 4 x74) 5 x76) 6 x78) (st1 (st1 (st1 (st1 (st1 p1k 2 z71) 3 z73) 4 z75) 5 z77) 6 z79) (o_68.2.2) (o_68.2.1)) ++ (oX1 (p0a 1) p0_0a p0_0k p0_0n p0_0w p0_0l) ++ (oX2 (p0a 7) p0_6a p0_6k p0_6n p0_6w p0_6l)) H := hP.sub [0, 1, 2, 3, 4, 5, 6, 7, 8, 43, 44, 45, 46, 47, 48, 9, 10, 11, 12, 13, 14, 15, 16, 17, 18, 19, 20, 21, 22, 23, 24, 25, 26, 27, 28, 29, 30, 31, 32, 33, 34, 35, 36, 37, 38, 39, 40, 41, 42] rfl
          have hD : va_D A ((oX0 (p0a 0) p0a p0k p0n p0w) ++ (oX9 (p1a 0) (st1 (st1 (st1 (st1 (st1 p1a 2 x70) 3 x72) 4 x74) 5 x76) 6 x78) (st1 (st1 (st1 (st1 (st1 p1k 2 z71) 3 z73) 4 z75) 5 z77) 6 z79) (o_68.2.2) (o_68.2.1)) ++ (oX1 (p0a 1) p0_0a p0_0k p0_0n p0_0w p0_0l) ++ (oX2 (p0a 7) p0_6a p0_6k p0_6n p0_6w p0_6l)) := hD.sub [0, 1, 2, 3, 4, 5, 6, 7, 8, 43, 44, 45, 46, 47, 48, 9, 10, 11, 12, 13, 14, 15, 16, 17, 18, 19, 20, 21, 22, 23, 24, 25, 26, 27, 28, 29, 30, 31, 32, 33, 34, 35, 36, 37, 38, 39, 40, 41, 42] (by decide) rfl
          have hK : va_K (dC, dI) cls ((tX0 p0k) ++ (tX9 (st1 (st1 (st1 (st1 (st1 p1k 2 z71) 3 z73) 4 z75) 5 z77) 6 z79)) ++ (tX1 p0_0k) ++ (tX2 p0_6k)) s := hK.sub [0, 1, 2, 3, 4, 5, 6, 7, 40, 41, 42, 43, 44, 8, 9, 10, 11, 12, 13, 14, 15, 16, 17, 18, 19, 20, 21, 22, 23, 24, 25, 26, 27, 28, 29, 30, 31, 32, 33, 34, 35, 36, 37, 38, 39] rfl
          obtain rfl : r69 = (o_68.1) := hw
          refine W.widen (k := (gcX9 p1n (o_68.2.2))) (n := (3 * (gcX9 p1n (o_68.2.2)))) (by have a0 := gcX9_add hg_p1 (mo_fX9_add hc_68); omega) (by have a0 := gcX9_add hg_p1 (mo_fX9_add hc_68); omega) ?_
          have hg_p1 : glX9 p1n (o_68.2.2) := glX9_tr hg_p1 (mo_fX9_add hc_68)
          unfold fX0_writeEnd_G178_80 at hrun
          refine lv_pop hx hb dX0_writeEnd_178 rfl ?_
          refine lv_aload_n hx hb dX0_writeEnd_179 rfl (lv_at hl 5 rfl) ?_
          refine lv_bipush (v := 22) hx hb dX0_writeEnd_180 (by decide) ?_
          refine lv_iconst (v := (-1)) hx hb dX0_writeEnd_182 (by decide) ?_
          refine lv_aload_n hx hb dX0_writeEnd_183 rfl (lv_at hl 4 rfl) ?_
          refine va_get (D := (dC, dI)) (ci := 8) (v := .ref (p0a 17)) (C := RX0) (T := TX0) (N := 17) hx hb hts i_X0 hown hK hP 0 rfl rfl 16 (by decide) (hts _ qw856) (fun _ h9 => h9) rfl dX0_writeEnd_184 ?_
          refine lv_iload hx hb dX0_writeEnd_187 (lv_at hl 1 rfl) ?_
          obtain ⟨hq81, hrun⟩ := chk9 hrun
          refine va_iald hx hb hK hP 8 7 rfl rfl (ixb_in hq81) dX0_writeEnd_189 ?_
          refine lv_iconst (v := (-1)) hx hb dX0_writeEnd_190 (by decide) ?_
          obtain ⟨o_82, hc_82, hrun⟩ := bnd9 hrun
          have hPc := hP.sub (ws' := (oX9 (p1a 0) (st1 (st1 (st1 (st1 (st1 p1a 2 x70) 3 x72) 4 x74) 5 x76) 6 x78) (st1 (st1 (st1 (st1 (st1 p1k 2 z71) 3 z73) 4 z75) 5 z77) 6 z79) (o_68.2.2) (o_68.2.1))) [9, 10, 11, 12, 13, 14] rfl
          have hDc := hD.sub (ws' := (oX9 (p1a 0) (st1 (st1 (st1 (st1 (st1 p1a 2 x70) 3 x72) 4 x74) 5 x76) 6 x78) (st1 (st1 (st1 (st1 (st1 p1k 2 z71) 3 z73) 4 z75) 5 z77) 6 z79) (o_68.2.2) (o_68.2.1))) [9, 10, 11, 12, 13, 14] (by decide) rfl
          have hKc := hK.sub (tys' := (tX9 (st1 (st1 (st1 (st1 (st1 p1k 2 z71) 3 z73) 4 z75) 5 z77) 6 z79))) [8, 9, 10, 11, 12] rfl
          have hFc := va_free (wc := (oX9 (p1a 0) (st1 (st1 (st1 (st1 (st1 p1a 2 x70) 3 x72) 4 x74) 5 x76) 6 x78) (st1 (st1 (st1 (st1 (st1 p1k 2 z71) 3 z73) 4 z75) 5 z77) 6 z79) (o_68.2.2) (o_68.2.1))) hD hS hA [9, 10, 11, 12, 13, 14] rfl
          have hgn_p1 : glX9 (o_82.2.2) (o.2) := (mo_fX0_writeEnd_G194_94 hrun)
          refine va_calli (va_runV (As := [.int 22, .int (-1), .int (p0w 17 (nn (p0_0w 11 (nn p2)))), .int (-1)]) (rest := []) ⟨hx, hb, hml, hown, hts⟩ (kX9_add l dC dI (p0a := (st0 (p1a 0) (st1 (st1 (st1 (st1 (st1 p1a 2 x70) 3 x72) 4 x74) 5 x76) 6 x78))) (p0k := (st1 (st1 (st1 (st1 (st1 p1k 2 z71) 3 z73) 4 z75) 5 z77) 6 z79)) (p0n := (o_68.2.2)) (p0w := (o_68.2.1)) (p1 := 22) (p2 := (-1)) (p3 := (p0w 17 (nn (p0_0w 11 (nn p2))))) (p4 := (-1)) (sz := _) (o := o_82) (hrun := hc_82)) (cwV 4 hts (gi_V qw866 qw135 qw136 qw137 (gi_z qw133)) rfl rfl rfl (by decide +kernel) ⟨Nat.le_of_ble_eq_true rfl, Nat.le_of_ble_eq_true rfl⟩) ⟨PRE.blind, va_recv hKc hPc (ci := 3) (q0 := 0) rfl rfl, PRE.of hE hS hFc hPc hKc hDc⟩ rfl rfl hl.1 rfl (lv_room (Nat.le_of_ble_eq_true rfl)) dX0_writeEnd_191 ⟨(show (gcX9 p1n (o_68.2.2)) + (gcX9 (o_68.2.2) (o_82.2.2)) ≤ (gcX9 p1n (o.2)) from by have q0 := gsX9 hg_p1 (mo_fX9_add hc_82) hgn_p1; omega), (show (3 * (gcX9 p1n (o_68.2.2))) + (3 * ((gcX9 (o_68.2.2) (o_82.2.2)))) ≤ (3 * (gcX9 p1n (o.2))) from by have q0 := gsX9 hg_p1 (mo_fX9_add hc_82) hgn_p1; omega)⟩) hS (fun q _ h => hFc q h) hFc (fun r83 u t H locs ht hvm hw hB hz1 hk1 hS => ?_)
          obtain ⟨x84, z85, x86, z87, x88, z89, x90, z91, x92, z93, hB⟩ := hB
          obtain ⟨hP, hD, hK⟩ := JOIN (wr := ((oX0 (p0a 0) p0a p0k p0n p0w) ++ (oX1 (p0a 1) p0_0a p0_0k p0_0n p0_0w p0_0l) ++ (oX2 (p0a 7) p0_6a p0_6k p0_6n p0_6w p0_6l))) hP hD hK [9, 10, 11, 12, 13, 14] [0, 1, 2, 3, 4, 5, 6, 7, 8, 15, 16, 17, 18, 19, 20, 21, 22, 23, 24, 25, 26, 27, 28, 29, 30, 31, 32, 33, 34, 35, 36, 37, 38, 39, 40, 41, 42, 43, 44, 45, 46, 47, 48] [0, 1, 2, 3, 4, 5, 6, 7, 13, 14, 15, 16, 17, 18, 19, 20, 21, 22, 23, 24, 25, 26, 27, 28, 29, 30, 31, 32, 33, 34, 35, 36, 37, 38, 39, 40, 41, 42, 43, 44] rfl rfl (by decide) (by decide) rfl hk1 hFc ht hvm hB
          have hP : va_P (dC, dI) cls ((oX0 (p0a 0) p0a p0k p0n p0w) ++ (oX9 (p1a 0) (st1 (st1 (st1 (st1 (st1 p1a 2 x84) 3 x86) 4 x88) 5 x90) 6 x92) (st1 (st1 (st1 (st1 (st1 p1k 2 z85) 3 z87) 4 z89) 5 z91) 6 z93) (o_82.2.2) (o_82.2.1)) ++ (oX1 (p0a 1) p0_0a p0_0k p0_0n p0_0w p0_0l) ++ (oX2 (p0a 7) p0_6a p0_6k p0_6n p0_6w p0_6l)) H := hP.sub [0, 1, 2, 3, 4, 5, 6, 7, 8, 43, 44, 45, 46, 47, 48, 9, 10, 11, 12, 13, 14, 15, 16, 17, 18, 19, 20, 21, 22, 23, 24, 25, 26, 27, 28, 29, 30, 31, 32, 33, 34, 35, 36, 37, 38, 39, 40, 41, 42] rfl
          have hD : va_D A ((oX0 (p0a 0) p0a p0k p0n p0w) ++ (oX9 (p1a 0) (st1 (st1 (st1 (st1 (st1 p1a 2 x84) 3 x86) 4 x88) 5 x90) 6 x92) (st1 (st1 (st1 (st1 (st1 p1k 2 z85) 3 z87) 4 z89) 5 z91) 6 z93) (o_82.2.2) (o_82.2.1)) ++ (oX1 (p0a 1) p0_0a p0_0k p0_0n p0_0w p0_0l) ++ (oX2 (p0a 7) p0_6a p0_6k p0_6n p0_6w p0_6l)) := hD.sub [0, 1, 2, 3, 4, 5, 6, 7, 8, 43, 44, 45, 46, 47, 48, 9, 10, 11, 12, 13, 14, 15, 16, 17, 18, 19, 20, 21, 22, 23, 24, 25, 26, 27, 28, 29, 30, 31, 32, 33, 34, 35, 36, 37, 38, 39, 40, 41, 42] (by decide) rfl
          have hK : va_K (dC, dI) cls ((tX0 p0k) ++ (tX9 (st1 (st1 (st1 (st1 (st1 p1k 2 z85) 3 z87) 4 z89) 5 z91) 6 z93)) ++ (tX1 p0_0k) ++ (tX2 p0_6k)) s := hK.sub [0, 1, 2, 3, 4, 5, 6, 7, 40, 41, 42, 43, 44, 8, 9, 10, 11, 12, 13, 14, 15, 16, 17, 18, 19, 20, 21, 22, 23, 24, 25, 26, 27, 28, 29, 30, 31, 32, 33, 34, 35, 36, 37, 38, 39] rfl
          obtain rfl : r83 = (o_82.1) := hw
          refine W.widen (k := (gcX9 p1n (o_82.2.2))) (n := (3 * (gcX9 p1n (o_82.2.2)))) (by have a0 := gcX9_add hg_p1 (mo_fX9_add hc_82); omega) (by have a0 := gcX9_add hg_p1 (mo_fX9_add hc_82); omega) ?_
          have hg_p1 : glX9 p1n (o_82.2.2) := glX9_tr hg_p1 (mo_fX9_add hc_82)
          unfold fX0_writeEnd_G194_94 at hrun
          refine lv_pop hx hb dX0_writeEnd_194 rfl ?_
          exact J195 (o_82.2.1) (o_82.2.2) x84 z85 x86 z87 x88 z89 x90 z91 x92 z93 _ _ _ hrun hP hD hK hS (lv_sub hl [] rfl) hg_p1
def fX0_writeCode_J53 (kk33 : Int32 → Int32 → Option Int32) (p0_0_2n : Nat → Nat) (p0_0_2w : ST) (v4_33 : Int32) (y0_53 : Int32) (y1_53 : Int32) : Option Int32 := (if ixb v4_33 (p0_0_2n 6) = true then (kk33 (y1_53 + y0_53) (p0_0_2w 6 (nn v4_33))) else none)
def fX0_writeCode_L33 (p0_0_2n : Nat → Nat) (p0_0_2w : ST) (p0_6n : Nat → Nat) (p0_6w : ST) : Nat → Int32 → Int32 → Option Int32
  | 0 => fun _ _ => none
  | n_33 + 1 => fun v2_33 v4_33 => (if v4_33 < 0 then some v2_33 else ((fX0_isIdle v4_33 p0_0_2n p0_0_2w p0_6n p0_6w).bind fun (o_6 : Int32) => (if o_6 = 0 then (fX0_writeCode_J53 (fX0_writeCode_L33 p0_0_2n p0_0_2w p0_6n p0_6w n_33) p0_0_2n p0_0_2w v4_33 1 v2_33) else (fX0_writeCode_J53 (fX0_writeCode_L33 p0_0_2n p0_0_2w p0_6n p0_6w n_33) p0_0_2n p0_0_2w v4_33 0 v2_33))))
def fX0_writeCode_L4 (p0_0w : ST) (p0_0_2n : Nat → Nat) (p0_0_2w : ST) (p0_6n : Nat → Nat) (p0_6w : ST) : Nat → Int32 → Int32 → ST → Option ST
  | 0 => fun _ _ _ => none
  | n_4 + 1 => fun v2_4 v3_4 p0w_4 => (if (p0_0w 0 0) ≤ v3_4 then some p0w_4 else (if ixb v3_4 61 = true then (lt9 (upw p0w_4 17 (nn v3_4) v2_4) fun (w3 : ST) => (if ixb v3_4 60 = true then ((fX0_writeCode_L33 p0_0_2n p0_0_2w p0_6n p0_6w NF v2_4 (p0_0w 4 (nn v3_4))).bind fun (o33 : Int32) => ((fX0_endLines v3_4 p0_0w).bind fun (o_10 : Int32) => ((fX0_writeCode_L4 p0_0w p0_0_2n p0_0_2w p0_6n p0_6w n_4) (o33 + o_10) (v3_4 + 1) w3))) else none)) else none))
def fX0_writeCode_J137 (kk116 : Int32 → ST → (Nat → Nat) → Option (ST × (Nat → Nat))) (p0_0_2n : Nat → Nat) (p0_0_2w : ST) (v4_116 : Int32) (p1w_137 : ST) (p1n_137 : Nat → Nat) : Option (ST × (Nat → Nat)) := (if ixb v4_116 (p0_0_2n 6) = true then (kk116 (p0_0_2w 6 (nn v4_116)) p1w_137 p1n_137) else none)
theorem mo_fX0_writeCode_J137 {kk116 : Int32 → ST → (Nat → Nat) → Option (ST × (Nat → Nat))} {p0_0_2n : Nat → Nat} {p0_0_2w : ST} {v4_116 : Int32} {p1w_137 : ST} {p1n_137 : Nat → Nat} {o9q : ST × (Nat → Nat)} (hkk : ∀ (v4_116q : Int32) (p1w_116q : ST) (p1n_116q : Nat → Nat) (r9 : ST × (Nat → Nat)), kk116 v4_116q p1w_116q p1n_116q = some r9 → glX9 p1n_116q (r9.2)) (hrun : fX0_writeCode_J137 kk116 p0_0_2n p0_0_2w v4_116 p1w_137 p1n_137 = some o9q) : glX9 p1n_137 (o9q.2) := by
  unfold fX0_writeCode_J137 at hrun
  obtain ⟨hq18, hrun⟩ := chk9 hrun
  exact (hkk _ _ _ _ hrun)
def fX0_writeCode_G137_31 (kk116 : Int32 → ST → (Nat → Nat) → Option (ST × (Nat → Nat))) (p0_0_2n : Nat → Nat) (p0_0_2w : ST) (v4_116 : Int32) (o_20 : ST × (Nat → Nat)) : Option (ST × (Nat → Nat)) := (fX0_writeCode_J137 kk116 p0_0_2n p0_0_2w v4_116 (o_20.1) (o_20.2))
theorem mo_fX0_writeCode_G137_31 {kk116 : Int32 → ST → (Nat → Nat) → Option (ST × (Nat → Nat))} {p0_0_2n : Nat → Nat} {p0_0_2w : ST} {v4_116 : Int32} {o_20 : ST × (Nat → Nat)} {o9q : ST × (Nat → Nat)} (hkk : ∀ (v4_116q : Int32) (p1w_116q : ST) (p1n_116q : Nat → Nat) (r9 : ST × (Nat → Nat)), kk116 v4_116q p1w_116q p1n_116q = some r9 → glX9 p1n_116q (r9.2)) (hrun : fX0_writeCode_G137_31 kk116 p0_0_2n p0_0_2w v4_116 o_20 = some o9q) : glX9 (o_20.2) (o9q.2) := by
  unfold fX0_writeCode_G137_31 at hrun
  exact (mo_fX0_writeCode_J137 hkk hrun)
def fX0_writeCode_L116 (p0_0_2n : Nat → Nat) (p0_0_2w : ST) (p0_6n : Nat → Nat) (p0_6w : ST) : Nat → Int32 → ST → (Nat → Nat) → Option (ST × (Nat → Nat))
  | 0 => fun _ _ _ => none
  | n_116 + 1 => fun v4_116 p1w_116 p1n_116 => (if v4_116 < 0 then some (p1w_116, p1n_116) else ((fX0_isIdle v4_116 p0_0_2n p0_0_2w p0_6n p0_6w).bind fun (o_16 : Int32) => (if o_16 = 0 then ((fX0_writeStep p1n_116 p1w_116 v4_116 p0_0_2n p0_0_2w p0_6n p0_6w).bind fun (o_20 : ST × (Nat → Nat)) => (fX0_writeCode_G137_31 (fX0_writeCode_L116 p0_0_2n p0_0_2w p0_6n p0_6w n_116) p0_0_2n p0_0_2w v4_116 o_20)) else (fX0_writeCode_J137 (fX0_writeCode_L116 p0_0_2n p0_0_2w p0_6n p0_6w n_116) p0_0_2n p0_0_2w v4_116 p1w_116 p1n_116))))
theorem mo_fX0_writeCode_L116 {p0_0_2n : Nat → Nat} {p0_0_2w : ST} {p0_6n : Nat → Nat} {p0_6w : ST} : ∀ (n_116 : Nat) (v4_116 : Int32) (p1w_116 : ST) (p1n_116 : Nat → Nat) (o9q : ST × (Nat → Nat)), (fX0_writeCode_L116 p0_0_2n p0_0_2w p0_6n p0_6w n_116) v4_116 p1w_116 p1n_116 = some o9q → glX9 p1n_116 (o9q.2) := by
  intro n_116
  induction n_116 with
  | zero => intro v4_116 p1w_116 p1n_116 o9q hrun; exact (no9 rfl hrun).elim
  | succ n_116 ih9 =>
    intro v4_116 p1w_116 p1n_116 o9q hrun
    unfold fX0_writeCode_L116 at hrun
    rcases br9 hrun with ⟨hc15, hrun⟩ | ⟨hc15, hrun⟩
    · skip
      obtain rfl := (Option.some.inj hrun)
      exact (glX9_rf _)
    · skip
      obtain ⟨o_16, hc_16, hrun⟩ := bnd9 hrun
      rcases br9 hrun with ⟨hc19, hrun⟩ | ⟨hc19, hrun⟩
      · skip
        obtain ⟨o_20, hc_20, hrun⟩ := bnd9 hrun
        exact (glX9_tr (mo_fX0_writeStep hc_20) (mo_fX0_writeCode_G137_31 ih9 hrun))
      · skip
        exact (mo_fX0_writeCode_J137 ih9 hrun)
def fX0_writeCode_G161_44 (kk94 : Int32 → ST → (Nat → Nat) → Option (ST × (Nat → Nat))) (v3_94 : Int32) (o_33 : ST × (Nat → Nat)) : Option (ST × (Nat → Nat)) := (kk94 (v3_94 + 1) (o_33.1) (o_33.2))
theorem mo_fX0_writeCode_G161_44 {kk94 : Int32 → ST → (Nat → Nat) → Option (ST × (Nat → Nat))} {v3_94 : Int32} {o_33 : ST × (Nat → Nat)} {o9q : ST × (Nat → Nat)} (hkk : ∀ (v3_94q : Int32) (p1w_94q : ST) (p1n_94q : Nat → Nat) (r9 : ST × (Nat → Nat)), kk94 v3_94q p1w_94q p1n_94q = some r9 → glX9 p1n_94q (r9.2)) (hrun : fX0_writeCode_G161_44 kk94 v3_94 o_33 = some o9q) : glX9 (o_33.2) (o9q.2) := by
  unfold fX0_writeCode_G161_44 at hrun
  exact (hkk _ _ _ _ hrun)
def fX0_writeCode_G155_32 (kk94 : Int32 → ST → (Nat → Nat) → Option (ST × (Nat → Nat))) (p0_0w : ST) (p0_6n : Nat → Nat) (p0_6w : ST) (o4 : ST) (v3_94 : Int32) (o116 : ST × (Nat → Nat)) : Option (ST × (Nat → Nat)) := ((fX0_writeEnd o4 (o116.2) (o116.1) v3_94 p0_0w p0_6n p0_6w).bind fun (o_33 : ST × (Nat → Nat)) => (fX0_writeCode_G161_44 kk94 v3_94 o_33))
theorem mo_fX0_writeCode_G155_32 {kk94 : Int32 → ST → (Nat → Nat) → Option (ST × (Nat → Nat))} {p0_0w : ST} {p0_6n : Nat → Nat} {p0_6w : ST} {o4 : ST} {v3_94 : Int32} {o116 : ST × (Nat → Nat)} {o9q : ST × (Nat → Nat)} (hkk : ∀ (v3_94q : Int32) (p1w_94q : ST) (p1n_94q : Nat → Nat) (r9 : ST × (Nat → Nat)), kk94 v3_94q p1w_94q p1n_94q = some r9 → glX9 p1n_94q (r9.2)) (hrun : fX0_writeCode_G155_32 kk94 p0_0w p0_6n p0_6w o4 v3_94 o116 = some o9q) : glX9 (o116.2) (o9q.2) := by
  unfold fX0_writeCode_G155_32 at hrun
  obtain ⟨o_33, hc_33, hrun⟩ := bnd9 hrun
  exact (glX9_tr (mo_fX0_writeEnd hc_33) (mo_fX0_writeCode_G161_44 hkk hrun))
def fX0_writeCode_L94 (p0_0w : ST) (p0_0_2n : Nat → Nat) (p0_0_2w : ST) (p0_6n : Nat → Nat) (p0_6w : ST) (o4 : ST) : Nat → Int32 → ST → (Nat → Nat) → Option (ST × (Nat → Nat))
  | 0 => fun _ _ _ => none
  | n_94 + 1 => fun v3_94 p1w_94 p1n_94 => (if (p0_0w 0 0) ≤ v3_94 then some (p1w_94, p1n_94) else (if ixb v3_94 60 = true then ((fX0_writeCode_L116 p0_0_2n p0_0_2w p0_6n p0_6w NF (p0_0w 4 (nn v3_94)) p1w_94 p1n_94).bind fun (o116 : ST × (Nat → Nat)) => (fX0_writeCode_G155_32 (fX0_writeCode_L94 p0_0w p0_0_2n p0_0_2w p0_6n p0_6w o4 n_94) p0_0w p0_6n p0_6w o4 v3_94 o116)) else none))
theorem mo_fX0_writeCode_L94 {p0_0w : ST} {p0_0_2n : Nat → Nat} {p0_0_2w : ST} {p0_6n : Nat → Nat} {p0_6w : ST} {o4 : ST} : ∀ (n_94 : Nat) (v3_94 : Int32) (p1w_94 : ST) (p1n_94 : Nat → Nat) (o9q : ST × (Nat → Nat)), (fX0_writeCode_L94 p0_0w p0_0_2n p0_0_2w p0_6n p0_6w o4 n_94) v3_94 p1w_94 p1n_94 = some o9q → glX9 p1n_94 (o9q.2) := by
  intro n_94
  induction n_94 with
  | zero => intro v3_94 p1w_94 p1n_94 o9q hrun; exact (no9 rfl hrun).elim
  | succ n_94 ih9 =>
    intro v3_94 p1w_94 p1n_94 o9q hrun
    unfold fX0_writeCode_L94 at hrun
    rcases br9 hrun with ⟨hc13, hrun⟩ | ⟨hc13, hrun⟩
    · skip
      obtain rfl := (Option.some.inj hrun)
      exact (glX9_rf _)
    · skip
      obtain ⟨hq14, hrun⟩ := chk9 hrun
      obtain ⟨o116, hc116, hrun⟩ := bnd9 hrun
      exact (glX9_tr (mo_fX0_writeCode_L116 _ _ _ _ _ hc116) (mo_fX0_writeCode_G155_32 ih9 hrun))
def fX0_writeCode_G167_45 (o4 : ST) (o94 : ST × (Nat → Nat)) : Option (ST × ST × (Nat → Nat)) := some (o4, (o94.1), (o94.2))
theorem mo_fX0_writeCode_G167_45 {o4 : ST} {o94 : ST × (Nat → Nat)} {o9q : ST × ST × (Nat → Nat)} (hrun : fX0_writeCode_G167_45 o4 o94 = some o9q) : glX9 (o94.2) (o9q.2.2) := by
  unfold fX0_writeCode_G167_45 at hrun
  obtain rfl := (Option.some.inj hrun)
  exact (glX9_rf _)
def fX0_writeCode (p0w : ST) (p1n : Nat → Nat) (p1w : ST) (p0_0w : ST) (p0_0_2n : Nat → Nat) (p0_0_2w : ST) (p0_6n : Nat → Nat) (p0_6w : ST) : Option (ST × ST × (Nat → Nat)) := ((fX0_writeCode_L4 p0_0w p0_0_2n p0_0_2w p0_6n p0_6w NF 0 0 p0w).bind fun (o4 : ST) => (lt9 (upw p1w 0 0 0) fun (w12 : ST) => ((fX0_writeCode_L94 p0_0w p0_0_2n p0_0_2w p0_6n p0_6w o4 NF 0 w12 p1n).bind fun (o94 : ST × (Nat → Nat)) => (fX0_writeCode_G167_45 o4 o94))))
theorem mo_fX0_writeCode {p0w : ST} {p1n : Nat → Nat} {p1w : ST} {p0_0w : ST} {p0_0_2n : Nat → Nat} {p0_0_2w : ST} {p0_6n : Nat → Nat} {p0_6w : ST} {o9q : ST × ST × (Nat → Nat)} (hrun : fX0_writeCode p0w p1n p1w p0_0w p0_0_2n p0_0_2w p0_6n p0_6w = some o9q) : glX9 p1n (o9q.2.2) := by
  unfold fX0_writeCode at hrun
  obtain ⟨o4, hc4, hrun⟩ := bnd9 hrun
  obtain ⟨w12, ew12, hrun⟩ := let9 hrun
  obtain ⟨o94, hc94, hrun⟩ := bnd9 hrun
  exact (glX9_tr (mo_fX0_writeCode_L94 _ _ _ _ _ hc94) (mo_fX0_writeCode_G167_45 hrun))
set_option maxHeartbeats 16000000 in
set_option maxRecDepth 100000 in
theorem kX0_writeCode {zs : Nat × Nat} (l : Launch) (dC : Nat → ClassId) (dI : Nat → Nat → Nat) (p0a : Nat → Nat) (p0k : Nat → ClassId) (p0n : Nat → Nat) (p0w : ST) (p1a : Nat → Nat) (p1k : Nat → ClassId) (p1n : Nat → Nat) (p1w : ST) (p0_0a : Nat → Nat) (p0_0k : Nat → ClassId) (p0_0n : Nat → Nat) (p0_0w : ST) (p0_0l : SL) (p0_0_2a : Nat → Nat) (p0_0_2k : Nat → ClassId) (p0_0_2n : Nat → Nat) (p0_0_2w : ST) (p0_6a : Nat → Nat) (p0_6k : Nat → ClassId) (p0_6n : Nat → Nat) (p0_6w : ST) (p0_6l : SL) (sz : Nat) (o : ST × ST × (Nat → Nat)) (hrun : fX0_writeCode p0w p1n p1w p0_0w p0_0_2n p0_0_2w p0_6n p0_6w = some o) : Met l yX0_writeCode (wz yX0_writeCode cX0_writeCode 5 (Option.none : Option Jvm.ClassFile.FieldType)) ({ frames := 4, cells := (gcX9 p1n (o.2.2)), slots := (3 * (gcX9 p1n (o.2.2))), locals := 114 } : Room) (va_Pc [.ref (p0a 0), .ref (p1a 0)] (PRE zs dC dI ((oX0 (p0a 0) p0a p0k p0n p0w) ++ (oX9 (p1a 0) p1a p1k p1n p1w) ++ (oX1 (p0a 1) p0_0a p0_0k p0_0n p0_0w p0_0l) ++ (oX9 (p0_0a 3) p0_0_2a p0_0_2k p0_0_2n p0_0_2w) ++ (oX2 (p0a 7) p0_6a p0_6k p0_6n p0_6w p0_6l)) ((tX0 p0k) ++ (tX9 p1k) ++ (tX1 p0_0k) ++ (tX9 p0_0_2k) ++ (tX2 p0_6k)) sz)) (va_Qv (fun (_ : Unit) => True) (fun _ t => ∃ (xp1_1_z : Nat), ∃ (zp1_1_z : ClassId), ∃ (xp1_2_z : Nat), ∃ (zp1_2_z : ClassId), ∃ (xp1_3_z : Nat), ∃ (zp1_3_z : ClassId), ∃ (xp1_4_z : Nat), ∃ (zp1_4_z : ClassId), ∃ (xp1_5_z : Nat), ∃ (zp1_5_z : ClassId), POST dC dI ((oX0 (p0a 0) p0a p0k p0n (o.1)) ++ (oX9 (p1a 0) (st1 (st1 (st1 (st1 (st1 p1a 2 xp1_1_z) 3 xp1_2_z) 4 xp1_3_z) 5 xp1_4_z) 6 xp1_5_z) (st1 (st1 (st1 (st1 (st1 p1k 2 zp1_1_z) 3 zp1_2_z) 4 zp1_3_z) 5 zp1_4_z) 6 zp1_5_z) (o.2.2) (o.2.1)) ++ (oX1 (p0a 1) p0_0a p0_0k p0_0n p0_0w p0_0l) ++ (oX9 (p0_0a 3) p0_0_2a p0_0_2k p0_0_2n p0_0_2w) ++ (oX2 (p0a 7) p0_6a p0_6k p0_6n p0_6w p0_6l)) ((tX0 p0k) ++ (tX9 (st1 (st1 (st1 (st1 (st1 p1k 2 zp1_1_z) 3 zp1_2_z) 4 zp1_3_z) 5 zp1_4_z) 6 zp1_5_z)) ++ (tX1 p0_0k) ++ (tX9 p0_0_2k) ++ (tX2 p0_6k)) (va_A ((oX0 (p0a 0) p0a p0k p0n p0w) ++ (oX9 (p1a 0) p1a p1k p1n p1w) ++ (oX1 (p0a 1) p0_0a p0_0k p0_0n p0_0w p0_0l) ++ (oX9 (p0_0a 3) p0_0_2a p0_0_2k p0_0_2n p0_0_2w) ++ (oX2 (p0a 7) p0_6a p0_6k p0_6n p0_6w p0_6l)) sz) t) (va_A ((oX0 (p0a 0) p0a p0k p0n p0w) ++ (oX9 (p1a 0) p1a p1k p1n p1w) ++ (oX1 (p0a 1) p0_0a p0_0k p0_0n p0_0w p0_0l) ++ (oX9 (p0_0a 3) p0_0_2a p0_0_2k p0_0_2n p0_0_2w) ++ (oX2 (p0a 7) p0_6a p0_6k p0_6n p0_6w p0_6l)) sz)) (gcX9 p1n (o.2.2)) (3 * (gcX9 p1n (o.2.2))) (va_A ((oX0 (p0a 0) p0a p0k p0n p0w) ++ (oX9 (p1a 0) p1a p1k p1n p1w) ++ (oX1 (p0a 1) p0_0a p0_0k p0_0n p0_0w p0_0l) ++ (oX9 (p0_0a 3) p0_0_2a p0_0_2k p0_0_2n p0_0_2w) ++ (oX2 (p0a 7) p0_6a p0_6k p0_6n p0_6w p0_6l)) sz) := by
  refine Met.ofW (cc := cX0_writeCode) (maxL := 5) (ret := (Option.none : Option Jvm.ClassFile.FieldType)) (by decide) rfl ?_
  intro p e s m args below meth c s₁ B hml hv
  obtain ⟨rfl, hsz, hP, hK, hD0, hE⟩ := hv
  have hx := B.exec
  have hb := B.bytes
  have hr := B.returns
  have hts0 := atoms_spec (ws := wz yX0_writeCode cX0_writeCode 5 (Option.none : Option Jvm.ClassFile.FieldType)) B.pre
  have hts : ∀ w ∈ gw, w.before _ s = true := fun w h => hts0 w (List.mem_cons_of_mem _ h)
  have hown : s.vm.findClass RX0 = some m.cls := findClass_of_methodNamed B.named
  have hlocks := B.notSynchronized
  subst hsz
  have hD := hD0.self (sz := s.heap.size)
  refine gQ9 ?_
  intro Q hQ
  generalize hAe : va_A ((oX0 (p0a 0) p0a p0k p0n p0w) ++ (oX9 (p1a 0) p1a p1k p1n p1w) ++ (oX1 (p0a 1) p0_0a p0_0k p0_0n p0_0w p0_0l) ++ (oX9 (p0_0a 3) p0_0_2a p0_0_2k p0_0_2n p0_0_2w) ++ (oX2 (p0a 7) p0_6a p0_6k p0_6n p0_6w p0_6l)) s.heap.size = A at hD hE hQ
  have hA : ∀ q : Nat, s.heap.size ≤ q → A q := fun q h => by rw [← hAe]; exact Or.inr h
  have hS : va_S A s.heap s.heap [] := va_S.rf
  have hP : va_P (dC, dI) cls ((oX0 (p0a 0) p0a p0k p0n p0w) ++ (oX9 (p1a 0) p1a p1k p1n p1w) ++ (oX1 (p0a 1) p0_0a p0_0k p0_0n p0_0w p0_0l) ++ (oX9 (p0_0a 3) p0_0_2a p0_0_2k p0_0_2n p0_0_2w) ++ (oX2 (p0a 7) p0_6a p0_6k p0_6n p0_6w p0_6l)) s.heap := hP
  have hl := lv_entry ([.ref (p0a 0), .ref (p1a 0)]) (n := 5) (Nat.le_of_ble_eq_true rfl)
  rw [lg_entry_eq]
  generalize (lg_sl ([.ref (p0a 0), .ref (p1a 0)]) ++ List.replicate (5 - (lg_sl ([.ref (p0a 0), .ref (p1a 0)])).length) Slot.unset).toArray = ls at hl ⊢
  have hl : lv_has ls 5 [(0, .ref (p0a 0)), (1, .ref (p1a 0))] := hl
  obtain ⟨H, hHe⟩ : ∃ H, H = s.heap := ⟨_, rfl⟩
  obtain ⟨locs, hle⟩ : ∃ locs : List Loc, locs = [] := ⟨_, rfl⟩
  rw [← hHe] at hP
  have hS : va_S A s.heap H locs := by rw [hHe, hle]; exact hS
  show W p l e ({ frames := 4, cells := (gcX9 p1n (o.2.2)), slots := (3 * (gcX9 p1n (o.2.2))), locals := 114 } : Room) s m ([.ref (p0a 0), .ref (p1a 0)] : List Value).toArray below meth c s.heap [] 0 0 Q (F0 m 0 ls [])
  rw [← hle]
  refine wH9 hHe ?_
  have hg_p1 := glX9_rf p1n
  have hgn_p1 : glX9 p1n (o.2.2) := (mo_fX0_writeCode hrun)
  refine W.widen (k := (gcX9 p1n p1n)) (n := (3 * (gcX9 p1n p1n))) (Nat.zero_le _) (Nat.zero_le _) ?_
  unfold fX0_writeCode at hrun
  refine lv_iconst (v := 0) hx hb dX0_writeCode_0 (by decide) ?_
  refine lv_istore_n (lv' := [(2, .int 0), (0, .ref (p0a 0)), (1, .ref (p1a 0))]) hx hb dX0_writeCode_1 rfl hl (by decide) rfl (fun ls hl => ?_)
  refine lv_iconst (v := 0) hx hb dX0_writeCode_2 (by decide) ?_
  refine lv_istore_n (lv' := [(3, .int 0), (2, .int 0), (0, .ref (p0a 0)), (1, .ref (p1a 0))]) hx hb dX0_writeCode_3 rfl hl (by decide) rfl (fun ls hl => ?_)
  have L4 : ∀ (n_4 : Nat) (v2_4 : Int32) (v3_4 : Int32) (p0w_4 : ST) (o4 : ST) (H : Heap) (locs : List Loc) (ls : Array Slot), (fX0_writeCode_L4 p0_0w p0_0_2n p0_0_2w p0_6n p0_6w n_4) v2_4 v3_4 p0w_4 = some o4 → va_P (dC, dI) cls ((oX0 (p0a 0) p0a p0k p0n p0w_4) ++ (oX9 (p1a 0) p1a p1k p1n p1w) ++ (oX1 (p0a 1) p0_0a p0_0k p0_0n p0_0w p0_0l) ++ (oX9 (p0_0a 3) p0_0_2a p0_0_2k p0_0_2n p0_0_2w) ++ (oX2 (p0a 7) p0_6a p0_6k p0_6n p0_6w p0_6l)) H → va_D A ((oX0 (p0a 0) p0a p0k p0n p0w_4) ++ (oX9 (p1a 0) p1a p1k p1n p1w) ++ (oX1 (p0a 1) p0_0a p0_0k p0_0n p0_0w p0_0l) ++ (oX9 (p0_0a 3) p0_0_2a p0_0_2k p0_0_2n p0_0_2w) ++ (oX2 (p0a 7) p0_6a p0_6k p0_6n p0_6w p0_6l)) → va_K (dC, dI) cls ((tX0 p0k) ++ (tX9 p1k) ++ (tX1 p0_0k) ++ (tX9 p0_0_2k) ++ (tX2 p0_6k)) s → va_S A s.heap H locs → lv_has ls 5 [(0, .ref (p0a 0)), (1, .ref (p1a 0)), (2, .int v2_4), (3, .int v3_4)] → glX9 p1n p1n → (∀ (H : Heap) (locs : List Loc) (ls : Array Slot), va_P (dC, dI) cls ((oX0 (p0a 0) p0a p0k p0n o4) ++ (oX9 (p1a 0) p1a p1k p1n p1w) ++ (oX1 (p0a 1) p0_0a p0_0k p0_0n p0_0w p0_0l) ++ (oX9 (p0_0a 3) p0_0_2a p0_0_2k p0_0_2n p0_0_2w) ++ (oX2 (p0a 7) p0_6a p0_6k p0_6n p0_6w p0_6l)) H → va_D A ((oX0 (p0a 0) p0a p0k p0n o4) ++ (oX9 (p1a 0) p1a p1k p1n p1w) ++ (oX1 (p0a 1) p0_0a p0_0k p0_0n p0_0w p0_0l) ++ (oX9 (p0_0a 3) p0_0_2a p0_0_2k p0_0_2n p0_0_2w) ++ (oX2 (p0a 7) p0_6a p0_6k p0_6n p0_6w p0_6l)) → va_K (dC, dI) cls ((tX0 p0k) ++ (tX9 p1k) ++ (tX1 p0_0k) ++ (tX9 p0_0_2k) ++ (tX2 p0_6k)) s → va_S A s.heap H locs → lv_has ls 5 [(0, .ref (p0a 0)), (1, .ref (p1a 0))] → glX9 p1n p1n → W p l e ({ frames := 4, cells := (gcX9 p1n (o.2.2)), slots := (3 * (gcX9 p1n (o.2.2))), locals := 114 } : Room) s m ([.ref (p0a 0), .ref (p1a 0)] : List Value).toArray below meth c H locs (gcX9 p1n p1n) (3 * (gcX9 p1n p1n)) Q (F0 m 87 ls [])) → W p l e ({ frames := 4, cells := (gcX9 p1n (o.2.2)), slots := (3 * (gcX9 p1n (o.2.2))), locals := 114 } : Room) s m ([.ref (p0a 0), .ref (p1a 0)] : List Value).toArray below meth c H locs (gcX9 p1n p1n) (3 * (gcX9 p1n p1n)) Q (F0 m 4 ls []) := by
    intro n_4
    induction n_4 with
    | zero => intro v2_4 v3_4 p0w_4 o4 H locs ls hrun; exact (no9 rfl hrun).elim
    | succ n_4 IH4 =>
      intro v2_4 v3_4 p0w_4 o4 H locs ls hrun hP hD hK hS hl hg_p1 hk4
      unfold fX0_writeCode_L4 at hrun
      refine lv_iload_n hx hb dX0_writeCode_4 rfl (lv_at hl 3 rfl) ?_
      refine lv_aload_n hx hb dX0_writeCode_5 rfl (lv_at hl 0 rfl) ?_
      refine va_get (D := (dC, dI)) (ci := 8) (v := .ref (p0a 1)) (C := RX0) (T := TX0) (N := 17) hx hb hts i_X0 hown hK hP 0 rfl rfl 0 (by decide) (hts _ qw618) (fun _ h9 => h9) rfl dX0_writeCode_6 ?_
      refine va_get (D := (dC, dI)) (ci := 4) (v := .int (p0_0w 0 0)) (C := RX1) (T := TX1) (N := 21) hx hb hts i_X1 hown hK hP 15 rfl rfl 0 (by decide) (hts _ qw642) (fun _ h9 => h9) rfl dX0_writeCode_9 ?_
      rcases br9 hrun with ⟨hc1, hrun⟩ | ⟨hc1, hrun⟩
      · refine lv_icmp_ge (tgt := 87) hx hb dX0_writeCode_12 (by decide) (fun _ => ?_) (fun c => absurd hc1 c)
        obtain rfl := (Option.some.inj hrun)
        exact hk4 _ _ _ hP hD hK hS (lv_sub hl [0, 1] rfl) hg_p1
      · refine lv_icmp_ge (tgt := 87) hx hb dX0_writeCode_12 (by decide) (fun c => absurd c hc1) (fun _ => ?_)
        refine lv_aload_n hx hb dX0_writeCode_15 rfl (lv_at hl 0 rfl) ?_
        refine va_get (D := (dC, dI)) (ci := 8) (v := .ref (p0a 17)) (C := RX0) (T := TX0) (N := 17) hx hb hts i_X0 hown hK hP 0 rfl rfl 16 (by decide) (hts _ qw856) (fun _ h9 => h9) rfl dX0_writeCode_16 ?_
        refine lv_iload_n hx hb dX0_writeCode_19 rfl (lv_at hl 3 rfl) ?_
        refine lv_iload_n hx hb dX0_writeCode_20 rfl (lv_at hl 2 rfl) ?_
        obtain ⟨hq2, hrun⟩ := chk9 hrun
        refine va_iast hx hb hK hP hD hS 8 7 rfl rfl (ixb_in hq2) dX0_writeCode_21 (fun H locs hP hD hS => ?_)
        have hP : va_P (dC, dI) cls ((oX0 (p0a 0) p0a p0k p0n (upw p0w_4 17 (nn v3_4) v2_4)) ++ (oX9 (p1a 0) p1a p1k p1n p1w) ++ (oX1 (p0a 1) p0_0a p0_0k p0_0n p0_0w p0_0l) ++ (oX9 (p0_0a 3) p0_0_2a p0_0_2k p0_0_2n p0_0_2w) ++ (oX2 (p0a 7) p0_6a p0_6k p0_6n p0_6w p0_6l)) H := hP
        have hD : va_D A ((oX0 (p0a 0) p0a p0k p0n (upw p0w_4 17 (nn v3_4) v2_4)) ++ (oX9 (p1a 0) p1a p1k p1n p1w) ++ (oX1 (p0a 1) p0_0a p0_0k p0_0n p0_0w p0_0l) ++ (oX9 (p0_0a 3) p0_0_2a p0_0_2k p0_0_2n p0_0_2w) ++ (oX2 (p0a 7) p0_6a p0_6k p0_6n p0_6w p0_6l)) := hD
        obtain ⟨w3, ew3, hrun⟩ := let9 hrun
        rw [← ew3] at hP hD
        refine lv_aload_n hx hb dX0_writeCode_22 rfl (lv_at hl 0 rfl) ?_
        refine va_get (D := (dC, dI)) (ci := 8) (v := .ref (p0a 1)) (C := RX0) (T := TX0) (N := 17) hx hb hts i_X0 hown hK hP 0 rfl rfl 0 (by decide) (hts _ qw618) (fun _ h9 => h9) rfl dX0_writeCode_23 ?_
        refine va_get (D := (dC, dI)) (ci := 4) (v := .ref (p0_0a 4)) (C := RX1) (T := TX1) (N := 21) hx hb hts i_X1 hown hK hP 15 rfl rfl 3 (by decide) (hts _ qw789) (fun _ h9 => h9) rfl dX0_writeCode_26 ?_
        refine lv_iload_n hx hb dX0_writeCode_29 rfl (lv_at hl 3 rfl) ?_
        obtain ⟨hq4, hrun⟩ := chk9 hrun
        refine va_iald hx hb hK hP 16 13 rfl rfl (ixb_in hq4) dX0_writeCode_30 ?_
        refine lv_istore (lv' := [(4, .int (p0_0w 4 (nn v3_4))), (0, .ref (p0a 0)), (1, .ref (p1a 0)), (2, .int v2_4), (3, .int v3_4)]) hx hb dX0_writeCode_31 hl (by decide) rfl (fun ls hl => ?_)
        have L33 : ∀ (n_33 : Nat) (v2_33 : Int32) (v4_33 : Int32) (o33 : Int32) (H : Heap) (locs : List Loc) (ls : Array Slot), (fX0_writeCode_L33 p0_0_2n p0_0_2w p0_6n p0_6w n_33) v2_33 v4_33 = some o33 → va_P (dC, dI) cls ((oX0 (p0a 0) p0a p0k p0n w3) ++ (oX9 (p1a 0) p1a p1k p1n p1w) ++ (oX1 (p0a 1) p0_0a p0_0k p0_0n p0_0w p0_0l) ++ (oX9 (p0_0a 3) p0_0_2a p0_0_2k p0_0_2n p0_0_2w) ++ (oX2 (p0a 7) p0_6a p0_6k p0_6n p0_6w p0_6l)) H → va_D A ((oX0 (p0a 0) p0a p0k p0n w3) ++ (oX9 (p1a 0) p1a p1k p1n p1w) ++ (oX1 (p0a 1) p0_0a p0_0k p0_0n p0_0w p0_0l) ++ (oX9 (p0_0a 3) p0_0_2a p0_0_2k p0_0_2n p0_0_2w) ++ (oX2 (p0a 7) p0_6a p0_6k p0_6n p0_6w p0_6l)) → va_K (dC, dI) cls ((tX0 p0k) ++ (tX9 p1k) ++ (tX1 p0_0k) ++ (tX9 p0_0_2k) ++ (tX2 p0_6k)) s → va_S A s.heap H locs → lv_has ls 5 [(0, .ref (p0a 0)), (1, .ref (p1a 0)), (2, .int v2_33), (3, .int v3_4), (4, .int v4_33)] → glX9 p1n p1n → (∀ (H : Heap) (locs : List Loc) (ls : Array Slot), va_P (dC, dI) cls ((oX0 (p0a 0) p0a p0k p0n w3) ++ (oX9 (p1a 0) p1a p1k p1n p1w) ++ (oX1 (p0a 1) p0_0a p0_0k p0_0n p0_0w p0_0l) ++ (oX9 (p0_0a 3) p0_0_2a p0_0_2k p0_0_2n p0_0_2w) ++ (oX2 (p0a 7) p0_6a p0_6k p0_6n p0_6w p0_6l)) H → va_D A ((oX0 (p0a 0) p0a p0k p0n w3) ++ (oX9 (p1a 0) p1a p1k p1n p1w) ++ (oX1 (p0a 1) p0_0a p0_0k p0_0n p0_0w p0_0l) ++ (oX9 (p0_0a 3) p0_0_2a p0_0_2k p0_0_2n p0_0_2w) ++ (oX2 (p0a 7) p0_6a p0_6k p0_6n p0_6w p0_6l)) → va_K (dC, dI) cls ((tX0 p0k) ++ (tX9 p1k) ++ (tX1 p0_0k) ++ (tX9 p0_0_2k) ++ (tX2 p0_6k)) s → va_S A s.heap H locs → lv_has ls 5 [(0, .ref (p0a 0)), (1, .ref (p1a 0)), (2, .int o33), (3, .int v3_4)] → glX9 p1n p1n → W p l e ({ frames := 4, cells := (gcX9 p1n (o.2.2)), slots := (3 * (gcX9 p1n (o.2.2))), locals := 114 } : Room) s m ([.ref (p0a 0), .ref (p1a 0)] : List Value).toArray below meth c H locs (gcX9 p1n p1n) (3 * (gcX9 p1n p1n)) Q (F0 m 73 ls [])) → W p l e ({ frames := 4, cells := (gcX9 p1n (o.2.2)), slots := (3 * (gcX9 p1n (o.2.2))), locals := 114 } : Room) s m ([.ref (p0a 0), .ref (p1a 0)] : List Value).toArray below meth c H locs (gcX9 p1n p1n) (3 * (gcX9 p1n p1n)) Q (F0 m 33 ls []) := by
          intro n_33
          induction n_33 with
          | zero => intro v2_33 v4_33 o33 H locs ls hrun; exact (no9 rfl hrun).elim
          | succ n_33 IH33 =>
            intro v2_33 v4_33 o33 H locs ls hrun hP hD hK hS hl hg_p1 hk33
            unfold fX0_writeCode_L33 at hrun
            refine lv_iload hx hb dX0_writeCode_33 (lv_at hl 4 rfl) ?_
            rcases br9 hrun with ⟨hc5, hrun⟩ | ⟨hc5, hrun⟩
            · refine lv_if_lt (tgt := 73) hx hb dX0_writeCode_35 (by decide) (fun _ => ?_) (fun c => absurd hc5 c)
              obtain rfl := (Option.some.inj hrun)
              exact hk33 _ _ _ hP hD hK hS (lv_sub hl [0, 1, 2, 3] rfl) hg_p1
            · refine lv_if_lt (tgt := 73) hx hb dX0_writeCode_35 (by decide) (fun c => absurd c hc5) (fun _ => ?_)
              refine lv_iload_n hx hb dX0_writeCode_38 rfl (lv_at hl 2 rfl) ?_
              refine lv_aload_n hx hb dX0_writeCode_39 rfl (lv_at hl 0 rfl) ?_
              refine lv_iload hx hb dX0_writeCode_40 (lv_at hl 4 rfl) ?_
              obtain ⟨o_6, hc_6, hrun⟩ := bnd9 hrun
              have hPc := hP.sub (ws' := ((oX0 (p0a 0) p0a p0k p0n w3) ++ (oX1 (p0a 1) p0_0a p0_0k p0_0n p0_0w p0_0l) ++ (oX9 (p0_0a 3) p0_0_2a p0_0_2k p0_0_2n p0_0_2w) ++ (oX2 (p0a 7) p0_6a p0_6k p0_6n p0_6w p0_6l))) [0, 1, 2, 3, 4, 5, 6, 7, 8, 15, 16, 17, 18, 19, 20, 21, 22, 23, 24, 25, 26, 27, 28, 29, 30, 31, 32, 33, 34, 35, 36, 37, 38, 39, 40, 41, 42, 43, 44, 45, 46, 47, 48, 49, 50, 51, 52, 53, 54] rfl
              have hDc := hD.sub (ws' := ((oX0 (p0a 0) p0a p0k p0n w3) ++ (oX1 (p0a 1) p0_0a p0_0k p0_0n p0_0w p0_0l) ++ (oX9 (p0_0a 3) p0_0_2a p0_0_2k p0_0_2n p0_0_2w) ++ (oX2 (p0a 7) p0_6a p0_6k p0_6n p0_6w p0_6l))) [0, 1, 2, 3, 4, 5, 6, 7, 8, 15, 16, 17, 18, 19, 20, 21, 22, 23, 24, 25, 26, 27, 28, 29, 30, 31, 32, 33, 34, 35, 36, 37, 38, 39, 40, 41, 42, 43, 44, 45, 46, 47, 48, 49, 50, 51, 52, 53, 54] (by decide) rfl
              have hKc := hK.sub (tys' := ((tX0 p0k) ++ (tX1 p0_0k) ++ (tX9 p0_0_2k) ++ (tX2 p0_6k))) [0, 1, 2, 3, 4, 5, 6, 7, 13, 14, 15, 16, 17, 18, 19, 20, 21, 22, 23, 24, 25, 26, 27, 28, 29, 30, 31, 32, 33, 34, 35, 36, 37, 38, 39, 40, 41, 42, 43, 44, 45, 46, 47, 48, 49] rfl
              have hFc := va_free (wc := ((oX0 (p0a 0) p0a p0k p0n w3) ++ (oX1 (p0a 1) p0_0a p0_0k p0_0n p0_0w p0_0l) ++ (oX9 (p0_0a 3) p0_0_2a p0_0_2k p0_0_2n p0_0_2w) ++ (oX2 (p0a 7) p0_6a p0_6k p0_6n p0_6w p0_6l))) hD hS hA [0, 1, 2, 3, 4, 5, 6, 7, 8, 15, 16, 17, 18, 19, 20, 21, 22, 23, 24, 25, 26, 27, 28, 29, 30, 31, 32, 33, 34, 35, 36, 37, 38, 39, 40, 41, 42, 43, 44, 45, 46, 47, 48, 49, 50, 51, 52, 53, 54] rfl
              refine va_calli (va_runV (As := [.int v4_33]) (rest := [.int v2_33]) ⟨hx, hb, hml, hown, hts⟩ (kX0_isIdle l dC dI (p0a := (st0 (p0a 0) p0a)) (p0k := p0k) (p0n := p0n) (p0w := w3) (p1 := v4_33) (p0_0a := p0_0a) (p0_0k := p0_0k) (p0_0n := p0_0n) (p0_0w := p0_0w) (p0_0l := p0_0l) (p0_0_2a := p0_0_2a) (p0_0_2k := p0_0_2k) (p0_0_2n := p0_0_2n) (p0_0_2w := p0_0_2w) (p0_6a := p0_6a) (p0_6k := p0_6k) (p0_6n := p0_6n) (p0_6w := p0_6w) (p0_6l := p0_6l) (sz := _) (o := o_6) (hrun := hc_6)) (cwV 1 hts (gi_V qw858 qw859 qw860 qw653 (gi_z qw857)) rfl rfl rfl (by decide +kernel) ⟨Nat.le_of_ble_eq_true rfl, Nat.le_of_ble_eq_true rfl⟩) ⟨PRE.blind, va_recv hKc hPc (ci := 8) (q0 := 0) rfl rfl, PRE.of hE hS hFc hPc hKc hDc⟩ rfl rfl hl.1 rfl (lv_room (Nat.le_of_ble_eq_true rfl)) dX0_writeCode_42 ⟨(show (gcX9 p1n p1n) + 0 ≤ (gcX9 p1n (o.2.2)) from by have q0 := gmX9 hg_p1 hgn_p1; omega), (show (3 * (gcX9 p1n p1n)) + 0 ≤ (3 * (gcX9 p1n (o.2.2))) from by have q0 := gmX9 hg_p1 hgn_p1; omega)⟩) hS (fun q _ h => hFc q h) hFc (fun r7 u t H locs ht hvm hw hB hz1 hk1 hS => ?_)
              obtain ⟨hP, hD, hK⟩ := JOIN (wr := (oX9 (p1a 0) p1a p1k p1n p1w)) hP hD hK [0, 1, 2, 3, 4, 5, 6, 7, 8, 15, 16, 17, 18, 19, 20, 21, 22, 23, 24, 25, 26, 27, 28, 29, 30, 31, 32, 33, 34, 35, 36, 37, 38, 39, 40, 41, 42, 43, 44, 45, 46, 47, 48, 49, 50, 51, 52, 53, 54] [9, 10, 11, 12, 13, 14] [8, 9, 10, 11, 12] rfl rfl (by decide) (by decide) rfl hk1 hFc ht hvm hB
              have hP : va_P (dC, dI) cls ((oX0 (p0a 0) p0a p0k p0n w3) ++ (oX9 (p1a 0) p1a p1k p1n p1w) ++ (oX1 (p0a 1) p0_0a p0_0k p0_0n p0_0w p0_0l) ++ (oX9 (p0_0a 3) p0_0_2a p0_0_2k p0_0_2n p0_0_2w) ++ (oX2 (p0a 7) p0_6a p0_6k p0_6n p0_6w p0_6l)) H := hP.sub [6, 7, 8, 9, 10, 11, 12, 13, 14, 0, 1, 2, 3, 4, 5, 15, 16, 17, 18, 19, 20, 21, 22, 23, 24, 25, 26, 27, 28, 29, 30, 31, 32, 33, 34, 35, 36, 37, 38, 39, 40, 41, 42, 43, 44, 45, 46, 47, 48, 49, 50, 51, 52, 53, 54] rfl
              have hD : va_D A ((oX0 (p0a 0) p0a p0k p0n w3) ++ (oX9 (p1a 0) p1a p1k p1n p1w) ++ (oX1 (p0a 1) p0_0a p0_0k p0_0n p0_0w p0_0l) ++ (oX9 (p0_0a 3) p0_0_2a p0_0_2k p0_0_2n p0_0_2w) ++ (oX2 (p0a 7) p0_6a p0_6k p0_6n p0_6w p0_6l)) := hD.sub [6, 7, 8, 9, 10, 11, 12, 13, 14, 0, 1, 2, 3, 4, 5, 15, 16, 17, 18, 19, 20, 21, 22, 23, 24, 25, 26, 27, 28, 29, 30, 31, 32, 33, 34, 35, 36, 37, 38, 39, 40, 41, 42, 43, 44, 45, 46, 47, 48, 49, 50, 51, 52, 53, 54] (by decide) rfl
              have hK : va_K (dC, dI) cls ((tX0 p0k) ++ (tX9 p1k) ++ (tX1 p0_0k) ++ (tX9 p0_0_2k) ++ (tX2 p0_6k)) s := hK.sub [5, 6, 7, 8, 9, 10, 11, 12, 0, 1, 2, 3, 4, 13, 14, 15, 16, 17, 18, 19, 20, 21, 22, 23, 24, 25, 26, 27, 28, 29, 30, 31, 32, 33, 34, 35, 36, 37, 38, 39, 40, 41, 42, 43, 44, 45, 46, 47, 48, 49] rfl
              obtain rfl : o_6 = r7 := hw.symm
              have J53 : ∀ (y0_53 : Int32) (y1_53 : Int32) (H : Heap) (locs : List Loc) (ls : Array Slot), (fX0_writeCode_J53 (fX0_writeCode_L33 p0_0_2n p0_0_2w p0_6n p0_6w n_33) p0_0_2n p0_0_2w v4_33 y0_53 y1_53) = some o33 → va_P (dC, dI) cls ((oX0 (p0a 0) p0a p0k p0n w3) ++ (oX9 (p1a 0) p1a p1k p1n p1w) ++ (oX1 (p0a 1) p0_0a p0_0k p0_0n p0_0w p0_0l) ++ (oX9 (p0_0a 3) p0_0_2a p0_0_2k p0_0_2n p0_0_2w) ++ (oX2 (p0a 7) p0_6a p0_6k p0_6n p0_6w p0_6l)) H → va_D A ((oX0 (p0a 0) p0a p0k p0n w3) ++ (oX9 (p1a 0) p1a p1k p1n p1w) ++ (oX1 (p0a 1) p0_0a p0_0k p0_0n p0_0w p0_0l) ++ (oX9 (p0_0a 3) p0_0_2a p0_0_2k p0_0_2n p0_0_2w) ++ (oX2 (p0a 7) p0_6a p0_6k p0_6n p0_6w p0_6l)) → va_K (dC, dI) cls ((tX0 p0k) ++ (tX9 p1k) ++ (tX1 p0_0k) ++ (tX9 p0_0_2k) ++ (tX2 p0_6k)) s → va_S A s.heap H locs → lv_has ls 5 [(0, .ref (p0a 0)), (1, .ref (p1a 0)), (3, .int v3_4), (4, .int v4_33)] → glX9 p1n p1n → W p l e ({ frames := 4, cells := (gcX9 p1n (o.2.2)), slots := (3 * (gcX9 p1n (o.2.2))), locals := 114 } : Room) s m ([.ref (p0a 0), .ref (p1a 0)] : List Value).toArray below meth c H locs (gcX9 p1n p1n) (3 * (gcX9 p1n p1n)) Q (F0 m 53 ls [.int y0_53, .int y1_53]) := by
                intro y0_53 y1_53 H locs ls hrun hP hD hK hS hl hg_p1 
                unfold fX0_writeCode_J53 at hrun
                refine lv_iadd hx hb dX0_writeCode_53 ?_
                refine lv_istore_n (lv' := [(2, .int (y1_53 + y0_53)), (0, .ref (p0a 0)), (1, .ref (p1a 0)), (3, .int v3_4), (4, .int v4_33)]) hx hb dX0_writeCode_54 rfl hl (by decide) rfl (fun ls hl => ?_)
                refine lv_aload_n hx hb dX0_writeCode_55 rfl (lv_at hl 1 rfl) ?_
                refine va_get (D := (dC, dI)) (ci := 8) (v := .ref (p0a 1)) (C := RX0) (T := TX0) (N := 17) hx hb hts i_X0 hown hK hP 0 rfl rfl 0 (by decide) (hts _ qw618) (fun _ h9 => h9) rfl dX0_writeCode_56 ?_
                refine va_get (D := (dC, dI)) (ci := 4) (v := .ref (p0_0a 3)) (C := RX1) (T := TX1) (N := 21) hx hb hts i_X1 hown hK hP 15 rfl rfl 2 (by decide) (hts _ qw629) (fun _ h9 => h9) rfl dX0_writeCode_59 ?_
                refine va_get (D := (dC, dI)) (ci := 3) (v := .ref (p0_0_2a 6)) (C := RX9) (T := TX9) (N := 6) hx hb hts i_X9 hown hK hP 33 rfl rfl 5 (by decide) (hts _ qw795) (fun _ h9 => h9) rfl dX0_writeCode_62 ?_
                refine lv_iload hx hb dX0_writeCode_65 (lv_at hl 4 rfl) ?_
                obtain ⟨hq8, hrun⟩ := chk9 hrun
                refine va_iald hx hb hK hP 38 34 rfl rfl (ixb_in hq8) dX0_writeCode_67 ?_
                refine lv_istore (lv' := [(4, .int (p0_0_2w 6 (nn v4_33))), (2, .int (y1_53 + y0_53)), (0, .ref (p0a 0)), (1, .ref (p1a 0)), (3, .int v3_4)]) hx hb dX0_writeCode_68 hl (by decide) rfl (fun ls hl => ?_)
                refine lv_goto (tgt := 33) hx hb dX0_writeCode_70 (by decide) ?_
                exact IH33 (y1_53 + y0_53) (p0_0_2w 6 (nn v4_33)) o33 _ _ _ hrun hP hD hK hS (lv_sub hl [2, 3, 1, 4, 0] rfl) hg_p1 hk33
              rcases br9 hrun with ⟨hc9, hrun⟩ | ⟨hc9, hrun⟩
              · refine lv_if_eq (tgt := 52) hx hb dX0_writeCode_45 (by decide) (fun _ => ?_) (fun c => absurd hc9 c)
                refine lv_iconst (v := 1) hx hb dX0_writeCode_52 (by decide) ?_
                exact J53 1 v2_33 _ _ _ hrun hP hD hK hS (lv_sub hl [0, 1, 3, 4] rfl) hg_p1
              · refine lv_if_eq (tgt := 52) hx hb dX0_writeCode_45 (by decide) (fun c => absurd c hc9) (fun _ => ?_)
                refine lv_iconst (v := 0) hx hb dX0_writeCode_48 (by decide) ?_
                refine lv_goto (tgt := 53) hx hb dX0_writeCode_49 (by decide) ?_
                exact J53 0 v2_33 _ _ _ hrun hP hD hK hS (lv_sub hl [0, 1, 3, 4] rfl) hg_p1
        obtain ⟨o33, hc33, hrun⟩ := bnd9 hrun
        refine L33 NF v2_4 (p0_0w 4 (nn v3_4)) o33 _ _ _ hc33 hP hD hK hS (lv_sub hl [1, 2, 3, 4, 0] rfl) hg_p1 ?_
        intro H locs ls hP hD hK hS hl hg_p1
        have hl := hl
        refine lv_iload_n hx hb dX0_writeCode_73 rfl (lv_at hl 2 rfl) ?_
        refine lv_aload_n hx hb dX0_writeCode_74 rfl (lv_at hl 0 rfl) ?_
        refine lv_iload_n hx hb dX0_writeCode_75 rfl (lv_at hl 3 rfl) ?_
        obtain ⟨o_10, hc_10, hrun⟩ := bnd9 hrun
        have hPc := hP.sub (ws' := ((oX0 (p0a 0) p0a p0k p0n w3) ++ (oX1 (p0a 1) p0_0a p0_0k p0_0n p0_0w p0_0l))) [0, 1, 2, 3, 4, 5, 6, 7, 8, 15, 16, 17, 18, 19, 20, 21, 22, 23, 24, 25, 26, 27, 28, 29, 30, 31, 32] rfl
        have hDc := hD.sub (ws' := ((oX0 (p0a 0) p0a p0k p0n w3) ++ (oX1 (p0a 1) p0_0a p0_0k p0_0n p0_0w p0_0l))) [0, 1, 2, 3, 4, 5, 6, 7, 8, 15, 16, 17, 18, 19, 20, 21, 22, 23, 24, 25, 26, 27, 28, 29, 30, 31, 32] (by decide) rfl
        have hKc := hK.sub (tys' := ((tX0 p0k) ++ (tX1 p0_0k))) [0, 1, 2, 3, 4, 5, 6, 7, 13, 14, 15, 16, 17, 18, 19, 20, 21, 22, 23, 24, 25, 26, 27, 28, 29] rfl
        have hFc := va_free (wc := ((oX0 (p0a 0) p0a p0k p0n w3) ++ (oX1 (p0a 1) p0_0a p0_0k p0_0n p0_0w p0_0l))) hD hS hA [0, 1, 2, 3, 4, 5, 6, 7, 8, 15, 16, 17, 18, 19, 20, 21, 22, 23, 24, 25, 26, 27, 28, 29, 30, 31, 32] rfl
        refine va_calli (va_runV (As := [.int v3_4]) (rest := [.int o33]) ⟨hx, hb, hml, hown, hts⟩ (kX0_endLines l dC dI (p0a := (st0 (p0a 0) p0a)) (p0k := p0k) (p0n := p0n) (p0w := w3) (p1 := v3_4) (p0_0a := p0_0a) (p0_0k := p0_0k) (p0_0n := p0_0n) (p0_0w := p0_0w) (p0_0l := p0_0l) (sz := _) (o := o_10) (hrun := hc_10)) (cwV 1 hts (gi_V qw862 qw863 qw864 qw653 (gi_z qw861)) rfl rfl rfl (by decide +kernel) ⟨Nat.le_of_ble_eq_true rfl, Nat.le_of_ble_eq_true rfl⟩) ⟨PRE.blind, va_recv hKc hPc (ci := 8) (q0 := 0) rfl rfl, PRE.of hE hS hFc hPc hKc hDc⟩ rfl rfl hl.1 rfl (lv_room (Nat.le_of_ble_eq_true rfl)) dX0_writeCode_76 ⟨(show (gcX9 p1n p1n) + 0 ≤ (gcX9 p1n (o.2.2)) from by have q0 := gmX9 hg_p1 hgn_p1; omega), (show (3 * (gcX9 p1n p1n)) + 0 ≤ (3 * (gcX9 p1n (o.2.2))) from by have q0 := gmX9 hg_p1 hgn_p1; omega)⟩) hS (fun q _ h => hFc q h) hFc (fun r11 u t H locs ht hvm hw hB hz1 hk1 hS => ?_)
        obtain ⟨hP, hD, hK⟩ := JOIN (wr := ((oX9 (p1a 0) p1a p1k p1n p1w) ++ (oX9 (p0_0a 3) p0_0_2a p0_0_2k p0_0_2n p0_0_2w) ++ (oX2 (p0a 7) p0_6a p0_6k p0_6n p0_6w p0_6l))) hP hD hK [0, 1, 2, 3, 4, 5, 6, 7, 8, 15, 16, 17, 18, 19, 20, 21, 22, 23, 24, 25, 26, 27, 28, 29, 30, 31, 32] [9, 10, 11, 12, 13, 14, 33, 34, 35, 36, 37, 38, 39, 40, 41, 42, 43, 44, 45, 46, 47, 48, 49, 50, 51, 52, 53, 54] [8, 9, 10, 11, 12, 30, 31, 32, 33, 34, 35, 36, 37, 38, 39, 40, 41, 42, 43, 44, 45, 46, 47, 48, 49] rfl rfl (by decide) (by decide) rfl hk1 hFc ht hvm hB
        have hP : va_P (dC, dI) cls ((oX0 (p0a 0) p0a p0k p0n w3) ++ (oX9 (p1a 0) p1a p1k p1n p1w) ++ (oX1 (p0a 1) p0_0a p0_0k p0_0n p0_0w p0_0l) ++ (oX9 (p0_0a 3) p0_0_2a p0_0_2k p0_0_2n p0_0_2w) ++ (oX2 (p0a 7) p0_6a p0_6k p0_6n p0_6w p0_6l)) H := hP.sub [28, 29, 30, 31, 32, 33, 34, 35, 36, 0, 1, 2, 3, 4, 5, 37, 38, 39, 40, 41, 42, 43, 44, 45, 46, 47, 48, 49, 50, 51, 52, 53, 54, 6, 7, 8, 9, 10, 11, 12, 13, 14, 15, 16, 17, 18, 19, 20, 21, 22, 23, 24, 25, 26, 27] rfl
        have hD : va_D A ((oX0 (p0a 0) p0a p0k p0n w3) ++ (oX9 (p1a 0) p1a p1k p1n p1w) ++ (oX1 (p0a 1) p0_0a p0_0k p0_0n p0_0w p0_0l) ++ (oX9 (p0_0a 3) p0_0_2a p0_0_2k p0_0_2n p0_0_2w) ++ (oX2 (p0a 7) p0_6a p0_6k p0_6n p0_6w p0_6l)) := hD.sub [28, 29, 30, 31, 32, 33, 34, 35, 36, 0, 1, 2, 3, 4, 5, 37, 38, 39, 40, 41, 42, 43, 44, 45, 46, 47, 48, 49, 50, 51, 52, 53, 54, 6, 7, 8, 9, 10, 11, 12, 13, 14, 15, 16, 17, 18, 19, 20, 21, 22, 23, 24, 25, 26, 27] (by decide) rfl
        have hK : va_K (dC, dI) cls ((tX0 p0k) ++ (tX9 p1k) ++ (tX1 p0_0k) ++ (tX9 p0_0_2k) ++ (tX2 p0_6k)) s := hK.sub [25, 26, 27, 28, 29, 30, 31, 32, 0, 1, 2, 3, 4, 33, 34, 35, 36, 37, 38, 39, 40, 41, 42, 43, 44, 45, 46, 47, 48, 49, 5, 6, 7, 8, 9, 10, 11, 12, 13, 14, 15, 16, 17, 18, 19, 20, 21, 22, 23, 24] rfl
        obtain rfl : o_10 = r11 := hw.symm
        refine lv_iadd hx hb dX0_writeCode_79 ?_
        refine lv_istore_n (lv' := [(2, .int (o33 + o_10)), (0, .ref (p0a 0)), (1, .ref (p1a 0)), (3, .int v3_4)]) hx hb dX0_writeCode_80 rfl hl (by decide) rfl (fun ls hl => ?_)
        refine lv_iinc (v := (v3_4 + 1)) (lv' := [(3, .int (v3_4 + 1)), (2, .int (o33 + o_10)), (0, .ref (p0a 0)), (1, .ref (p1a 0))]) hx hb dX0_writeCode_81 hl (k := 3) rfl rfl (by decide) rfl (fun ls hl => ?_)
        refine lv_goto (tgt := 4) hx hb dX0_writeCode_84 (by decide) ?_
        exact IH4 (o33 + o_10) (v3_4 + 1) w3 o4 _ _ _ hrun hP hD hK hS (lv_sub hl [2, 3, 1, 0] rfl) hg_p1 hk4
  obtain ⟨o4, hc4, hrun⟩ := bnd9 hrun
  refine L4 NF 0 0 p0w o4 _ _ _ hc4 hP hD hK hS (lv_sub hl [2, 3, 1, 0] rfl) hg_p1 ?_
  intro H locs ls hP hD hK hS hl hg_p1
  have hl := hl
  refine lv_aload_n hx hb dX0_writeCode_87 rfl (lv_at hl 1 rfl) ?_
  refine lv_iconst (v := 0) hx hb dX0_writeCode_88 (by decide) ?_
  refine va_put (D := (dC, dI)) (ci := 3) (v := .int 0) (ty := .int) (C := RX9) (T := TX9) (N := 6) hx hb hts i_X9 tyX9 tyX9_ok nmX9 hown hK hP hD hS 9 rfl rfl 0 (by decide) (hts _ qw865) (fun _ h9 => h9) rfl (by decide +kernel) rfl rfl (Nat.le_of_ble_eq_true rfl) dX0_writeCode_89 (fun H locs hP hD hS => ?_)
  have hP : va_P (dC, dI) cls ((oX0 (p0a 0) p0a p0k p0n o4) ++ (oX9 (p1a 0) p1a p1k p1n (upw p1w 0 0 0)) ++ (oX1 (p0a 1) p0_0a p0_0k p0_0n p0_0w p0_0l) ++ (oX9 (p0_0a 3) p0_0_2a p0_0_2k p0_0_2n p0_0_2w) ++ (oX2 (p0a 7) p0_6a p0_6k p0_6n p0_6w p0_6l)) H := hP
  have hD : va_D A ((oX0 (p0a 0) p0a p0k p0n o4) ++ (oX9 (p1a 0) p1a p1k p1n (upw p1w 0 0 0)) ++ (oX1 (p0a 1) p0_0a p0_0k p0_0n p0_0w p0_0l) ++ (oX9 (p0_0a 3) p0_0_2a p0_0_2k p0_0_2n p0_0_2w) ++ (oX2 (p0a 7) p0_6a p0_6k p0_6n p0_6w p0_6l)) := hD
  obtain ⟨w12, ew12, hrun⟩ := let9 hrun
  rw [← ew12] at hP hD
  refine lv_iconst (v := 0) hx hb dX0_writeCode_92 (by decide) ?_
  refine lv_istore_n (lv' := [(3, .int 0), (0, .ref (p0a 0)), (1, .ref (p1a 0))]) hx hb dX0_writeCode_93 rfl hl (by decide) rfl (fun ls hl => ?_)
  obtain ⟨o94, hc94, hrun⟩ := bnd9 hrun
  have hgn_p1 : glX9 (o94.2) (o.2.2) := (mo_fX0_writeCode_G167_45 hrun)
  have L94 : ∀ (n_94 : Nat) (v3_94 : Int32) (p1w_94 : ST) (p1n_94 : Nat → Nat) (xp1_1_94 : Nat) (zp1_1_94 : ClassId) (xp1_2_94 : Nat) (zp1_2_94 : ClassId) (xp1_3_94 : Nat) (zp1_3_94 : ClassId) (xp1_4_94 : Nat) (zp1_4_94 : ClassId) (xp1_5_94 : Nat) (zp1_5_94 : ClassId) (o94 : ST × (Nat → Nat)) (H : Heap) (locs : List Loc) (ls : Array Slot), (fX0_writeCode_L94 p0_0w p0_0_2n p0_0_2w p0_6n p0_6w o4 n_94) v3_94 p1w_94 p1n_94 = some o94 → va_P (dC, dI) cls ((oX0 (p0a 0) p0a p0k p0n o4) ++ (oX9 (p1a 0) (st1 (st1 (st1 (st1 (st1 p1a 2 xp1_1_94) 3 xp1_2_94) 4 xp1_3_94) 5 xp1_4_94) 6 xp1_5_94) (st1 (st1 (st1 (st1 (st1 p1k 2 zp1_1_94) 3 zp1_2_94) 4 zp1_3_94) 5 zp1_4_94) 6 zp1_5_94) p1n_94 p1w_94) ++ (oX1 (p0a 1) p0_0a p0_0k p0_0n p0_0w p0_0l) ++ (oX9 (p0_0a 3) p0_0_2a p0_0_2k p0_0_2n p0_0_2w) ++ (oX2 (p0a 7) p0_6a p0_6k p0_6n p0_6w p0_6l)) H → va_D A ((oX0 (p0a 0) p0a p0k p0n o4) ++ (oX9 (p1a 0) (st1 (st1 (st1 (st1 (st1 p1a 2 xp1_1_94) 3 xp1_2_94) 4 xp1_3_94) 5 xp1_4_94) 6 xp1_5_94) (st1 (st1 (st1 (st1 (st1 p1k 2 zp1_1_94) 3 zp1_2_94) 4 zp1_3_94) 5 zp1_4_94) 6 zp1_5_94) p1n_94 p1w_94) ++ (oX1 (p0a 1) p0_0a p0_0k p0_0n p0_0w p0_0l) ++ (oX9 (p0_0a 3) p0_0_2a p0_0_2k p0_0_2n p0_0_2w) ++ (oX2 (p0a 7) p0_6a p0_6k p0_6n p0_6w p0_6l)) → va_K (dC, dI) cls ((tX0 p0k) ++ (tX9 (st1 (st1 (st1 (st1 (st1 p1k 2 zp1_1_94) 3 zp1_2_94) 4 zp1_3_94) 5 zp1_4_94) 6 zp1_5_94)) ++ (tX1 p0_0k) ++ (tX9 p0_0_2k) ++ (tX2 p0_6k)) s → va_S A s.heap H locs → lv_has ls 5 [(0, .ref (p0a 0)), (1, .ref (p1a 0)), (3, .int v3_94)] → glX9 p1n p1n_94 → glX9 (o94.2) (o.2.2) → (∀ (xp1_1_94x : Nat) (zp1_1_94x : ClassId) (xp1_2_94x : Nat) (zp1_2_94x : ClassId) (xp1_3_94x : Nat) (zp1_3_94x : ClassId) (xp1_4_94x : Nat) (zp1_4_94x : ClassId) (xp1_5_94x : Nat) (zp1_5_94x : ClassId) (H : Heap) (locs : List Loc) (ls : Array Slot), va_P (dC, dI) cls ((oX0 (p0a 0) p0a p0k p0n o4) ++ (oX9 (p1a 0) (st1 (st1 (st1 (st1 (st1 p1a 2 xp1_1_94x) 3 xp1_2_94x) 4 xp1_3_94x) 5 xp1_4_94x) 6 xp1_5_94x) (st1 (st1 (st1 (st1 (st1 p1k 2 zp1_1_94x) 3 zp1_2_94x) 4 zp1_3_94x) 5 zp1_4_94x) 6 zp1_5_94x) (o94.2) (o94.1)) ++ (oX1 (p0a 1) p0_0a p0_0k p0_0n p0_0w p0_0l) ++ (oX9 (p0_0a 3) p0_0_2a p0_0_2k p0_0_2n p0_0_2w) ++ (oX2 (p0a 7) p0_6a p0_6k p0_6n p0_6w p0_6l)) H → va_D A ((oX0 (p0a 0) p0a p0k p0n o4) ++ (oX9 (p1a 0) (st1 (st1 (st1 (st1 (st1 p1a 2 xp1_1_94x) 3 xp1_2_94x) 4 xp1_3_94x) 5 xp1_4_94x) 6 xp1_5_94x) (st1 (st1 (st1 (st1 (st1 p1k 2 zp1_1_94x) 3 zp1_2_94x) 4 zp1_3_94x) 5 zp1_4_94x) 6 zp1_5_94x) (o94.2) (o94.1)) ++ (oX1 (p0a 1) p0_0a p0_0k p0_0n p0_0w p0_0l) ++ (oX9 (p0_0a 3) p0_0_2a p0_0_2k p0_0_2n p0_0_2w) ++ (oX2 (p0a 7) p0_6a p0_6k p0_6n p0_6w p0_6l)) → va_K (dC, dI) cls ((tX0 p0k) ++ (tX9 (st1 (st1 (st1 (st1 (st1 p1k 2 zp1_1_94x) 3 zp1_2_94x) 4 zp1_3_94x) 5 zp1_4_94x) 6 zp1_5_94x)) ++ (tX1 p0_0k) ++ (tX9 p0_0_2k) ++ (tX2 p0_6k)) s → va_S A s.heap H locs → lv_has ls 5 [] → glX9 p1n (o94.2) → W p l e ({ frames := 4, cells := (gcX9 p1n (o.2.2)), slots := (3 * (gcX9 p1n (o.2.2))), locals := 114 } : Room) s m ([.ref (p0a 0), .ref (p1a 0)] : List Value).toArray below meth c H locs (gcX9 p1n (o94.2)) (3 * (gcX9 p1n (o94.2))) Q (F0 m 167 ls [])) → W p l e ({ frames := 4, cells := (gcX9 p1n (o.2.2)), slots := (3 * (gcX9 p1n (o.2.2))), locals := 114 } : Room) s m ([.ref (p0a 0), .ref (p1a 0)] : List Value).toArray below meth c H locs (gcX9 p1n p1n_94) (3 * (gcX9 p1n p1n_94)) Q (F0 m 94 ls []) := by
    intro n_94
    induction n_94 with
    | zero => intro v3_94 p1w_94 p1n_94 xp1_1_94 zp1_1_94 xp1_2_94 zp1_2_94 xp1_3_94 zp1_3_94 xp1_4_94 zp1_4_94 xp1_5_94 zp1_5_94 o94 H locs ls hrun; exact (no9 rfl hrun).elim
    | succ n_94 IH94 =>
      intro v3_94 p1w_94 p1n_94 xp1_1_94 zp1_1_94 xp1_2_94 zp1_2_94 xp1_3_94 zp1_3_94 xp1_4_94 zp1_4_94 xp1_5_94 zp1_5_94 o94 H locs ls hrun hP hD hK hS hl hg_p1 hgo_p1 hk94
      have hgn_p1 : glX9 p1n_94 (o.2.2) := (glX9_tr (mo_fX0_writeCode_L94 (n_94 + 1) _ _ _ _ hrun) hgo_p1)
      unfold fX0_writeCode_L94 at hrun
      refine lv_iload_n hx hb dX0_writeCode_94 rfl (lv_at hl 2 rfl) ?_
      refine lv_aload_n hx hb dX0_writeCode_95 rfl (lv_at hl 0 rfl) ?_
      refine va_get (D := (dC, dI)) (ci := 8) (v := .ref (p0a 1)) (C := RX0) (T := TX0) (N := 17) hx hb hts i_X0 hown hK hP 0 rfl rfl 0 (by decide) (hts _ qw618) (fun _ h9 => h9) rfl dX0_writeCode_96 ?_
      refine va_get (D := (dC, dI)) (ci := 4) (v := .int (p0_0w 0 0)) (C := RX1) (T := TX1) (N := 21) hx hb hts i_X1 hown hK hP 15 rfl rfl 0 (by decide) (hts _ qw642) (fun _ h9 => h9) rfl dX0_writeCode_99 ?_
      rcases br9 hrun with ⟨hc13, hrun⟩ | ⟨hc13, hrun⟩
      · refine lv_icmp_ge (tgt := 167) hx hb dX0_writeCode_102 (by decide) (fun _ => ?_) (fun c => absurd hc13 c)
        obtain rfl := (Option.some.inj hrun)
        exact hk94 xp1_1_94 zp1_1_94 xp1_2_94 zp1_2_94 xp1_3_94 zp1_3_94 xp1_4_94 zp1_4_94 xp1_5_94 zp1_5_94 _ _ _ hP hD hK hS (lv_sub hl [] rfl) hg_p1
      · refine lv_icmp_ge (tgt := 167) hx hb dX0_writeCode_102 (by decide) (fun c => absurd c hc13) (fun _ => ?_)
        refine lv_aload_n hx hb dX0_writeCode_105 rfl (lv_at hl 0 rfl) ?_
        refine va_get (D := (dC, dI)) (ci := 8) (v := .ref (p0a 1)) (C := RX0) (T := TX0) (N := 17) hx hb hts i_X0 hown hK hP 0 rfl rfl 0 (by decide) (hts _ qw618) (fun _ h9 => h9) rfl dX0_writeCode_106 ?_
        refine va_get (D := (dC, dI)) (ci := 4) (v := .ref (p0_0a 4)) (C := RX1) (T := TX1) (N := 21) hx hb hts i_X1 hown hK hP 15 rfl rfl 3 (by decide) (hts _ qw789) (fun _ h9 => h9) rfl dX0_writeCode_109 ?_
        refine lv_iload_n hx hb dX0_writeCode_112 rfl (lv_at hl 2 rfl) ?_
        obtain ⟨hq14, hrun⟩ := chk9 hrun
        refine va_iald hx hb hK hP 16 13 rfl rfl (ixb_in hq14) dX0_writeCode_113 ?_
        refine lv_istore (lv' := [(4, .int (p0_0w 4 (nn v3_94))), (0, .ref (p0a 0)), (1, .ref (p1a 0)), (3, .int v3_94)]) hx hb dX0_writeCode_114 hl (by decide) rfl (fun ls hl => ?_)
        obtain ⟨o116, hc116, hrun⟩ := bnd9 hrun
        have hgn_p1 : glX9 (o116.2) (o.2.2) := (glX9_tr (mo_fX0_writeCode_G155_32 (mo_fX0_writeCode_L94 n_94) hrun) hgo_p1)
        have L116 : ∀ (n_116 : Nat) (v4_116 : Int32) (p1w_116 : ST) (p1n_116 : Nat → Nat) (xp1_1_116 : Nat) (zp1_1_116 : ClassId) (xp1_2_116 : Nat) (zp1_2_116 : ClassId) (xp1_3_116 : Nat) (zp1_3_116 : ClassId) (xp1_4_116 : Nat) (zp1_4_116 : ClassId) (xp1_5_116 : Nat) (zp1_5_116 : ClassId) (o116 : ST × (Nat → Nat)) (H : Heap) (locs : List Loc) (ls : Array Slot), (fX0_writeCode_L116 p0_0_2n p0_0_2w p0_6n p0_6w n_116) v4_116 p1w_116 p1n_116 = some o116 → va_P (dC, dI) cls ((oX0 (p0a 0) p0a p0k p0n o4) ++ (oX9 (p1a 0) (st1 (st1 (st1 (st1 (st1 p1a 2 xp1_1_116) 3 xp1_2_116) 4 xp1_3_116) 5 xp1_4_116) 6 xp1_5_116) (st1 (st1 (st1 (st1 (st1 p1k 2 zp1_1_116) 3 zp1_2_116) 4 zp1_3_116) 5 zp1_4_116) 6 zp1_5_116) p1n_116 p1w_116) ++ (oX1 (p0a 1) p0_0a p0_0k p0_0n p0_0w p0_0l) ++ (oX9 (p0_0a 3) p0_0_2a p0_0_2k p0_0_2n p0_0_2w) ++ (oX2 (p0a 7) p0_6a p0_6k p0_6n p0_6w p0_6l)) H → va_D A ((oX0 (p0a 0) p0a p0k p0n o4) ++ (oX9 (p1a 0) (st1 (st1 (st1 (st1 (st1 p1a 2 xp1_1_116) 3 xp1_2_116) 4 xp1_3_116) 5 xp1_4_116) 6 xp1_5_116) (st1 (st1 (st1 (st1 (st1 p1k 2 zp1_1_116) 3 zp1_2_116) 4 zp1_3_116) 5 zp1_4_116) 6 zp1_5_116) p1n_116 p1w_116) ++ (oX1 (p0a 1) p0_0a p0_0k p0_0n p0_0w p0_0l) ++ (oX9 (p0_0a 3) p0_0_2a p0_0_2k p0_0_2n p0_0_2w) ++ (oX2 (p0a 7) p0_6a p0_6k p0_6n p0_6w p0_6l)) → va_K (dC, dI) cls ((tX0 p0k) ++ (tX9 (st1 (st1 (st1 (st1 (st1 p1k 2 zp1_1_116) 3 zp1_2_116) 4 zp1_3_116) 5 zp1_4_116) 6 zp1_5_116)) ++ (tX1 p0_0k) ++ (tX9 p0_0_2k) ++ (tX2 p0_6k)) s → va_S A s.heap H locs → lv_has ls 5 [(0, .ref (p0a 0)), (1, .ref (p1a 0)), (3, .int v3_94), (4, .int v4_116)] → glX9 p1n p1n_116 → glX9 (o116.2) (o.2.2) → (∀ (xp1_1_116x : Nat) (zp1_1_116x : ClassId) (xp1_2_116x : Nat) (zp1_2_116x : ClassId) (xp1_3_116x : Nat) (zp1_3_116x : ClassId) (xp1_4_116x : Nat) (zp1_4_116x : ClassId) (xp1_5_116x : Nat) (zp1_5_116x : ClassId) (H : Heap) (locs : List Loc) (ls : Array Slot), va_P (dC, dI) cls ((oX0 (p0a 0) p0a p0k p0n o4) ++ (oX9 (p1a 0) (st1 (st1 (st1 (st1 (st1 p1a 2 xp1_1_116x) 3 xp1_2_116x) 4 xp1_3_116x) 5 xp1_4_116x) 6 xp1_5_116x) (st1 (st1 (st1 (st1 (st1 p1k 2 zp1_1_116x) 3 zp1_2_116x) 4 zp1_3_116x) 5 zp1_4_116x) 6 zp1_5_116x) (o116.2) (o116.1)) ++ (oX1 (p0a 1) p0_0a p0_0k p0_0n p0_0w p0_0l) ++ (oX9 (p0_0a 3) p0_0_2a p0_0_2k p0_0_2n p0_0_2w) ++ (oX2 (p0a 7) p0_6a p0_6k p0_6n p0_6w p0_6l)) H → va_D A ((oX0 (p0a 0) p0a p0k p0n o4) ++ (oX9 (p1a 0) (st1 (st1 (st1 (st1 (st1 p1a 2 xp1_1_116x) 3 xp1_2_116x) 4 xp1_3_116x) 5 xp1_4_116x) 6 xp1_5_116x) (st1 (st1 (st1 (st1 (st1 p1k 2 zp1_1_116x) 3 zp1_2_116x) 4 zp1_3_116x) 5 zp1_4_116x) 6 zp1_5_116x) (o116.2) (o116.1)) ++ (oX1 (p0a 1) p0_0a p0_0k p0_0n p0_0w p0_0l) ++ (oX9 (p0_0a 3) p0_0_2a p0_0_2k p0_0_2n p0_0_2w) ++ (oX2 (p0a 7) p0_6a p0_6k p0_6n p0_6w p0_6l)) → va_K (dC, dI) cls ((tX0 p0k) ++ (tX9 (st1 (st1 (st1 (st1 (st1 p1k 2 zp1_1_116x) 3 zp1_2_116x) 4 zp1_3_116x) 5 zp1_4_116x) 6 zp1_5_116x)) ++ (tX1 p0_0k) ++ (tX9 p0_0_2k) ++ (tX2 p0_6k)) s → va_S A s.heap H locs → lv_has ls 5 [(0, .ref (p0a 0)), (1, .ref (p1a 0)), (3, .int v3_94)] → glX9 p1n (o116.2) → W p l e ({ frames := 4, cells := (gcX9 p1n (o.2.2)), slots := (3 * (gcX9 p1n (o.2.2))), locals := 114 } : Room) s m ([.ref (p0a 0), .ref (p1a 0)] : List Value).toArray below meth c H locs (gcX9 p1n (o116.2)) (3 * (gcX9 p1n (o116.2))) Q (F0 m 155 ls [])) → W p l e ({ frames := 4, cells := (gcX9 p1n (o.2.2)), slots := (3 * (gcX9 p1n (o.2.2))), locals := 114 } : Room) s m ([.ref (p0a 0), .ref (p1a 0)] : List Value).toArray below meth c H locs (gcX9 p1n p1n_116) (3 * (gcX9 p1n p1n_116)) Q (F0 m 116 ls []) := by
          intro n_116
          induction n_116 with
          | zero => intro v4_116 p1w_116 p1n_116 xp1_1_116 zp1_1_116 xp1_2_116 zp1_2_116 xp1_3_116 zp1_3_116 xp1_4_116 zp1_4_116 xp1_5_116 zp1_5_116 o116 H locs ls hrun; exact (no9 rfl hrun).elim
          | succ n_116 IH116 =>
            intro v4_116 p1w_116 p1n_116 xp1_1_116 zp1_1_116 xp1_2_116 zp1_2_116 xp1_3_116 zp1_3_116 xp1_4_116 zp1_4_116 xp1_5_116 zp1_5_116 o116 H locs ls hrun hP hD hK hS hl hg_p1 hgo_p1 hk116
            have hgn_p1 : glX9 p1n_116 (o.2.2) := (glX9_tr (mo_fX0_writeCode_L116 (n_116 + 1) _ _ _ _ hrun) hgo_p1)
            unfold fX0_writeCode_L116 at hrun
            refine lv_iload hx hb dX0_writeCode_116 (lv_at hl 3 rfl) ?_
            rcases br9 hrun with ⟨hc15, hrun⟩ | ⟨hc15, hrun⟩
            · refine lv_if_lt (tgt := 155) hx hb dX0_writeCode_118 (by decide) (fun _ => ?_) (fun c => absurd hc15 c)
              obtain rfl := (Option.some.inj hrun)
              exact hk116 xp1_1_116 zp1_1_116 xp1_2_116 zp1_2_116 xp1_3_116 zp1_3_116 xp1_4_116 zp1_4_116 xp1_5_116 zp1_5_116 _ _ _ hP hD hK hS (lv_sub hl [0, 1, 2] rfl) hg_p1
            · refine lv_if_lt (tgt := 155) hx hb dX0_writeCode_118 (by decide) (fun c => absurd c hc15) (fun _ => ?_)
              refine lv_aload_n hx hb dX0_writeCode_121 rfl (lv_at hl 0 rfl) ?_
              refine lv_iload hx hb dX0_writeCode_122 (lv_at hl 3 rfl) ?_
              obtain ⟨o_16, hc_16, hrun⟩ := bnd9 hrun
              have hPc := hP.sub (ws' := ((oX0 (p0a 0) p0a p0k p0n o4) ++ (oX1 (p0a 1) p0_0a p0_0k p0_0n p0_0w p0_0l) ++ (oX9 (p0_0a 3) p0_0_2a p0_0_2k p0_0_2n p0_0_2w) ++ (oX2 (p0a 7) p0_6a p0_6k p0_6n p0_6w p0_6l))) [0, 1, 2, 3, 4, 5, 6, 7, 8, 15, 16, 17, 18, 19, 20, 21, 22, 23, 24, 25, 26, 27, 28, 29, 30, 31, 32, 33, 34, 35, 36, 37, 38, 39, 40, 41, 42, 43, 44, 45, 46, 47, 48, 49, 50, 51, 52, 53, 54] rfl
              have hDc := hD.sub (ws' := ((oX0 (p0a 0) p0a p0k p0n o4) ++ (oX1 (p0a 1) p0_0a p0_0k p0_0n p0_0w p0_0l) ++ (oX9 (p0_0a 3) p0_0_2a p0_0_2k p0_0_2n p0_0_2w) ++ (oX2 (p0a 7) p0_6a p0_6k p0_6n p0_6w p0_6l))) [0, 1, 2, 3, 4, 5, 6, 7, 8, 15, 16, 17, 18, 19, 20, 21, 22, 23, 24, 25, 26, 27, 28, 29, 30, 31, 32, 33, 34, 35, 36, 37, 38, 39, 40, 41, 42, 43, 44, 45, 46, 47, 48, 49, 50, 51, 52, 53, 54] (by decide) rfl
              have hKc := hK.sub (tys' := ((tX0 p0k) ++ (tX1 p0_0k) ++ (tX9 p0_0_2k) ++ (tX2 p0_6k))) [0, 1, 2, 3, 4, 5, 6, 7, 13, 14, 15, 16, 17, 18, 19, 20, 21, 22, 23, 24, 25, 26, 27, 28, 29, 30, 31, 32, 33, 34, 35, 36, 37, 38, 39, 40, 41, 42, 43, 44, 45, 46, 47, 48, 49] rfl
              have hFc := va_free (wc := ((oX0 (p0a 0) p0a p0k p0n o4) ++ (oX1 (p0a 1) p0_0a p0_0k p0_0n p0_0w p0_0l) ++ (oX9 (p0_0a 3) p0_0_2a p0_0_2k p0_0_2n p0_0_2w) ++ (oX2 (p0a 7) p0_6a p0_6k p0_6n p0_6w p0_6l))) hD hS hA [0, 1, 2, 3, 4, 5, 6, 7, 8, 15, 16, 17, 18, 19, 20, 21, 22, 23, 24, 25, 26, 27, 28, 29, 30, 31, 32, 33, 34, 35, 36, 37, 38, 39, 40, 41, 42, 43, 44, 45, 46, 47, 48, 49, 50, 51, 52, 53, 54] rfl
              refine va_calli (va_runV (As := [.int v4_116]) (rest := []) ⟨hx, hb, hml, hown, hts⟩ (kX0_isIdle l dC dI (p0a := (st0 (p0a 0) p0a)) (p0k := p0k) (p0n := p0n) (p0w := o4) (p1 := v4_116) (p0_0a := p0_0a) (p0_0k := p0_0k) (p0_0n := p0_0n) (p0_0w := p0_0w) (p0_0l := p0_0l) (p0_0_2a := p0_0_2a) (p0_0_2k := p0_0_2k) (p0_0_2n := p0_0_2n) (p0_0_2w := p0_0_2w) (p0_6a := p0_6a) (p0_6k := p0_6k) (p0_6n := p0_6n) (p0_6w := p0_6w) (p0_6l := p0_6l) (sz := _) (o := o_16) (hrun := hc_16)) (cwV 1 hts (gi_V qw858 qw859 qw860 qw653 (gi_z qw857)) rfl rfl rfl (by decide +kernel) ⟨Nat.le_of_ble_eq_true rfl, Nat.le_of_ble_eq_true rfl⟩) ⟨PRE.blind, va_recv hKc hPc (ci := 8) (q0 := 0) rfl rfl, PRE.of hE hS hFc hPc hKc hDc⟩ rfl rfl hl.1 rfl (lv_room (Nat.le_of_ble_eq_true rfl)) dX0_writeCode_124 ⟨(show (gcX9 p1n p1n_116) + 0 ≤ (gcX9 p1n (o.2.2)) from by have q0 := gmX9 hg_p1 hgn_p1; omega), (show (3 * (gcX9 p1n p1n_116)) + 0 ≤ (3 * (gcX9 p1n (o.2.2))) from by have q0 := gmX9 hg_p1 hgn_p1; omega)⟩) hS (fun q _ h => hFc q h) hFc (fun r17 u t H locs ht hvm hw hB hz1 hk1 hS => ?_)
              obtain ⟨hP, hD, hK⟩ := JOIN (wr := (oX9 (p1a 0) (st1 (st1 (st1 (st1 (st1 p1a 2 xp1_1_116) 3 xp1_2_116) 4 xp1_3_116) 5 xp1_4_116) 6 xp1_5_116) (st1 (st1 (st1 (st1 (st1 p1k 2 zp1_1_116) 3 zp1_2_116) 4 zp1_3_116) 5 zp1_4_116) 6 zp1_5_116) p1n_116 p1w_116)) hP hD hK [0, 1, 2, 3, 4, 5, 6, 7, 8, 15, 16, 17, 18, 19, 20, 21, 22, 23, 24, 25, 26, 27, 28, 29, 30, 31, 32, 33, 34, 35, 36, 37, 38, 39, 40, 41, 42, 43, 44, 45, 46, 47, 48, 49, 50, 51, 52, 53, 54] [9, 10, 11, 12, 13, 14] [8, 9, 10, 11, 12] rfl rfl (by decide) (by decide) rfl hk1 hFc ht hvm hB
              have hP : va_P (dC, dI) cls ((oX0 (p0a 0) p0a p0k p0n o4) ++ (oX9 (p1a 0) (st1 (st1 (st1 (st1 (st1 p1a 2 xp1_1_116) 3 xp1_2_116) 4 xp1_3_116) 5 xp1_4_116) 6 xp1_5_116) (st1 (st1 (st1 (st1 (st1 p1k 2 zp1_1_116) 3 zp1_2_116) 4 zp1_3_116) 5 zp1_4_116) 6 zp1_5_116) p1n_116 p1w_116) ++ (oX1 (p0a 1) p0_0a p0_0k p0_0n p0_0w p0_0l) ++ (oX9 (p0_0a 3) p0_0_2a p0_0_2k p0_0_2n p0_0_2w) ++ (oX2 (p0a 7) p0_6a p0_6k p0_6n p0_6w p0_6l)) H := hP.sub [6, 7, 8, 9, 10, 11, 12, 13, 14, 0, 1, 2, 3, 4, 5, 15, 16, 17, 18, 19, 20, 21, 22, 23, 24, 25, 26, 27, 28, 29, 30, 31, 32, 33, 34, 35, 36, 37, 38, 39, 40, 41, 42, 43, 44, 45, 46, 47, 48, 49, 50, 51, 52, 53, 54] rfl
              have hD : va_D A ((oX0 (p0a 0) p0a p0k p0n o4) ++ (oX9 (p1a 0) (st1 (st1 (st1 (st1 (st1 p1a 2 xp1_1_116) 3 xp1_2_116) 4 xp1_3_116) 5 xp1_4_116) 6 xp1_5_116) (st1 (st1 (st1 (st1 (st1 p1k 2 zp1_1_116) 3 zp1_2_116) 4 zp1_3_116) 5 zp1_4_116) 6 zp1_5_116) p1n_116 p1w_116) ++ (oX1 (p0a 1) p0_0a p0_0k p0_0n p0_0w p0_0l) ++ (oX9 (p0_0a 3) p0_0_2a p0_0_2k p0_0_2n p0_0_2w) ++ (oX2 (p0a 7) p0_6a p0_6k p0_6n p0_6w p0_6l)) := hD.sub [6, 7, 8, 9, 10, 11, 12, 13, 14, 0, 1, 2, 3, 4, 5, 15, 16, 17, 18, 19, 20, 21, 22, 23, 24, 25, 26, 27, 28, 29, 30, 31, 32, 33, 34, 35, 36, 37, 38, 39, 40, 41, 42, 43, 44, 45, 46, 47, 48, 49, 50, 51, 52, 53, 54] (by decide) rfl
              have hK : va_K (dC, dI) cls ((tX0 p0k) ++ (tX9 (st1 (st1 (st1 (st1 (st1 p1k 2 zp1_1_116) 3 zp1_2_116) 4 zp1_3_116) 5 zp1_4_116) 6 zp1_5_116)) ++ (tX1 p0_0k) ++ (tX9 p0_0_2k) ++ (tX2 p0_6k)) s := hK.sub [5, 6, 7, 8, 9, 10, 11, 12, 0, 1, 2, 3, 4, 13, 14, 15, 16, 17, 18, 19, 20, 21, 22, 23, 24, 25, 26, 27, 28, 29, 30, 31, 32, 33, 34, 35, 36, 37, 38, 39, 40, 41, 42, 43, 44, 45, 46, 47, 48, 49] rfl
              obtain rfl : o_16 = r17 := hw.symm
              have J137 : ∀ (p1w_137 : ST) (p1n_137 : Nat → Nat) (xp1_1_137 : Nat) (zp1_1_137 : ClassId) (xp1_2_137 : Nat) (zp1_2_137 : ClassId) (xp1_3_137 : Nat) (zp1_3_137 : ClassId) (xp1_4_137 : Nat) (zp1_4_137 : ClassId) (xp1_5_137 : Nat) (zp1_5_137 : ClassId) (H : Heap) (locs : List Loc) (ls : Array Slot), (fX0_writeCode_J137 (fX0_writeCode_L116 p0_0_2n p0_0_2w p0_6n p0_6w n_116) p0_0_2n p0_0_2w v4_116 p1w_137 p1n_137) = some o116 → va_P (dC, dI) cls ((oX0 (p0a 0) p0a p0k p0n o4) ++ (oX9 (p1a 0) (st1 (st1 (st1 (st1 (st1 p1a 2 xp1_1_137) 3 xp1_2_137) 4 xp1_3_137) 5 xp1_4_137) 6 xp1_5_137) (st1 (st1 (st1 (st1 (st1 p1k 2 zp1_1_137) 3 zp1_2_137) 4 zp1_3_137) 5 zp1_4_137) 6 zp1_5_137) p1n_137 p1w_137) ++ (oX1 (p0a 1) p0_0a p0_0k p0_0n p0_0w p0_0l) ++ (oX9 (p0_0a 3) p0_0_2a p0_0_2k p0_0_2n p0_0_2w) ++ (oX2 (p0a 7) p0_6a p0_6k p0_6n p0_6w p0_6l)) H → va_D A ((oX0 (p0a 0) p0a p0k p0n o4) ++ (oX9 (p1a 0) (st1 (st1 (st1 (st1 (st1 p1a 2 xp1_1_137) 3 xp1_2_137) 4 xp1_3_137) 5 xp1_4_137) 6 xp1_5_137) (st1 (st1 (st1 (st1 (st1 p1k 2 zp1_1_137) 3 zp1_2_137) 4 zp1_3_137) 5 zp1_4_137) 6 zp1_5_137) p1n_137 p1w_137) ++ (oX1 (p0a 1) p0_0a p0_0k p0_0n p0_0w p0_0l) ++ (oX9 (p0_0a 3) p0_0_2a p0_0_2k p0_0_2n p0_0_2w) ++ (oX2 (p0a 7) p0_6a p0_6k p0_6n p0_6w p0_6l)) → va_K (dC, dI) cls ((tX0 p0k) ++ (tX9 (st1 (st1 (st1 (st1 (st1 p1k 2 zp1_1_137) 3 zp1_2_137) 4 zp1_3_137) 5 zp1_4_137) 6 zp1_5_137)) ++ (tX1 p0_0k) ++ (tX9 p0_0_2k) ++ (tX2 p0_6k)) s → va_S A s.heap H locs → lv_has ls 5 [(0, .ref (p0a 0)), (1, .ref (p1a 0)), (3, .int v3_94), (4, .int v4_116)] → glX9 p1n p1n_137 → W p l e ({ frames := 4, cells := (gcX9 p1n (o.2.2)), slots := (3 * (gcX9 p1n (o.2.2))), locals := 114 } : Room) s m ([.ref (p0a 0), .ref (p1a 0)] : List Value).toArray below meth c H locs (gcX9 p1n p1n_137) (3 * (gcX9 p1n p1n_137)) Q (F0 m 137 ls []) := by
                intro p1w_137 p1n_137 xp1_1_137 zp1_1_137 xp1_2_137 zp1_2_137 xp1_3_137 zp1_3_137 xp1_4_137 zp1_4_137 xp1_5_137 zp1_5_137 H locs ls hrun hP hD hK hS hl hg_p1 
                have hgn_p1 : glX9 p1n_137 (o.2.2) := (glX9_tr (mo_fX0_writeCode_J137 (mo_fX0_writeCode_L116 n_116) hrun) hgo_p1)
                unfold fX0_writeCode_J137 at hrun
                refine lv_aload_n hx hb dX0_writeCode_137 rfl (lv_at hl 0 rfl) ?_
                refine va_get (D := (dC, dI)) (ci := 8) (v := .ref (p0a 1)) (C := RX0) (T := TX0) (N := 17) hx hb hts i_X0 hown hK hP 0 rfl rfl 0 (by decide) (hts _ qw618) (fun _ h9 => h9) rfl dX0_writeCode_138 ?_
                refine va_get (D := (dC, dI)) (ci := 4) (v := .ref (p0_0a 3)) (C := RX1) (T := TX1) (N := 21) hx hb hts i_X1 hown hK hP 15 rfl rfl 2 (by decide) (hts _ qw629) (fun _ h9 => h9) rfl dX0_writeCode_141 ?_
                refine va_get (D := (dC, dI)) (ci := 3) (v := .ref (p0_0_2a 6)) (C := RX9) (T := TX9) (N := 6) hx hb hts i_X9 hown hK hP 33 rfl rfl 5 (by decide) (hts _ qw795) (fun _ h9 => h9) rfl dX0_writeCode_144 ?_
                refine lv_iload hx hb dX0_writeCode_147 (lv_at hl 3 rfl) ?_
                obtain ⟨hq18, hrun⟩ := chk9 hrun
                refine va_iald hx hb hK hP 38 34 rfl rfl (ixb_in hq18) dX0_writeCode_149 ?_
                refine lv_istore (lv' := [(4, .int (p0_0_2w 6 (nn v4_116))), (0, .ref (p0a 0)), (1, .ref (p1a 0)), (3, .int v3_94)]) hx hb dX0_writeCode_150 hl (by decide) rfl (fun ls hl => ?_)
                refine lv_goto (tgt := 116) hx hb dX0_writeCode_152 (by decide) ?_
                exact IH116 (p0_0_2w 6 (nn v4_116)) p1w_137 p1n_137 xp1_1_137 zp1_1_137 xp1_2_137 zp1_2_137 xp1_3_137 zp1_3_137 xp1_4_137 zp1_4_137 xp1_5_137 zp1_5_137 o116 _ _ _ hrun hP hD hK hS (lv_sub hl [1, 2, 3, 0] rfl) hg_p1 hgo_p1 hk116
              rcases br9 hrun with ⟨hc19, hrun⟩ | ⟨hc19, hrun⟩
              · refine lv_if_ne (tgt := 137) hx hb dX0_writeCode_127 (by decide) (fun c => absurd hc19 c) (fun _ => ?_)
                refine lv_aload_n hx hb dX0_writeCode_130 rfl (lv_at hl 0 rfl) ?_
                refine lv_aload_n hx hb dX0_writeCode_131 rfl (lv_at hl 1 rfl) ?_
                refine lv_iload hx hb dX0_writeCode_132 (lv_at hl 3 rfl) ?_
                obtain ⟨o_20, hc_20, hrun⟩ := bnd9 hrun
                have hPc := hP.sub (ws' := ((oX0 (p0a 0) p0a p0k p0n o4) ++ (oX9 (p1a 0) (st1 (st1 (st1 (st1 (st1 p1a 2 xp1_1_116) 3 xp1_2_116) 4 xp1_3_116) 5 xp1_4_116) 6 xp1_5_116) (st1 (st1 (st1 (st1 (st1 p1k 2 zp1_1_116) 3 zp1_2_116) 4 zp1_3_116) 5 zp1_4_116) 6 zp1_5_116) p1n_116 p1w_116) ++ (oX1 (p0a 1) p0_0a p0_0k p0_0n p0_0w p0_0l) ++ (oX9 (p0_0a 3) p0_0_2a p0_0_2k p0_0_2n p0_0_2w) ++ (oX2 (p0a 7) p0_6a p0_6k p0_6n p0_6w p0_6l))) [0, 1, 2, 3, 4, 5, 6, 7, 8, 9, 10, 11, 12, 13, 14, 15, 16, 17, 18, 19, 20, 21, 22, 23, 24, 25, 26, 27, 28, 29, 30, 31, 32, 33, 34, 35, 36, 37, 38, 39, 40, 41, 42, 43, 44, 45, 46, 47, 48, 49, 50, 51, 52, 53, 54] rfl
                have hDc := hD.sub (ws' := ((oX0 (p0a 0) p0a p0k p0n o4) ++ (oX9 (p1a 0) (st1 (st1 (st1 (st1 (st1 p1a 2 xp1_1_116) 3 xp1_2_116) 4 xp1_3_116) 5 xp1_4_116) 6 xp1_5_116) (st1 (st1 (st1 (st1 (st1 p1k 2 zp1_1_116) 3 zp1_2_116) 4 zp1_3_116) 5 zp1_4_116) 6 zp1_5_116) p1n_116 p1w_116) ++ (oX1 (p0a 1) p0_0a p0_0k p0_0n p0_0w p0_0l) ++ (oX9 (p0_0a 3) p0_0_2a p0_0_2k p0_0_2n p0_0_2w) ++ (oX2 (p0a 7) p0_6a p0_6k p0_6n p0_6w p0_6l))) [0, 1, 2, 3, 4, 5, 6, 7, 8, 9, 10, 11, 12, 13, 14, 15, 16, 17, 18, 19, 20, 21, 22, 23, 24, 25, 26, 27, 28, 29, 30, 31, 32, 33, 34, 35, 36, 37, 38, 39, 40, 41, 42, 43, 44, 45, 46, 47, 48, 49, 50, 51, 52, 53, 54] (by decide) rfl
                have hKc := hK.sub (tys' := ((tX0 p0k) ++ (tX9 (st1 (st1 (st1 (st1 (st1 p1k 2 zp1_1_116) 3 zp1_2_116) 4 zp1_3_116) 5 zp1_4_116) 6 zp1_5_116)) ++ (tX1 p0_0k) ++ (tX9 p0_0_2k) ++ (tX2 p0_6k))) [0, 1, 2, 3, 4, 5, 6, 7, 8, 9, 10, 11, 12, 13, 14, 15, 16, 17, 18, 19, 20, 21, 22, 23, 24, 25, 26, 27, 28, 29, 30, 31, 32, 33, 34, 35, 36, 37, 38, 39, 40, 41, 42, 43, 44, 45, 46, 47, 48, 49] rfl
                have hFc := va_free (wc := ((oX0 (p0a 0) p0a p0k p0n o4) ++ (oX9 (p1a 0) (st1 (st1 (st1 (st1 (st1 p1a 2 xp1_1_116) 3 xp1_2_116) 4 xp1_3_116) 5 xp1_4_116) 6 xp1_5_116) (st1 (st1 (st1 (st1 (st1 p1k 2 zp1_1_116) 3 zp1_2_116) 4 zp1_3_116) 5 zp1_4_116) 6 zp1_5_116) p1n_116 p1w_116) ++ (oX1 (p0a 1) p0_0a p0_0k p0_0n p0_0w p0_0l) ++ (oX9 (p0_0a 3) p0_0_2a p0_0_2k p0_0_2n p0_0_2w) ++ (oX2 (p0a 7) p0_6a p0_6k p0_6n p0_6w p0_6l))) hD hS hA [0, 1, 2, 3, 4, 5, 6, 7, 8, 9, 10, 11, 12, 13, 14, 15, 16, 17, 18, 19, 20, 21, 22, 23, 24, 25, 26, 27, 28, 29, 30, 31, 32, 33, 34, 35, 36, 37, 38, 39, 40, 41, 42, 43, 44, 45, 46, 47, 48, 49, 50, 51, 52, 53, 54] rfl
                have hgn_p1 : glX9 (o_20.2) (o.2.2) := (glX9_tr (mo_fX0_writeCode_G137_31 (mo_fX0_writeCode_L116 n_116) hrun) hgo_p1)
                refine va_callv (va_runV (As := [.ref (p1a 0), .int v4_116]) (rest := []) ⟨hx, hb, hml, hown, hts⟩ (kX0_writeStep l dC dI (p0a := (st0 (p0a 0) p0a)) (p0k := p0k) (p0n := p0n) (p0w := o4) (p1a := (st0 (p1a 0) (st1 (st1 (st1 (st1 (st1 p1a 2 xp1_1_116) 3 xp1_2_116) 4 xp1_3_116) 5 xp1_4_116) 6 xp1_5_116))) (p1k := (st1 (st1 (st1 (st1 (st1 p1k 2 zp1_1_116) 3 zp1_2_116) 4 zp1_3_116) 5 zp1_4_116) 6 zp1_5_116)) (p1n := p1n_116) (p1w := p1w_116) (p2 := v4_116) (p0_0a := p0_0a) (p0_0k := p0_0k) (p0_0n := p0_0n) (p0_0w := p0_0w) (p0_0l := p0_0l) (p0_0_2a := p0_0_2a) (p0_0_2k := p0_0_2k) (p0_0_2n := p0_0_2n) (p0_0_2w := p0_0_2w) (p0_6a := p0_6a) (p0_6k := p0_6k) (p0_6n := p0_6n) (p0_6w := p0_6w) (p0_6l := p0_6l) (sz := _) (o := o_20) (hrun := hc_20)) (cwV 2 hts (gi_V qw868 qw869 qw870 qw653 (gi_z qw867)) rfl rfl rfl (by decide +kernel) ⟨Nat.le_of_ble_eq_true rfl, Nat.le_of_ble_eq_true rfl⟩) ⟨PRE.blind, va_recv hKc hPc (ci := 8) (q0 := 0) rfl rfl, PRE.of hE hS hFc hPc hKc hDc⟩ rfl rfl hl.1 rfl (lv_room (Nat.le_of_ble_eq_true rfl)) dX0_writeCode_134 ⟨(show (gcX9 p1n p1n_116) + (gcX9 p1n_116 (o_20.2)) ≤ (gcX9 p1n (o.2.2)) from by have q0 := gsX9 hg_p1 (mo_fX0_writeStep hc_20) hgn_p1; omega), (show (3 * (gcX9 p1n p1n_116)) + (3 * ((gcX9 p1n_116 (o_20.2)))) ≤ (3 * (gcX9 p1n (o.2.2))) from by have q0 := gsX9 hg_p1 (mo_fX0_writeStep hc_20) hgn_p1; omega)⟩) hS (fun q _ h => hFc q h) hFc (fun u t H locs ht hvm hw hB hz1 hk1 hS => ?_)
                obtain ⟨x21, z22, x23, z24, x25, z26, x27, z28, x29, z30, hB⟩ := hB
                obtain ⟨hP, hD, hK⟩ := JOIN (wr := ([] : va_W)) hP hD hK [0, 1, 2, 3, 4, 5, 6, 7, 8, 9, 10, 11, 12, 13, 14, 15, 16, 17, 18, 19, 20, 21, 22, 23, 24, 25, 26, 27, 28, 29, 30, 31, 32, 33, 34, 35, 36, 37, 38, 39, 40, 41, 42, 43, 44, 45, 46, 47, 48, 49, 50, 51, 52, 53, 54] [] [] rfl rfl (by decide) (by decide) rfl hk1 hFc ht hvm hB
                have hP : va_P (dC, dI) cls ((oX0 (p0a 0) p0a p0k p0n o4) ++ (oX9 (p1a 0) (st1 (st1 (st1 (st1 (st1 p1a 2 x21) 3 x23) 4 x25) 5 x27) 6 x29) (st1 (st1 (st1 (st1 (st1 p1k 2 z22) 3 z24) 4 z26) 5 z28) 6 z30) (o_20.2) (o_20.1)) ++ (oX1 (p0a 1) p0_0a p0_0k p0_0n p0_0w p0_0l) ++ (oX9 (p0_0a 3) p0_0_2a p0_0_2k p0_0_2n p0_0_2w) ++ (oX2 (p0a 7) p0_6a p0_6k p0_6n p0_6w p0_6l)) H := hP.sub [0, 1, 2, 3, 4, 5, 6, 7, 8, 9, 10, 11, 12, 13, 14, 15, 16, 17, 18, 19, 20, 21, 22, 23, 24, 25, 26, 27, 28, 29, 30, 31, 32, 33, 34, 35, 36, 37, 38, 39, 40, 41, 42, 43, 44, 45, 46, 47, 48, 49, 50, 51, 52, 53, 54] rfl
                have hD : va_D A ((oX0 (p0a 0) p0a p0k p0n o4) ++ (oX9 (p1a 0) (st1 (st1 (st1 (st1 (st1 p1a 2 x21) 3 x23) 4 x25) 5 x27) 6 x29) (st1 (st1 (st1 (st1 (st1 p1k 2 z22) 3 z24) 4 z26) 5 z28) 6 z30) (o_20.2) (o_20.1)) ++ (oX1 (p0a 1) p0_0a p0_0k p0_0n p0_0w p0_0l) ++ (oX9 (p0_0a 3) p0_0_2a p0_0_2k p0_0_2n p0_0_2w) ++ (oX2 (p0a 7) p0_6a p0_6k p0_6n p0_6w p0_6l)) := hD.sub [0, 1, 2, 3, 4, 5, 6, 7, 8, 9, 10, 11, 12, 13, 14, 15, 16, 17, 18, 19, 20, 21, 22, 23, 24, 25, 26, 27, 28, 29, 30, 31, 32, 33, 34, 35, 36, 37, 38, 39, 40, 41, 42, 43, 44, 45, 46, 47, 48, 49, 50, 51, 52, 53, 54] (by decide) rfl
                have hK : va_K (dC, dI) cls ((tX0 p0k) ++ (tX9 (st1 (st1 (st1 (st1 (st1 p1k 2 z22) 3 z24) 4 z26) 5 z28) 6 z30)) ++ (tX1 p0_0k) ++ (tX9 p0_0_2k) ++ (tX2 p0_6k)) s := hK.sub [0, 1, 2, 3, 4, 5, 6, 7, 8, 9, 10, 11, 12, 13, 14, 15, 16, 17, 18, 19, 20, 21, 22, 23, 24, 25, 26, 27, 28, 29, 30, 31, 32, 33, 34, 35, 36, 37, 38, 39, 40, 41, 42, 43, 44, 45, 46, 47, 48, 49] rfl
                refine W.widen (k := (gcX9 p1n (o_20.2))) (n := (3 * (gcX9 p1n (o_20.2)))) (by have a0 := gcX9_add hg_p1 (mo_fX0_writeStep hc_20); omega) (by have a0 := gcX9_add hg_p1 (mo_fX0_writeStep hc_20); omega) ?_
                have hg_p1 : glX9 p1n (o_20.2) := glX9_tr hg_p1 (mo_fX0_writeStep hc_20)
                unfold fX0_writeCode_G137_31 at hrun
                exact J137 (o_20.1) (o_20.2) x21 z22 x23 z24 x25 z26 x27 z28 x29 z30 _ _ _ hrun hP hD hK hS (lv_sub hl [0, 1, 2, 3] rfl) hg_p1
              · refine lv_if_ne (tgt := 137) hx hb dX0_writeCode_127 (by decide) (fun _ => ?_) (fun c => absurd c hc19)
                exact J137 p1w_116 p1n_116 xp1_1_116 zp1_1_116 xp1_2_116 zp1_2_116 xp1_3_116 zp1_3_116 xp1_4_116 zp1_4_116 xp1_5_116 zp1_5_116 _ _ _ hrun hP hD hK hS (lv_sub hl [0, 1, 2, 3] rfl) hg_p1
        refine L116 NF (p0_0w 4 (nn v3_94)) p1w_94 p1n_94 xp1_1_94 zp1_1_94 xp1_2_94 zp1_2_94 xp1_3_94 zp1_3_94 xp1_4_94 zp1_4_94 xp1_5_94 zp1_5_94 o116 _ _ _ hc116 hP hD hK hS (lv_sub hl [1, 2, 3, 0] rfl) hg_p1 hgn_p1 ?_
        intro xp1_1_116x zp1_1_116x xp1_2_116x zp1_2_116x xp1_3_116x zp1_3_116x xp1_4_116x zp1_4_116x xp1_5_116x zp1_5_116x H locs ls hP hD hK hS hl hg_p1
        have hl := hl
        unfold fX0_writeCode_G155_32 at hrun
        refine lv_aload_n hx hb dX0_writeCode_155 rfl (lv_at hl 0 rfl) ?_
        refine lv_aload_n hx hb dX0_writeCode_156 rfl (lv_at hl 1 rfl) ?_
        refine lv_iload_n hx hb dX0_writeCode_157 rfl (lv_at hl 2 rfl) ?_
        obtain ⟨o_33, hc_33, hrun⟩ := bnd9 hrun
        have hPc := hP.sub (ws' := ((oX0 (p0a 0) p0a p0k p0n o4) ++ (oX9 (p1a 0) (st1 (st1 (st1 (st1 (st1 p1a 2 xp1_1_116x) 3 xp1_2_116x) 4 xp1_3_116x) 5 xp1_4_116x) 6 xp1_5_116x) (st1 (st1 (st1 (st1 (st1 p1k 2 zp1_1_116x) 3 zp1_2_116x) 4 zp1_3_116x) 5 zp1_4_116x) 6 zp1_5_116x) (o116.2) (o116.1)) ++ (oX1 (p0a 1) p0_0a p0_0k p0_0n p0_0w p0_0l) ++ (oX2 (p0a 7) p0_6a p0_6k p0_6n p0_6w p0_6l))) [0, 1, 2, 3, 4, 5, 6, 7, 8, 9, 10, 11, 12, 13, 14, 15, 16, 17, 18, 19, 20, 21, 22, 23, 24, 25, 26, 27, 28, 29, 30, 31, 32, 39, 40, 41, 42, 43, 44, 45, 46, 47, 48, 49, 50, 51, 52, 53, 54] rfl
        have hDc := hD.sub (ws' := ((oX0 (p0a 0) p0a p0k p0n o4) ++ (oX9 (p1a 0) (st1 (st1 (st1 (st1 (st1 p1a 2 xp1_1_116x) 3 xp1_2_116x) 4 xp1_3_116x) 5 xp1_4_116x) 6 xp1_5_116x) (st1 (st1 (st1 (st1 (st1 p1k 2 zp1_1_116x) 3 zp1_2_116x) 4 zp1_3_116x) 5 zp1_4_116x) 6 zp1_5_116x) (o116.2) (o116.1)) ++ (oX1 (p0a 1) p0_0a p0_0k p0_0n p0_0w p0_0l) ++ (oX2 (p0a 7) p0_6a p0_6k p0_6n p0_6w p0_6l))) [0, 1, 2, 3, 4, 5, 6, 7, 8, 9, 10, 11, 12, 13, 14, 15, 16, 17, 18, 19, 20, 21, 22, 23, 24, 25, 26, 27, 28, 29, 30, 31, 32, 39, 40, 41, 42, 43, 44, 45, 46, 47, 48, 49, 50, 51, 52, 53, 54] (by decide) rfl
        have hKc := hK.sub (tys' := ((tX0 p0k) ++ (tX9 (st1 (st1 (st1 (st1 (st1 p1k 2 zp1_1_116x) 3 zp1_2_116x) 4 zp1_3_116x) 5 zp1_4_116x) 6 zp1_5_116x)) ++ (tX1 p0_0k) ++ (tX2 p0_6k))) [0, 1, 2, 3, 4, 5, 6, 7, 8, 9, 10, 11, 12, 13, 14, 15, 16, 17, 18, 19, 20, 21, 22, 23, 24, 25, 26, 27, 28, 29, 35, 36, 37, 38, 39, 40, 41, 42, 43, 44, 45, 46, 47, 48, 49] rfl
        have hFc := va_free (wc := ((oX0 (p0a 0) p0a p0k p0n o4) ++ (oX9 (p1a 0) (st1 (st1 (st1 (st1 (st1 p1a 2 xp1_1_116x) 3 xp1_2_116x) 4 xp1_3_116x) 5 xp1_4_116x) 6 xp1_5_116x) (st1 (st1 (st1 (st1 (st1 p1k 2 zp1_1_116x) 3 zp1_2_116x) 4 zp1_3_116x) 5 zp1_4_116x) 6 zp1_5_116x) (o116.2) (o116.1)) ++ (oX1 (p0a 1) p0_0a p0_0k p0_0n p0_0w p0_0l) ++ (oX2 (p0a 7) p0_6a p0_6k p0_6n p0_6w p0_6l))) hD hS hA [0, 1, 2, 3, 4, 5, 6, 7, 8, 9, 10, 11, 12, 13, 14, 15, 16, 17, 18, 19, 20, 21, 22, 23, 24, 25, 26, 27, 28, 29, 30, 31, 32, 39, 40, 41, 42, 43, 44, 45, 46, 47, 48, 49, 50, 51, 52, 53, 54] rfl
        have hgn_p1 : glX9 (o_33.2) (o.2.2) := (glX9_tr (mo_fX0_writeCode_G161_44 (mo_fX0_writeCode_L94 n_94) hrun) hgo_p1)
        refine va_callv (va_runV (As := [.ref (p1a 0), .int v3_94]) (rest := []) ⟨hx, hb, hml, hown, hts⟩ (kX0_writeEnd l dC dI (p0a := (st0 (p0a 0) p0a)) (p0k := p0k) (p0n := p0n) (p0w := o4) (p1a := (st0 (p1a 0) (st1 (st1 (st1 (st1 (st1 p1a 2 xp1_1_116x) 3 xp1_2_116x) 4 xp1_3_116x) 5 xp1_4_116x) 6 xp1_5_116x))) (p1k := (st1 (st1 (st1 (st1 (st1 p1k 2 zp1_1_116x) 3 zp1_2_116x) 4 zp1_3_116x) 5 zp1_4_116x) 6 zp1_5_116x)) (p1n := (o116.2)) (p1w := (o116.1)) (p2 := v3_94) (p0_0a := p0_0a) (p0_0k := p0_0k) (p0_0n := p0_0n) (p0_0w := p0_0w) (p0_0l := p0_0l) (p0_6a := p0_6a) (p0_6k := p0_6k) (p0_6n := p0_6n) (p0_6w := p0_6w) (p0_6l := p0_6l) (sz := _) (o := o_33) (hrun := hc_33)) (cwV 2 hts (gi_V qw873 qw874 qw875 qw653 (gi_z qw872)) rfl rfl rfl (by decide +kernel) ⟨Nat.le_of_ble_eq_true rfl, Nat.le_of_ble_eq_true rfl⟩) ⟨PRE.blind, va_recv hKc hPc (ci := 8) (q0 := 0) rfl rfl, PRE.of hE hS hFc hPc hKc hDc⟩ rfl rfl hl.1 rfl (lv_room (Nat.le_of_ble_eq_true rfl)) dX0_writeCode_158 ⟨(show (gcX9 p1n (o116.2)) + (gcX9 (o116.2) (o_33.2)) ≤ (gcX9 p1n (o.2.2)) from by have q0 := gsX9 hg_p1 (mo_fX0_writeEnd hc_33) hgn_p1; omega), (show (3 * (gcX9 p1n (o116.2))) + (3 * ((gcX9 (o116.2) (o_33.2)))) ≤ (3 * (gcX9 p1n (o.2.2))) from by have q0 := gsX9 hg_p1 (mo_fX0_writeEnd hc_33) hgn_p1; omega)⟩) hS (fun q _ h => hFc q h) hFc (fun u t H locs ht hvm hw hB hz1 hk1 hS => ?_)
        obtain ⟨x34, z35, x36, z37, x38, z39, x40, z41, x42, z43, hB⟩ := hB
        obtain ⟨hP, hD, hK⟩ := JOIN (wr := (oX9 (p0_0a 3) p0_0_2a p0_0_2k p0_0_2n p0_0_2w)) hP hD hK [0, 1, 2, 3, 4, 5, 6, 7, 8, 9, 10, 11, 12, 13, 14, 15, 16, 17, 18, 19, 20, 21, 22, 23, 24, 25, 26, 27, 28, 29, 30, 31, 32, 39, 40, 41, 42, 43, 44, 45, 46, 47, 48, 49, 50, 51, 52, 53, 54] [33, 34, 35, 36, 37, 38] [30, 31, 32, 33, 34] rfl rfl (by decide) (by decide) rfl hk1 hFc ht hvm hB
        have hP : va_P (dC, dI) cls ((oX0 (p0a 0) p0a p0k p0n o4) ++ (oX9 (p1a 0) (st1 (st1 (st1 (st1 (st1 p1a 2 x34) 3 x36) 4 x38) 5 x40) 6 x42) (st1 (st1 (st1 (st1 (st1 p1k 2 z35) 3 z37) 4 z39) 5 z41) 6 z43) (o_33.2) (o_33.1)) ++ (oX1 (p0a 1) p0_0a p0_0k p0_0n p0_0w p0_0l) ++ (oX9 (p0_0a 3) p0_0_2a p0_0_2k p0_0_2n p0_0_2w) ++ (oX2 (p0a 7) p0_6a p0_6k p0_6n p0_6w p0_6l)) H := hP.sub [6, 7, 8, 9, 10, 11, 12, 13, 14, 15, 16, 17, 18, 19, 20, 21, 22, 23, 24, 25, 26, 27, 28, 29, 30, 31, 32, 33, 34, 35, 36, 37, 38, 0, 1, 2, 3, 4, 5, 39, 40, 41, 42, 43, 44, 45, 46, 47, 48, 49, 50, 51, 52, 53, 54] rfl
        have hD : va_D A ((oX0 (p0a 0) p0a p0k p0n o4) ++ (oX9 (p1a 0) (st1 (st1 (st1 (st1 (st1 p1a 2 x34) 3 x36) 4 x38) 5 x40) 6 x42) (st1 (st1 (st1 (st1 (st1 p1k 2 z35) 3 z37) 4 z39) 5 z41) 6 z43) (o_33.2) (o_33.1)) ++ (oX1 (p0a 1) p0_0a p0_0k p0_0n p0_0w p0_0l) ++ (oX9 (p0_0a 3) p0_0_2a p0_0_2k p0_0_2n p0_0_2w) ++ (oX2 (p0a 7) p0_6a p0_6k p0_6n p0_6w p0_6l)) := hD.sub [6, 7, 8, 9, 10, 11, 12, 13, 14, 15, 16, 17, 18, 19, 20, 21, 22, 23, 24, 25, 26, 27, 28, 29, 30, 31, 32, 33, 34, 35, 36, 37, 38, 0, 1, 2, 3, 4, 5, 39, 40, 41, 42, 43, 44, 45, 46, 47, 48, 49, 50, 51, 52, 53, 54] (by decide) rfl
        have hK : va_K (dC, dI) cls ((tX0 p0k) ++ (tX9 (st1 (st1 (st1 (st1 (st1 p1k 2 z35) 3 z37) 4 z39) 5 z41) 6 z43)) ++ (tX1 p0_0k) ++ (tX9 p0_0_2k) ++ (tX2 p0_6k)) s := hK.sub [5, 6, 7, 8, 9, 10, 11, 12, 13, 14, 15, 16, 17, 18, 19, 20, 21, 22, 23, 24, 25, 26, 27, 28, 29, 30, 31, 32, 33, 34, 0, 1, 2, 3, 4, 35, 36, 37, 38, 39, 40, 41, 42, 43, 44, 45, 46, 47, 48, 49] rfl
        refine W.widen (k := (gcX9 p1n (o_33.2))) (n := (3 * (gcX9 p1n (o_33.2)))) (by have a0 := gcX9_add hg_p1 (mo_fX0_writeEnd hc_33); omega) (by have a0 := gcX9_add hg_p1 (mo_fX0_writeEnd hc_33); omega) ?_
        have hg_p1 : glX9 p1n (o_33.2) := glX9_tr hg_p1 (mo_fX0_writeEnd hc_33)
        unfold fX0_writeCode_G161_44 at hrun
        refine lv_iinc (v := (v3_94 + 1)) (lv' := [(3, .int (v3_94 + 1)), (0, .ref (p0a 0)), (1, .ref (p1a 0))]) hx hb dX0_writeCode_161 hl (k := 2) rfl rfl (by decide) rfl (fun ls hl => ?_)
        refine lv_goto (tgt := 94) hx hb dX0_writeCode_164 (by decide) ?_
        exact IH94 (v3_94 + 1) (o_33.1) (o_33.2) x34 z35 x36 z37 x38 z39 x40 z41 x42 z43 o94 _ _ _ hrun hP hD hK hS (lv_sub hl [1, 2, 0] rfl) hg_p1 hgo_p1 hk94
  refine L94 NF 0 w12 p1n (p1a 2) (p1k 2) (p1a 3) (p1k 3) (p1a 4) (p1k 4) (p1a 5) (p1k 5) (p1a 6) (p1k 6) o94 _ _ _ hc94 hP hD hK hS (lv_sub hl [1, 2, 0] rfl) hg_p1 hgn_p1 ?_
  intro xp1_1_94x zp1_1_94x xp1_2_94x zp1_2_94x xp1_3_94x zp1_3_94x xp1_4_94x zp1_4_94x xp1_5_94x zp1_5_94x H locs ls hP hD hK hS hl hg_p1
  have hl := hl
  unfold fX0_writeCode_G167_45 at hrun
  have ho9 : (o4, (o94.1), (o94.2)) = o := Option.some.inj hrun
  subst ho9
  subst hQ
  exact W.vret hx hb hr (fun t ht hW => ⟨⟨(), rfl, trivial, ⟨xp1_1_94x, zp1_1_94x, xp1_2_94x, zp1_2_94x, xp1_3_94x, zp1_3_94x, xp1_4_94x, zp1_4_94x, xp1_5_94x, zp1_5_94x, by rw [ht]; exact hP, va_K.moved hW.alike hK, hD⟩⟩, hS.F ht⟩) hS.2.2 dX0_writeCode_167
def fX3_argumentOf (p0w : ST) (p1 : Int32) (p2 : Int32) : Option Int32 := (if ixb ((p1 * 4) + p2) 32 = true then some (p0w 15 (nn ((p1 * 4) + p2))) else none)
set_option maxHeartbeats 16000000 in
set_option maxRecDepth 100000 in
theorem kX3_argumentOf {zs : Nat × Nat} (l : Launch) (dC : Nat → ClassId) (dI : Nat → Nat → Nat) (p0a : Nat → Nat) (p0k : Nat → ClassId) (p0n : Nat → Nat) (p0w : ST) (p1 : Int32) (p2 : Int32) (sz : Nat) (o : Int32) (hrun : fX3_argumentOf p0w p1 p2 = some o) : Met l yX3_argumentOf (wz yX3_argumentOf cX3_argumentOf 3 (Option.some Jvm.ClassFile.FieldType.int)) ({ frames := 0, cells := 0, slots := 0, locals := 0 } : Room) (va_Pc [.ref (p0a 0), .int p1, .int p2] (PRE zs dC dI (oX3 (p0a 0) p0a p0k p0n p0w) (tX3 p0k) sz)) (va_Qi (fun (r : Int32) (_ : Unit) => r = o) (fun _ t => POST dC dI (oX3 (p0a 0) p0a p0k p0n p0w) (tX3 p0k) (va_A (oX3 (p0a 0) p0a p0k p0n p0w) sz) t) (va_A (oX3 (p0a 0) p0a p0k p0n p0w) sz)) 0 0 (va_A (oX3 (p0a 0) p0a p0k p0n p0w) sz) := by
  refine Met.ofW (cc := cX3_argumentOf) (maxL := 3) (ret := (Option.some Jvm.ClassFile.FieldType.int)) (by decide) rfl ?_
  intro p e s m args below meth c s₁ B hml hv
  obtain ⟨rfl, hsz, hP, hK, hD0, hE⟩ := hv
  have hx := B.exec
  have hb := B.bytes
  have hr := B.returns
  have hts0 := atoms_spec (ws := wz yX3_argumentOf cX3_argumentOf 3 (Option.some Jvm.ClassFile.FieldType.int)) B.pre
  have hts : ∀ w ∈ gw, w.before _ s = true := fun w h => hts0 w (List.mem_cons_of_mem _ h)
  have hown : s.vm.findClass RX3 = some m.cls := findClass_of_methodNamed B.named
  have hlocks := B.notSynchronized
  subst hsz
  have hD := hD0.self (sz := s.heap.size)
  refine gQ9 ?_
  intro Q hQ
  generalize hAe : va_A (oX3 (p0a 0) p0a p0k p0n p0w) s.heap.size = A at hD hE hQ
  have hA : ∀ q : Nat, s.heap.size ≤ q → A q := fun q h => by rw [← hAe]; exact Or.inr h
  have hS : va_S A s.heap s.heap [] := va_S.rf
  have hP : va_P (dC, dI) cls (oX3 (p0a 0) p0a p0k p0n p0w) s.heap := hP
  have hl := lv_entry ([.ref (p0a 0), .int p1, .int p2]) (n := 3) (Nat.le_of_ble_eq_true rfl)
  rw [lg_entry_eq]
  generalize (lg_sl ([.ref (p0a 0), .int p1, .int p2]) ++ List.replicate (3 - (lg_sl ([.ref (p0a 0), .int p1, .int p2])).length) Slot.unset).toArray = ls at hl ⊢
  have hl : lv_has ls 3 [(0, .ref (p0a 0)), (1, .int p1), (2, .int p2)] := hl
  obtain ⟨H, hHe⟩ : ∃ H, H = s.heap := ⟨_, rfl⟩
  obtain ⟨locs, hle⟩ : ∃ locs : List Loc, locs = [] := ⟨_, rfl⟩
  rw [← hHe] at hP
  have hS : va_S A s.heap H locs := by rw [hHe, hle]; exact hS
  show W p l e ({ frames := 0, cells := 0, slots := 0, locals := 0 } : Room) s m ([.ref (p0a 0), .int p1, .int p2] : List Value).toArray below meth c s.heap [] 0 0 Q (F0 m 0 ls [])
  rw [← hle]
  refine wH9 hHe ?_
  unfold fX3_argumentOf at hrun
  refine lv_aload_n hx hb dX3_argumentOf_0 rfl (lv_at hl 0 rfl) ?_
  refine va_get (D := (dC, dI)) (ci := 10) (v := .ref (p0a 15)) (C := RX3) (T := TX3) (N := 20) hx hb hts i_X3 hown hK hP 0 rfl rfl 14 (by decide) (hts _ qw876) (fun _ h9 => h9) rfl dX3_argumentOf_1 ?_
  refine lv_iload_n hx hb dX3_argumentOf_4 rfl (lv_at hl 1 rfl) ?_
  refine lv_iconst (v := 4) hx hb dX3_argumentOf_5 (by decide) ?_
  refine lv_imul hx hb dX3_argumentOf_6 ?_
  refine lv_iload_n hx hb dX3_argumentOf_7 rfl (lv_at hl 2 rfl) ?_
  refine lv_iadd hx hb dX3_argumentOf_8 ?_
  obtain ⟨hq1, hrun⟩ := chk9 hrun
  refine va_iald hx hb hK hP 7 6 rfl rfl (ixb_in hq1) dX3_argumentOf_9 ?_
  have ho9 : (p0w 15 (nn ((p1 * 4) + p2))) = o := Option.some.inj hrun
  have hP9 : va_P (dC, dI) cls (oX3 (p0a 0) p0a p0k p0n p0w) H := by first | exact hP | (rw [← ho9]; exact hP)
  have hD9 : va_D A (oX3 (p0a 0) p0a p0k p0n p0w) := by first | exact hD | (rw [← ho9]; exact hD)
  subst hQ
  exact W.iret (v := (p0w 15 (nn ((p1 * 4) + p2)))) hx hb hr (fun t ht hW => ⟨⟨(p0w 15 (nn ((p1 * 4) + p2))), (), rfl, (by rw [← ho9]), ⟨by rw [ht]; exact hP9, va_K.moved hW.alike hK, hD9⟩⟩, hS.F ht⟩) hS.2.2 dX3_argumentOf_10
def fX3_bringBack (p0w : ST) (p1n : Nat) (p1f : RI) : Option ST := (if ixb 0 p1n = true then (lt9 (upw p0w 0 0 (p1f (nn 0))) fun (w2 : ST) => (if ixb 1 p1n = true then (lt9 (upw w2 0 1 (p1f (nn 1))) fun (w4 : ST) => (if ixb 2 p1n = true then (lt9 (upw w4 0 2 (p1f (nn 2))) fun (w6 : ST) => (if cpk 3 0 16 p1n 16 = true then (lt9 (srw w6 4 (va_cpy p1f (w6 4) (nn 3) (nn 0) (nn 16))) fun (w8 : ST) => some w8) else none)) else none)) else none)) else none)
set_option maxHeartbeats 16000000 in
set_option maxRecDepth 100000 in
theorem kX3_bringBack {zs : Nat × Nat} (l : Launch) (dC : Nat → ClassId) (dI : Nat → Nat → Nat) (p0a : Nat → Nat) (p0k : Nat → ClassId) (p0n : Nat → Nat) (p0w : ST) (p1a : Nat) (p1k : ClassId) (p1n : Nat) (p1f : RI) (sz : Nat) (o : ST) (hrun : fX3_bringBack p0w p1n p1f = some o) : Met l yX3_bringBack (wz yX3_bringBack cX3_bringBack 2 (Option.none : Option Jvm.ClassFile.FieldType)) ({ frames := 1, cells := 0, slots := 0, locals := 40 } : Room) (va_Pc [.ref (p0a 0), .ref p1a] (PRE zs dC dI ((oX3 (p0a 0) p0a p0k p0n p0w) ++ [(p1a, .inl (p1k, p1n, .inl p1f))]) ((tX3 p0k) ++ [(p1k, .int)]) sz)) (va_Qv (fun (_ : Unit) => True) (fun _ t => POST dC dI ((oX3 (p0a 0) p0a p0k p0n o) ++ [(p1a, .inl (p1k, p1n, .inl p1f))]) ((tX3 p0k) ++ [(p1k, .int)]) (va_A ((oX3 (p0a 0) p0a p0k p0n p0w) ++ [(p1a, .inl (p1k, p1n, .inl p1f))]) sz) t) (va_A ((oX3 (p0a 0) p0a p0k p0n p0w) ++ [(p1a, .inl (p1k, p1n, .inl p1f))]) sz)) 0 0 (va_A ((oX3 (p0a 0) p0a p0k p0n p0w) ++ [(p1a, .inl (p1k, p1n, .inl p1f))]) sz) := by
  refine Met.ofW (cc := cX3_bringBack) (maxL := 2) (ret := (Option.none : Option Jvm.ClassFile.FieldType)) (by decide) rfl ?_
  intro p e s m args below meth c s₁ B hml hv
  obtain ⟨rfl, hsz, hP, hK, hD0, hE⟩ := hv
  have hx := B.exec
  have hb := B.bytes
  have hr := B.returns
  have hts0 := atoms_spec (ws := wz yX3_bringBack cX3_bringBack 2 (Option.none : Option Jvm.ClassFile.FieldType)) B.pre
  have hts : ∀ w ∈ gw, w.before _ s = true := fun w h => hts0 w (List.mem_cons_of_mem _ h)
  have hown : s.vm.findClass RX3 = some m.cls := findClass_of_methodNamed B.named
  have hlocks := B.notSynchronized
  subst hsz
  have hD := hD0.self (sz := s.heap.size)
  refine gQ9 ?_
  intro Q hQ
  generalize hAe : va_A ((oX3 (p0a 0) p0a p0k p0n p0w) ++ [(p1a, .inl (p1k, p1n, .inl p1f))]) s.heap.size = A at hD hE hQ
  have hA : ∀ q : Nat, s.heap.size ≤ q → A q := fun q h => by rw [← hAe]; exact Or.inr h
  have hS : va_S A s.heap s.heap [] := va_S.rf
  have hP : va_P (dC, dI) cls ((oX3 (p0a 0) p0a p0k p0n p0w) ++ [(p1a, .inl (p1k, p1n, .inl p1f))]) s.heap := hP
  have hl := lv_entry ([.ref (p0a 0), .ref p1a]) (n := 2) (Nat.le_of_ble_eq_true rfl)
  rw [lg_entry_eq]
  generalize (lg_sl ([.ref (p0a 0), .ref p1a]) ++ List.replicate (2 - (lg_sl ([.ref (p0a 0), .ref p1a])).length) Slot.unset).toArray = ls at hl ⊢
  have hl : lv_has ls 2 [(0, .ref (p0a 0)), (1, .ref p1a)] := hl
  obtain ⟨H, hHe⟩ : ∃ H, H = s.heap := ⟨_, rfl⟩
  obtain ⟨locs, hle⟩ : ∃ locs : List Loc, locs = [] := ⟨_, rfl⟩
  rw [← hHe] at hP
  have hS : va_S A s.heap H locs := by rw [hHe, hle]; exact hS
  show W p l e ({ frames := 1, cells := 0, slots := 0, locals := 40 } : Room) s m ([.ref (p0a 0), .ref p1a] : List Value).toArray below meth c s.heap [] 0 0 Q (F0 m 0 ls [])
  rw [← hle]
  refine wH9 hHe ?_
  unfold fX3_bringBack at hrun
  refine lv_aload_n hx hb dX3_bringBack_0 rfl (lv_at hl 0 rfl) ?_
  refine lv_aload_n hx hb dX3_bringBack_1 rfl (lv_at hl 1 rfl) ?_
  refine lv_iconst (v := 0) hx hb dX3_bringBack_2 (by decide) ?_
  obtain ⟨hq1, hrun⟩ := chk9 hrun
  refine va_iald hx hb hK hP 11 10 rfl rfl (ixb_in hq1) dX3_bringBack_3 ?_
  refine va_put (D := (dC, dI)) (ci := 10) (v := .int (p1f (nn 0))) (ty := .int) (C := RX3) (T := TX3) (N := 20) hx hb hts i_X3 tyX3 tyX3_ok nmX3 hown hK hP hD hS 0 rfl rfl 0 (by decide) (hts _ qw877) (fun _ h9 => h9) rfl (by decide +kernel) rfl rfl (Nat.le_of_ble_eq_true rfl) dX3_bringBack_4 (fun H locs hP hD hS => ?_)
  have hP : va_P (dC, dI) cls ((oX3 (p0a 0) p0a p0k p0n (upw p0w 0 0 (p1f (nn 0)))) ++ [(p1a, .inl (p1k, p1n, .inl p1f))]) H := hP
  have hD : va_D A ((oX3 (p0a 0) p0a p0k p0n (upw p0w 0 0 (p1f (nn 0)))) ++ [(p1a, .inl (p1k, p1n, .inl p1f))]) := hD
  obtain ⟨w2, ew2, hrun⟩ := let9 hrun
  rw [← ew2] at hP hD
  refine lv_aload_n hx hb dX3_bringBack_7 rfl (lv_at hl 0 rfl) ?_
  refine lv_aload_n hx hb dX3_bringBack_8 rfl (lv_at hl 1 rfl) ?_
  refine lv_iconst (v := 1) hx hb dX3_bringBack_9 (by decide) ?_
  obtain ⟨hq3, hrun⟩ := chk9 hrun
  refine va_iald hx hb hK hP 11 10 rfl rfl (ixb_in hq3) dX3_bringBack_10 ?_
  refine va_put (D := (dC, dI)) (ci := 10) (v := .int (p1f (nn 1))) (ty := .int) (C := RX3) (T := TX3) (N := 20) hx hb hts i_X3 tyX3 tyX3_ok nmX3 hown hK hP hD hS 0 rfl rfl 1 (by decide) (hts _ qw878) (fun _ h9 => h9) rfl (by decide +kernel) rfl rfl (Nat.le_of_ble_eq_true rfl) dX3_bringBack_11 (fun H locs hP hD hS => ?_)
  have hP : va_P (dC, dI) cls ((oX3 (p0a 0) p0a p0k p0n (upw w2 0 1 (p1f (nn 1)))) ++ [(p1a, .inl (p1k, p1n, .inl p1f))]) H := hP
  have hD : va_D A ((oX3 (p0a 0) p0a p0k p0n (upw w2 0 1 (p1f (nn 1)))) ++ [(p1a, .inl (p1k, p1n, .inl p1f))]) := hD
  obtain ⟨w4, ew4, hrun⟩ := let9 hrun
  rw [← ew4] at hP hD
  refine lv_aload_n hx hb dX3_bringBack_14 rfl (lv_at hl 0 rfl) ?_
  refine lv_aload_n hx hb dX3_bringBack_15 rfl (lv_at hl 1 rfl) ?_
  refine lv_iconst (v := 2) hx hb dX3_bringBack_16 (by decide) ?_
  obtain ⟨hq5, hrun⟩ := chk9 hrun
  refine va_iald hx hb hK hP 11 10 rfl rfl (ixb_in hq5) dX3_bringBack_17 ?_
  refine va_put (D := (dC, dI)) (ci := 10) (v := .int (p1f (nn 2))) (ty := .int) (C := RX3) (T := TX3) (N := 20) hx hb hts i_X3 tyX3 tyX3_ok nmX3 hown hK hP hD hS 0 rfl rfl 2 (by decide) (hts _ qw879) (fun _ h9 => h9) rfl (by decide +kernel) rfl rfl (Nat.le_of_ble_eq_true rfl) dX3_bringBack_18 (fun H locs hP hD hS => ?_)
  have hP : va_P (dC, dI) cls ((oX3 (p0a 0) p0a p0k p0n (upw w4 0 2 (p1f (nn 2)))) ++ [(p1a, .inl (p1k, p1n, .inl p1f))]) H := hP
  have hD : va_D A ((oX3 (p0a 0) p0a p0k p0n (upw w4 0 2 (p1f (nn 2)))) ++ [(p1a, .inl (p1k, p1n, .inl p1f))]) := hD
  obtain ⟨w6, ew6, hrun⟩ := let9 hrun
  rw [← ew6] at hP hD
  refine lv_aload_n hx hb dX3_bringBack_21 rfl (lv_at hl 1 rfl) ?_
  refine lv_iconst (v := 3) hx hb dX3_bringBack_22 (by decide) ?_
  refine lv_aload_n hx hb dX3_bringBack_23 rfl (lv_at hl 0 rfl) ?_
  refine va_get (D := (dC, dI)) (ci := 10) (v := .ref (p0a 4)) (C := RX3) (T := TX3) (N := 20) hx hb hts i_X3 hown hK hP 0 rfl rfl 3 (by decide) (hts _ qw880) (fun _ h9 => h9) rfl dX3_bringBack_24 ?_
  refine lv_iconst (v := 0) hx hb dX3_bringBack_27 (by decide) ?_
  refine lv_bipush (v := 16) hx hb dX3_bringBack_28 (by decide) ?_
  obtain ⟨hq7, hrun⟩ := chk9 hrun
  refine va_copyi (ty := .int) (sp := 3) (dp := 0) (n := 16) hx hb (hml.trans hl.1.symm) hown (hts _ qw881) (hts _ qw103) (hts _ qw104) (hts _ qw105) hK hP hD hS 11 1 10 0 rfl rfl rfl rfl rfl (cpk_1 hq7) (cpk_2 hq7) (cpk_3 hq7) (cpk_4 hq7) (cpk_5 hq7) (fun _ _ => rfl) (Nat.le_of_ble_eq_true rfl) (Nat.le_of_ble_eq_true rfl) dX3_bringBack_30 (fun H locs hP hD hS => ?_)
  have hP : va_P (dC, dI) cls ((oX3 (p0a 0) p0a p0k p0n (srw w6 4 (va_cpy p1f (w6 4) (nn 3) (nn 0) (nn 16)))) ++ [(p1a, .inl (p1k, p1n, .inl p1f))]) H := hP
  have hD : va_D A ((oX3 (p0a 0) p0a p0k p0n (srw w6 4 (va_cpy p1f (w6 4) (nn 3) (nn 0) (nn 16)))) ++ [(p1a, .inl (p1k, p1n, .inl p1f))]) := hD
  obtain ⟨w8, ew8, hrun⟩ := let9 hrun
  rw [← ew8] at hP hD
  have ho9 : w8 = o := Option.some.inj hrun
  have hP9 : va_P (dC, dI) cls ((oX3 (p0a 0) p0a p0k p0n o) ++ [(p1a, .inl (p1k, p1n, .inl p1f))]) H := by first | exact hP | (rw [← ho9]; exact hP)
  have hD9 : va_D A ((oX3 (p0a 0) p0a p0k p0n o) ++ [(p1a, .inl (p1k, p1n, .inl p1f))]) := by first | exact hD | (rw [← ho9]; exact hD)
  subst hQ
  exact W.vret hx hb hr (fun t ht hW => ⟨⟨(), rfl, trivial, ⟨by rw [ht]; exact hP9, va_K.moved hW.alike hK, hD9⟩⟩, hS.F ht⟩) hS.2.2 dX3_bringBack_33
def fX3_stop (p0w : ST) (p1 : Int32) : Option ST := (lt9 (upw p0w 0 0 p1) fun (w1 : ST) => (lt9 (upw w1 0 8 0) fun (w2 : ST) => some w2))
set_option maxHeartbeats 16000000 in
set_option maxRecDepth 100000 in
theorem kX3_stop {zs : Nat × Nat} (l : Launch) (dC : Nat → ClassId) (dI : Nat → Nat → Nat) (p0a : Nat → Nat) (p0k : Nat → ClassId) (p0n : Nat → Nat) (p0w : ST) (p1 : Int32) (sz : Nat) (o : ST) (hrun : fX3_stop p0w p1 = some o) : Met l yX3_stop (wz yX3_stop cX3_stop 2 (Option.none : Option Jvm.ClassFile.FieldType)) ({ frames := 0, cells := 0, slots := 0, locals := 0 } : Room) (va_Pc [.ref (p0a 0), .int p1] (PRE zs dC dI (oX3 (p0a 0) p0a p0k p0n p0w) (tX3 p0k) sz)) (va_Qv (fun (_ : Unit) => True) (fun _ t => POST dC dI (oX3 (p0a 0) p0a p0k p0n o) (tX3 p0k) (va_A (oX3 (p0a 0) p0a p0k p0n p0w) sz) t) (va_A (oX3 (p0a 0) p0a p0k p0n p0w) sz)) 0 0 (va_A (oX3 (p0a 0) p0a p0k p0n p0w) sz) := by
  refine Met.ofW (cc := cX3_stop) (maxL := 2) (ret := (Option.none : Option Jvm.ClassFile.FieldType)) (by decide) rfl ?_
  intro p e s m args below meth c s₁ B hml hv
  obtain ⟨rfl, hsz, hP, hK, hD0, hE⟩ := hv
  have hx := B.exec
  have hb := B.bytes
  have hr := B.returns
  have hts0 := atoms_spec (ws := wz yX3_stop cX3_stop 2 (Option.none : Option Jvm.ClassFile.FieldType)) B.pre
  have hts : ∀ w ∈ gw, w.before _ s = true := fun w h => hts0 w (List.mem_cons_of_mem _ h)
  have hown : s.vm.findClass RX3 = some m.cls := findClass_of_methodNamed B.named
  have hlocks := B.notSynchronized
  subst hsz
  have hD := hD0.self (sz := s.heap.size)
  refine gQ9 ?_
  intro Q hQ
  generalize hAe : va_A (oX3 (p0a 0) p0a p0k p0n p0w) s.heap.size = A at hD hE hQ
  have hA : ∀ q : Nat, s.heap.size ≤ q → A q := fun q h => by rw [← hAe]; exact Or.inr h
  have hS : va_S A s.heap s.heap [] := va_S.rf
  have hP : va_P (dC, dI) cls (oX3 (p0a 0) p0a p0k p0n p0w) s.heap := hP
  have hl := lv_entry ([.ref (p0a 0), .int p1]) (n := 2) (Nat.le_of_ble_eq_true rfl)
  rw [lg_entry_eq]
  generalize (lg_sl ([.ref (p0a 0), .int p1]) ++ List.replicate (2 - (lg_sl ([.ref (p0a 0), .int p1])).length) Slot.unset).toArray = ls at hl ⊢
  have hl : lv_has ls 2 [(0, .ref (p0a 0)), (1, .int p1)] := hl
  obtain ⟨H, hHe⟩ : ∃ H, H = s.heap := ⟨_, rfl⟩
  obtain ⟨locs, hle⟩ : ∃ locs : List Loc, locs = [] := ⟨_, rfl⟩
  rw [← hHe] at hP
  have hS : va_S A s.heap H locs := by rw [hHe, hle]; exact hS
  show W p l e ({ frames := 0, cells := 0, slots := 0, locals := 0 } : Room) s m ([.ref (p0a 0), .int p1] : List Value).toArray below meth c s.heap [] 0 0 Q (F0 m 0 ls [])
  rw [← hle]
  refine wH9 hHe ?_
  unfold fX3_stop at hrun
  refine lv_aload_n hx hb dX3_stop_0 rfl (lv_at hl 0 rfl) ?_
  refine lv_iload_n hx hb dX3_stop_1 rfl (lv_at hl 1 rfl) ?_
  refine va_put (D := (dC, dI)) (ci := 10) (v := .int p1) (ty := .int) (C := RX3) (T := TX3) (N := 20) hx hb hts i_X3 tyX3 tyX3_ok nmX3 hown hK hP hD hS 0 rfl rfl 0 (by decide) (hts _ qw877) (fun _ h9 => h9) rfl (by decide +kernel) rfl rfl (Nat.le_of_ble_eq_true rfl) dX3_stop_2 (fun H locs hP hD hS => ?_)
  have hP : va_P (dC, dI) cls (oX3 (p0a 0) p0a p0k p0n (upw p0w 0 0 p1)) H := hP
  have hD : va_D A (oX3 (p0a 0) p0a p0k p0n (upw p0w 0 0 p1)) := hD
  obtain ⟨w1, ew1, hrun⟩ := let9 hrun
  rw [← ew1] at hP hD
  refine lv_aload_n hx hb dX3_stop_5 rfl (lv_at hl 0 rfl) ?_
  refine lv_iconst (v := 0) hx hb dX3_stop_6 (by decide) ?_
  refine va_put (D := (dC, dI)) (ci := 10) (v := .int 0) (ty := .boolean) (C := RX3) (T := TX3) (N := 20) hx hb hts i_X3 tyX3 tyX3_ok nmX3 hown hK hP hD hS 0 rfl rfl 8 (by decide) (hts _ qw883) (fun _ h9 => h9) rfl (by decide +kernel) rfl rfl (Nat.le_of_ble_eq_true rfl) dX3_stop_7 (fun H locs hP hD hS => ?_)
  have hP : va_P (dC, dI) cls (oX3 (p0a 0) p0a p0k p0n (upw w1 0 8 0)) H := hP
  have hD : va_D A (oX3 (p0a 0) p0a p0k p0n (upw w1 0 8 0)) := hD
  obtain ⟨w2, ew2, hrun⟩ := let9 hrun
  rw [← ew2] at hP hD
  have ho9 : w2 = o := Option.some.inj hrun
  have hP9 : va_P (dC, dI) cls (oX3 (p0a 0) p0a p0k p0n o) H := by first | exact hP | (rw [← ho9]; exact hP)
  have hD9 : va_D A (oX3 (p0a 0) p0a p0k p0n o) := by first | exact hD | (rw [← ho9]; exact hD)
  subst hQ
  exact W.vret hx hb hr (fun t ht hW => ⟨⟨(), rfl, trivial, ⟨by rw [ht]; exact hP9, va_K.moved hW.alike hK, hD9⟩⟩, hS.F ht⟩) hS.2.2 dX3_stop_10
def fX3_close_J39 (p0w_27 : ST) (y0_39 : Int32) : Option (Int32 × ST) := (if y0_39 = 0 ∨ y0_39 = 1 then some (y0_39, p0w_27) else none)
def fX3_close_J27 (p0w_27 : ST) : Option (Int32 × ST) := (if (p0w_27 0 9) ≤ 0 then (fX3_close_J39 p0w_27 0) else (fX3_close_J39 p0w_27 1))
def fX3_close (p0w : ST) (p1 : Int32) : Option (Int32 × ST) := (lt9 (upw p0w 0 9 ((p0w 0 9) - 1)) fun (w1 : ST) => (if (w1 0 9) = 0 then ((fX3_stop w1 0).bind fun (o_4 : ST) => (lt9 (upw o_4 0 1 p1) fun (w5 : ST) => (fX3_close_J27 w5))) else (fX3_close_J27 w1)))
set_option maxHeartbeats 16000000 in
set_option maxRecDepth 100000 in
theorem kX3_close {zs : Nat × Nat} (l : Launch) (dC : Nat → ClassId) (dI : Nat → Nat → Nat) (p0a : Nat → Nat) (p0k : Nat → ClassId) (p0n : Nat → Nat) (p0w : ST) (p1 : Int32) (sz : Nat) (o : Int32 × ST) (hrun : fX3_close p0w p1 = some o) : Met l yX3_close (wz yX3_close cX3_close 2 (Option.some Jvm.ClassFile.FieldType.boolean)) ({ frames := 1, cells := 0, slots := 0, locals := 21 } : Room) (va_Pc [.ref (p0a 0), .int p1] (PRE zs dC dI (oX3 (p0a 0) p0a p0k p0n p0w) (tX3 p0k) sz)) (va_Qi (fun (r : Int32) (_ : Unit) => r = (o.1)) (fun _ t => POST dC dI (oX3 (p0a 0) p0a p0k p0n (o.2)) (tX3 p0k) (va_A (oX3 (p0a 0) p0a p0k p0n p0w) sz) t) (va_A (oX3 (p0a 0) p0a p0k p0n p0w) sz)) 0 0 (va_A (oX3 (p0a 0) p0a p0k p0n p0w) sz) := by
  refine Met.ofW (cc := cX3_close) (maxL := 2) (ret := (Option.some Jvm.ClassFile.FieldType.boolean)) (by decide) rfl ?_
  intro p e s m args below meth c s₁ B hml hv
  obtain ⟨rfl, hsz, hP, hK, hD0, hE⟩ := hv
  have hx := B.exec
  have hb := B.bytes
  have hr := B.returns
  have hts0 := atoms_spec (ws := wz yX3_close cX3_close 2 (Option.some Jvm.ClassFile.FieldType.boolean)) B.pre
  have hts : ∀ w ∈ gw, w.before _ s = true := fun w h => hts0 w (List.mem_cons_of_mem _ h)
  have hown : s.vm.findClass RX3 = some m.cls := findClass_of_methodNamed B.named
  have hlocks := B.notSynchronized
  subst hsz
  have hD := hD0.self (sz := s.heap.size)
  refine gQ9 ?_
  intro Q hQ
  generalize hAe : va_A (oX3 (p0a 0) p0a p0k p0n p0w) s.heap.size = A at hD hE hQ
  have hA : ∀ q : Nat, s.heap.size ≤ q → A q := fun q h => by rw [← hAe]; exact Or.inr h
  have hS : va_S A s.heap s.heap [] := va_S.rf
  have hP : va_P (dC, dI) cls (oX3 (p0a 0) p0a p0k p0n p0w) s.heap := hP
  have hl := lv_entry ([.ref (p0a 0), .int p1]) (n := 2) (Nat.le_of_ble_eq_true rfl)
  rw [lg_entry_eq]
  generalize (lg_sl ([.ref (p0a 0), .int p1]) ++ List.replicate (2 - (lg_sl ([.ref (p0a 0), .int p1])).length) Slot.unset).toArray = ls at hl ⊢
  have hl : lv_has ls 2 [(0, .ref (p0a 0)), (1, .int p1)] := hl
  obtain ⟨H, hHe⟩ : ∃ H, H = s.heap := ⟨_, rfl⟩
  obtain ⟨locs, hle⟩ : ∃ locs : List Loc, locs = [] := ⟨_, rfl⟩
  rw [← hHe] at hP
  have hS : va_S A s.heap H locs := by rw [hHe, hle]; exact hS
  show W p l e ({ frames := 1, cells := 0, slots := 0, locals := 21 } : Room) s m ([.ref (p0a 0), .int p1] : List Value).toArray below meth c s.heap [] 0 0 Q (F0 m 0 ls [])
  rw [← hle]
  refine wH9 hHe ?_
  unfold fX3_close at hrun
  refine lv_aload_n hx hb dX3_close_0 rfl (lv_at hl 0 rfl) ?_
  refine lv_dup hx hb dX3_close_1 rfl ?_
  refine va_get (D := (dC, dI)) (ci := 10) (v := .int (p0w 0 9)) (C := RX3) (T := TX3) (N := 20) hx hb hts i_X3 hown hK hP 0 rfl rfl 9 (by decide) (hts _ qw882) (fun _ h9 => h9) rfl dX3_close_2 ?_
  refine lv_iconst (v := 1) hx hb dX3_close_5 (by decide) ?_
  refine lv_isub hx hb dX3_close_6 ?_
  refine va_put (D := (dC, dI)) (ci := 10) (v := .int ((p0w 0 9) - 1)) (ty := .int) (C := RX3) (T := TX3) (N := 20) hx hb hts i_X3 tyX3 tyX3_ok nmX3 hown hK hP hD hS 0 rfl rfl 9 (by decide) (hts _ qw882) (fun _ h9 => h9) rfl (by decide +kernel) rfl rfl (Nat.le_of_ble_eq_true rfl) dX3_close_7 (fun H locs hP hD hS => ?_)
  have hP : va_P (dC, dI) cls (oX3 (p0a 0) p0a p0k p0n (upw p0w 0 9 ((p0w 0 9) - 1))) H := hP
  have hD : va_D A (oX3 (p0a 0) p0a p0k p0n (upw p0w 0 9 ((p0w 0 9) - 1))) := hD
  obtain ⟨w1, ew1, hrun⟩ := let9 hrun
  rw [← ew1] at hP hD
  refine lv_aload_n hx hb dX3_close_10 rfl (lv_at hl 0 rfl) ?_
  refine va_get (D := (dC, dI)) (ci := 10) (v := .int (w1 0 9)) (C := RX3) (T := TX3) (N := 20) hx hb hts i_X3 hown hK hP 0 rfl rfl 9 (by decide) (hts _ qw882) (fun _ h9 => h9) rfl dX3_close_11 ?_
  have J27 : ∀ (p0w_27 : ST) (H : Heap) (locs : List Loc) (ls : Array Slot), (fX3_close_J27 p0w_27) = some o → va_P (dC, dI) cls (oX3 (p0a 0) p0a p0k p0n p0w_27) H → va_D A (oX3 (p0a 0) p0a p0k p0n p0w_27) → va_K (dC, dI) cls (tX3 p0k) s → va_S A s.heap H locs → lv_has ls 2 [(0, .ref (p0a 0))] → W p l e ({ frames := 1, cells := 0, slots := 0, locals := 21 } : Room) s m ([.ref (p0a 0), .int p1] : List Value).toArray below meth c H locs 0 0 Q (F0 m 27 ls []) := by
    intro p0w_27 H locs ls hrun hP hD hK hS hl 
    unfold fX3_close_J27 at hrun
    refine lv_aload_n hx hb dX3_close_27 rfl (lv_at hl 0 rfl) ?_
    refine va_get (D := (dC, dI)) (ci := 10) (v := .int (p0w_27 0 9)) (C := RX3) (T := TX3) (N := 20) hx hb hts i_X3 hown hK hP 0 rfl rfl 9 (by decide) (hts _ qw882) (fun _ h9 => h9) rfl dX3_close_28 ?_
    have J39 : ∀ (y0_39 : Int32) (H : Heap) (locs : List Loc) (ls : Array Slot), (fX3_close_J39 p0w_27 y0_39) = some o → va_P (dC, dI) cls (oX3 (p0a 0) p0a p0k p0n p0w_27) H → va_D A (oX3 (p0a 0) p0a p0k p0n p0w_27) → va_K (dC, dI) cls (tX3 p0k) s → va_S A s.heap H locs → lv_has ls 2 [] → W p l e ({ frames := 1, cells := 0, slots := 0, locals := 21 } : Room) s m ([.ref (p0a 0), .int p1] : List Value).toArray below meth c H locs 0 0 Q (F0 m 39 ls [.int y0_39]) := by
      intro y0_39 H locs ls hrun hP hD hK hS hl 
      unfold fX3_close_J39 at hrun
      obtain ⟨hz9, hrun⟩ := chk9 hrun
      have ho9 : (y0_39, p0w_27) = o := Option.some.inj hrun
      have hP9 : va_P (dC, dI) cls (oX3 (p0a 0) p0a p0k p0n (o.2)) H := by first | exact hP | (rw [← ho9]; exact hP)
      have hD9 : va_D A (oX3 (p0a 0) p0a p0k p0n (o.2)) := by first | exact hD | (rw [← ho9]; exact hD)
      subst hQ
      exact W.zret (v := y0_39) hx hb hr (bz9 hz9) (fun t ht hW => ⟨⟨y0_39, (), rfl, (by rw [← ho9]), ⟨by rw [ht]; exact hP9, va_K.moved hW.alike hK, hD9⟩⟩, hS.F ht⟩) hS.2.2 dX3_close_39
    rcases br9 hrun with ⟨hc2, hrun⟩ | ⟨hc2, hrun⟩
    · refine lv_if_le (tgt := 38) hx hb dX3_close_31 (by decide) (fun _ => ?_) (fun c => absurd hc2 c)
      refine lv_iconst (v := 0) hx hb dX3_close_38 (by decide) ?_
      exact J39 0 _ _ _ hrun hP hD hK hS (lv_sub hl [] rfl)
    · refine lv_if_le (tgt := 38) hx hb dX3_close_31 (by decide) (fun c => absurd c hc2) (fun _ => ?_)
      refine lv_iconst (v := 1) hx hb dX3_close_34 (by decide) ?_
      refine lv_goto (tgt := 39) hx hb dX3_close_35 (by decide) ?_
      exact J39 1 _ _ _ hrun hP hD hK hS (lv_sub hl [] rfl)
  rcases br9 hrun with ⟨hc3, hrun⟩ | ⟨hc3, hrun⟩
  · refine lv_if_ne (tgt := 27) hx hb dX3_close_14 (by decide) (fun c => absurd hc3 c) (fun _ => ?_)
    refine lv_aload_n hx hb dX3_close_17 rfl (lv_at hl 0 rfl) ?_
    refine lv_iconst (v := 0) hx hb dX3_close_18 (by decide) ?_
    obtain ⟨o_4, hc_4, hrun⟩ := bnd9 hrun
    have hPc := hP.sub (ws' := (oX3 (p0a 0) p0a p0k p0n w1)) [0, 1, 2, 3, 4, 5, 6, 7, 8, 9, 10] rfl
    have hDc := hD.sub (ws' := (oX3 (p0a 0) p0a p0k p0n w1)) [0, 1, 2, 3, 4, 5, 6, 7, 8, 9, 10] (by decide) rfl
    have hKc := hK.sub (tys' := (tX3 p0k)) [0, 1, 2, 3, 4, 5, 6, 7, 8, 9] rfl
    have hFc := va_free (wc := (oX3 (p0a 0) p0a p0k p0n w1)) hD hS hA [0, 1, 2, 3, 4, 5, 6, 7, 8, 9, 10] rfl
    refine va_callv (va_runV (As := [.int 0]) (rest := []) ⟨hx, hb, hml, hown, hts⟩ (kX3_stop l dC dI (p0a := (st0 (p0a 0) p0a)) (p0k := p0k) (p0n := p0n) (p0w := w1) (p1 := 0) (sz := _) (o := o_4) (hrun := hc_4)) (cwV 1 hts (gi_V qw885 qw886 qw887 qw888 (gi_z qw884)) rfl rfl rfl (by decide +kernel) ⟨Nat.le_of_ble_eq_true rfl, Nat.le_of_ble_eq_true rfl⟩) ⟨PRE.blind, va_recv hKc hPc (ci := 10) (q0 := 0) rfl rfl, PRE.of hE hS hFc hPc hKc hDc⟩ rfl rfl hl.1 rfl (lv_room (Nat.le_of_ble_eq_true rfl)) dX3_close_19 ⟨(Nat.le_of_ble_eq_true rfl), (Nat.le_of_ble_eq_true rfl)⟩) hS (fun q _ h => hFc q h) hFc (fun u t H locs ht hvm hw hB hz1 hk1 hS => ?_)
    obtain ⟨hP, hD, hK⟩ := JOIN (wr := ([] : va_W)) hP hD hK [0, 1, 2, 3, 4, 5, 6, 7, 8, 9, 10] [] [] rfl rfl (by decide) (by decide) rfl hk1 hFc ht hvm hB
    have hP : va_P (dC, dI) cls (oX3 (p0a 0) p0a p0k p0n o_4) H := hP.sub [0, 1, 2, 3, 4, 5, 6, 7, 8, 9, 10] rfl
    have hD : va_D A (oX3 (p0a 0) p0a p0k p0n o_4) := hD.sub [0, 1, 2, 3, 4, 5, 6, 7, 8, 9, 10] (by decide) rfl
    have hK : va_K (dC, dI) cls (tX3 p0k) s := hK.sub [0, 1, 2, 3, 4, 5, 6, 7, 8, 9] rfl
    refine lv_aload_n hx hb dX3_close_22 rfl (lv_at hl 0 rfl) ?_
    refine lv_iload_n hx hb dX3_close_23 rfl (lv_at hl 1 rfl) ?_
    refine va_put (D := (dC, dI)) (ci := 10) (v := .int p1) (ty := .int) (C := RX3) (T := TX3) (N := 20) hx hb hts i_X3 tyX3 tyX3_ok nmX3 hown hK hP hD hS 0 rfl rfl 1 (by decide) (hts _ qw878) (fun _ h9 => h9) rfl (by decide +kernel) rfl rfl (Nat.le_of_ble_eq_true rfl) dX3_close_24 (fun H locs hP hD hS => ?_)
    have hP : va_P (dC, dI) cls (oX3 (p0a 0) p0a p0k p0n (upw o_4 0 1 p1)) H := hP
    have hD : va_D A (oX3 (p0a 0) p0a p0k p0n (upw o_4 0 1 p1)) := hD
    obtain ⟨w5, ew5, hrun⟩ := let9 hrun
    rw [← ew5] at hP hD
    exact J27 w5 _ _ _ hrun hP hD hK hS (lv_sub hl [0] rfl)
  · refine lv_if_ne (tgt := 27) hx hb dX3_close_14 (by decide) (fun _ => ?_) (fun c => absurd c hc3)
    exact J27 w1 _ _ _ hrun hP hD hK hS (lv_sub hl [0] rfl)
def fX3_endAlike_J24 (kk2 : Int32 → Option (Sum Int32 Unit)) (v2_2 : Int32) : Option (Sum Int32 Unit) := (kk2 (v2_2 + 1))
def fX3_endAlike_L2 (p0n : Nat) (p0f : RI) (p1n : Nat) (p1f : RI) : Nat → Int32 → Option (Sum Int32 Unit)
  | 0 => fun _ => none
  | n_2 + 1 => fun v2_2 => (if 19 ≤ v2_2 then some (Sum.inr ()) else (if v2_2 = 2 then (fX3_endAlike_J24 (fX3_endAlike_L2 p0n p0f p1n p1f n_2) v2_2) else (if ixb v2_2 p0n = true then (if ixb v2_2 p1n = true then (if (p0f (nn v2_2)) = (p1f (nn v2_2)) then (fX3_endAlike_J24 (fX3_endAlike_L2 p0n p0f p1n p1f n_2) v2_2) else some (Sum.inl 0)) else none) else none)))
def fX3_endAlike (p0n : Nat) (p0f : RI) (p1n : Nat) (p1f : RI) : Option Int32 := ((fX3_endAlike_L2 p0n p0f p1n p1f NF 0).bind fun (o2 : (Sum Int32 Unit)) => Sum.elim (fun r => some r) (fun (t2 : Unit) => some 1) o2)
set_option maxHeartbeats 16000000 in
set_option maxRecDepth 100000 in
theorem kX3_endAlike {zs : Nat × Nat} (l : Launch) (dC : Nat → ClassId) (dI : Nat → Nat → Nat) (p0a : Nat) (p0k : ClassId) (p0n : Nat) (p0f : RI) (p1a : Nat) (p1k : ClassId) (p1n : Nat) (p1f : RI) (sz : Nat) (o : Int32) (hrun : fX3_endAlike p0n p0f p1n p1f = some o) : Met l yX3_endAlike (wz yX3_endAlike cX3_endAlike 3 (Option.some Jvm.ClassFile.FieldType.boolean)) ({ frames := 0, cells := 0, slots := 0, locals := 0 } : Room) (va_Pc [.ref p0a, .ref p1a] (PRE zs dC dI [(p0a, .inl (p0k, p0n, .inl p0f)), (p1a, .inl (p1k, p1n, .inl p1f))] [(p0k, .int), (p1k, .int)] sz)) (va_Qi (fun (r : Int32) (_ : Unit) => r = o) (fun _ t => POST dC dI [(p0a, .inl (p0k, p0n, .inl p0f)), (p1a, .inl (p1k, p1n, .inl p1f))] [(p0k, .int), (p1k, .int)] (va_A [(p0a, .inl (p0k, p0n, .inl p0f)), (p1a, .inl (p1k, p1n, .inl p1f))] sz) t) (va_A [(p0a, .inl (p0k, p0n, .inl p0f)), (p1a, .inl (p1k, p1n, .inl p1f))] sz)) 0 0 (va_A [(p0a, .inl (p0k, p0n, .inl p0f)), (p1a, .inl (p1k, p1n, .inl p1f))] sz) := by
  refine Met.ofW (cc := cX3_endAlike) (maxL := 3) (ret := (Option.some Jvm.ClassFile.FieldType.boolean)) (by decide) rfl ?_
  intro p e s m args below meth c s₁ B hml hv
  obtain ⟨rfl, hsz, hP, hK, hD0, hE⟩ := hv
  have hx := B.exec
  have hb := B.bytes
  have hr := B.returns
  have hts0 := atoms_spec (ws := wz yX3_endAlike cX3_endAlike 3 (Option.some Jvm.ClassFile.FieldType.boolean)) B.pre
  have hts : ∀ w ∈ gw, w.before _ s = true := fun w h => hts0 w (List.mem_cons_of_mem _ h)
  have hown : s.vm.findClass RX3 = some m.cls := findClass_of_methodNamed B.named
  have hlocks := B.notSynchronized
  subst hsz
  have hD := hD0.self (sz := s.heap.size)
  refine gQ9 ?_
  intro Q hQ
  generalize hAe : va_A [(p0a, .inl (p0k, p0n, .inl p0f)), (p1a, .inl (p1k, p1n, .inl p1f))] s.heap.size = A at hD hE hQ
  have hA : ∀ q : Nat, s.heap.size ≤ q → A q := fun q h => by rw [← hAe]; exact Or.inr h
  have hS : va_S A s.heap s.heap [] := va_S.rf
  have hP : va_P (dC, dI) cls [(p0a, .inl (p0k, p0n, .inl p0f)), (p1a, .inl (p1k, p1n, .inl p1f))] s.heap := hP
  have hl := lv_entry ([.ref p0a, .ref p1a]) (n := 3) (Nat.le_of_ble_eq_true rfl)
  rw [lg_entry_eq]
  generalize (lg_sl ([.ref p0a, .ref p1a]) ++ List.replicate (3 - (lg_sl ([.ref p0a, .ref p1a])).length) Slot.unset).toArray = ls at hl ⊢
  have hl : lv_has ls 3 [(0, .ref p0a), (1, .ref p1a)] := hl
  obtain ⟨H, hHe⟩ : ∃ H, H = s.heap := ⟨_, rfl⟩
  obtain ⟨locs, hle⟩ : ∃ locs : List Loc, locs = [] := ⟨_, rfl⟩
  rw [← hHe] at hP
  have hS : va_S A s.heap H locs := by rw [hHe, hle]; exact hS
  show W p l e ({ frames := 0, cells := 0, slots := 0, locals := 0 } : Room) s m ([.ref p0a, .ref p1a] : List Value).toArray below meth c s.heap [] 0 0 Q (F0 m 0 ls [])
  rw [← hle]
  refine wH9 hHe ?_
  unfold fX3_endAlike at hrun
  refine lv_iconst (v := 0) hx hb dX3_endAlike_0 (by decide) ?_
  refine lv_istore_n (lv' := [(2, .int 0), (0, .ref p0a), (1, .ref p1a)]) hx hb dX3_endAlike_1 rfl hl (by decide) rfl (fun ls hl => ?_)
  have L2 : ∀ (n_2 : Nat) (v2_2 : Int32) (o2 : (Sum Int32 Unit)) (H : Heap) (locs : List Loc) (ls : Array Slot), (fX3_endAlike_L2 p0n p0f p1n p1f n_2) v2_2 = some o2 → va_P (dC, dI) cls [(p0a, .inl (p0k, p0n, .inl p0f)), (p1a, .inl (p1k, p1n, .inl p1f))] H → va_D A [(p0a, .inl (p0k, p0n, .inl p0f)), (p1a, .inl (p1k, p1n, .inl p1f))] → va_K (dC, dI) cls [(p0k, .int), (p1k, .int)] s → va_S A s.heap H locs → lv_has ls 3 [(0, .ref p0a), (1, .ref p1a), (2, .int v2_2)] → (∀ r, o2 = Sum.inl r → r = o) → (∀ (t2 : Unit), o2 = Sum.inr t2 → ∀ (H : Heap) (locs : List Loc) (ls : Array Slot), va_P (dC, dI) cls [(p0a, .inl (p0k, p0n, .inl p0f)), (p1a, .inl (p1k, p1n, .inl p1f))] H → va_D A [(p0a, .inl (p0k, p0n, .inl p0f)), (p1a, .inl (p1k, p1n, .inl p1f))] → va_K (dC, dI) cls [(p0k, .int), (p1k, .int)] s → va_S A s.heap H locs → lv_has ls 3 [] → W p l e ({ frames := 0, cells := 0, slots := 0, locals := 0 } : Room) s m ([.ref p0a, .ref p1a] : List Value).toArray below meth c H locs 0 0 Q (F0 m 30 ls [])) → W p l e ({ frames := 0, cells := 0, slots := 0, locals := 0 } : Room) s m ([.ref p0a, .ref p1a] : List Value).toArray below meth c H locs 0 0 Q (F0 m 2 ls []) := by
    intro n_2
    induction n_2 with
    | zero => intro v2_2 o2 H locs ls hrun; exact (no9 rfl hrun).elim
    | succ n_2 IH2 =>
      intro v2_2 o2 H locs ls hrun hP hD hK hS hl hr2 hk2
      unfold fX3_endAlike_L2 at hrun
      refine lv_iload_n hx hb dX3_endAlike_2 rfl (lv_at hl 2 rfl) ?_
      refine lv_bipush (v := 19) hx hb dX3_endAlike_3 (by decide) ?_
      rcases br9 hrun with ⟨hc1, hrun⟩ | ⟨hc1, hrun⟩
      · refine lv_icmp_ge (tgt := 30) hx hb dX3_endAlike_5 (by decide) (fun _ => ?_) (fun c => absurd hc1 c)
        obtain rfl := (Option.some.inj hrun)
        exact hk2 _ rfl _ _ _ hP hD hK hS (lv_sub hl [] rfl)
      · refine lv_icmp_ge (tgt := 30) hx hb dX3_endAlike_5 (by decide) (fun c => absurd c hc1) (fun _ => ?_)
        refine lv_iload_n hx hb dX3_endAlike_8 rfl (lv_at hl 2 rfl) ?_
        refine lv_iconst (v := 2) hx hb dX3_endAlike_9 (by decide) ?_
        have J24 : ∀ (H : Heap) (locs : List Loc) (ls : Array Slot), (fX3_endAlike_J24 (fX3_endAlike_L2 p0n p0f p1n p1f n_2) v2_2) = some o2 → va_P (dC, dI) cls [(p0a, .inl (p0k, p0n, .inl p0f)), (p1a, .inl (p1k, p1n, .inl p1f))] H → va_D A [(p0a, .inl (p0k, p0n, .inl p0f)), (p1a, .inl (p1k, p1n, .inl p1f))] → va_K (dC, dI) cls [(p0k, .int), (p1k, .int)] s → va_S A s.heap H locs → lv_has ls 3 [(0, .ref p0a), (1, .ref p1a), (2, .int v2_2)] → W p l e ({ frames := 0, cells := 0, slots := 0, locals := 0 } : Room) s m ([.ref p0a, .ref p1a] : List Value).toArray below meth c H locs 0 0 Q (F0 m 24 ls []) := by
          intro  H locs ls hrun hP hD hK hS hl 
          unfold fX3_endAlike_J24 at hrun
          refine lv_iinc (v := (v2_2 + 1)) (lv' := [(2, .int (v2_2 + 1)), (0, .ref p0a), (1, .ref p1a)]) hx hb dX3_endAlike_24 hl (k := 2) rfl rfl (by decide) rfl (fun ls hl => ?_)
          refine lv_goto (tgt := 2) hx hb dX3_endAlike_27 (by decide) ?_
          exact IH2 (v2_2 + 1) o2 _ _ _ hrun hP hD hK hS (lv_sub hl [1, 2, 0] rfl) hr2 hk2
        rcases br9 hrun with ⟨hc2, hrun⟩ | ⟨hc2, hrun⟩
        · refine lv_icmp_eq (tgt := 24) hx hb dX3_endAlike_10 (by decide) (fun _ => ?_) (fun c => absurd hc2 c)
          exact J24 _ _ _ hrun hP hD hK hS (lv_sub hl [0, 1, 2] rfl)
        · refine lv_icmp_eq (tgt := 24) hx hb dX3_endAlike_10 (by decide) (fun c => absurd c hc2) (fun _ => ?_)
          refine lv_aload_n hx hb dX3_endAlike_13 rfl (lv_at hl 0 rfl) ?_
          refine lv_iload_n hx hb dX3_endAlike_14 rfl (lv_at hl 2 rfl) ?_
          obtain ⟨hq3, hrun⟩ := chk9 hrun
          refine va_iald hx hb hK hP 0 0 rfl rfl (ixb_in hq3) dX3_endAlike_15 ?_
          refine lv_aload_n hx hb dX3_endAlike_16 rfl (lv_at hl 1 rfl) ?_
          refine lv_iload_n hx hb dX3_endAlike_17 rfl (lv_at hl 2 rfl) ?_
          obtain ⟨hq4, hrun⟩ := chk9 hrun
          refine va_iald hx hb hK hP 1 1 rfl rfl (ixb_in hq4) dX3_endAlike_18 ?_
          rcases br9 hrun with ⟨hc5, hrun⟩ | ⟨hc5, hrun⟩
          · refine lv_icmp_eq (tgt := 24) hx hb dX3_endAlike_19 (by decide) (fun _ => ?_) (fun c => absurd hc5 c)
            exact J24 _ _ _ hrun hP hD hK hS (lv_sub hl [0, 1, 2] rfl)
          · refine lv_icmp_eq (tgt := 24) hx hb dX3_endAlike_19 (by decide) (fun c => absurd c hc5) (fun _ => ?_)
            refine lv_iconst (v := 0) hx hb dX3_endAlike_22 (by decide) ?_
            have ho9 : 0 = o := hr2 _ (Option.some.inj hrun).symm
            have hP9 : va_P (dC, dI) cls [(p0a, .inl (p0k, p0n, .inl p0f)), (p1a, .inl (p1k, p1n, .inl p1f))] H := by first | exact hP | (rw [← ho9]; exact hP)
            have hD9 : va_D A [(p0a, .inl (p0k, p0n, .inl p0f)), (p1a, .inl (p1k, p1n, .inl p1f))] := by first | exact hD | (rw [← ho9]; exact hD)
            subst hQ
            exact W.zret (v := 0) hx hb hr (by decide) (fun t ht hW => ⟨⟨0, (), rfl, (by rw [← ho9]), ⟨by rw [ht]; exact hP9, va_K.moved hW.alike hK, hD9⟩⟩, hS.F ht⟩) hS.2.2 dX3_endAlike_23
  obtain ⟨o2, hc2, hrun⟩ := bnd9 hrun
  refine L2 NF 0 o2 _ _ _ hc2 hP hD hK hS (lv_sub hl [1, 2, 0] rfl) (fun r e9 => by subst e9; exact Option.some.inj hrun) ?_
  intro t2 e9
  subst e9
  replace hrun := el9 hrun
  intro H locs ls hP hD hK hS hl
  have hl := hl
  refine lv_iconst (v := 1) hx hb dX3_endAlike_30 (by decide) ?_
  have ho9 : 1 = o := Option.some.inj hrun
  have hP9 : va_P (dC, dI) cls [(p0a, .inl (p0k, p0n, .inl p0f)), (p1a, .inl (p1k, p1n, .inl p1f))] H := by first | exact hP | (rw [← ho9]; exact hP)
  have hD9 : va_D A [(p0a, .inl (p0k, p0n, .inl p0f)), (p1a, .inl (p1k, p1n, .inl p1f))] := by first | exact hD | (rw [← ho9]; exact hD)
  subst hQ
  exact W.zret (v := 1) hx hb hr (by decide) (fun t ht hW => ⟨⟨1, (), rfl, (by rw [← ho9]), ⟨by rw [ht]; exact hP9, va_K.moved hW.alike hK, hD9⟩⟩, hS.F ht⟩) hS.2.2 dX3_endAlike_31
def fX3_pop (p0w : ST) : Option (Int32 × ST) := (if (p0w 0 19) = 0 then some (0, p0w) else (lt9 (upw p0w 0 19 ((p0w 0 19) - 1)) fun (w2 : ST) => (if ixb (w2 0 19) 512 = true then some ((w2 19 (nn (w2 0 19))), w2) else none)))
set_option maxHeartbeats 16000000 in
set_option maxRecDepth 100000 in
theorem kX3_pop {zs : Nat × Nat} (l : Launch) (dC : Nat → ClassId) (dI : Nat → Nat → Nat) (p0a : Nat → Nat) (p0k : Nat → ClassId) (p0n : Nat → Nat) (p0w : ST) (sz : Nat) (o : Int32 × ST) (hrun : fX3_pop p0w = some o) : Met l yX3_pop (wz yX3_pop cX3_pop 1 (Option.some Jvm.ClassFile.FieldType.int)) ({ frames := 0, cells := 0, slots := 0, locals := 0 } : Room) (va_Pc [.ref (p0a 0)] (PRE zs dC dI (oX3 (p0a 0) p0a p0k p0n p0w) (tX3 p0k) sz)) (va_Qi (fun (r : Int32) (_ : Unit) => r = (o.1)) (fun _ t => POST dC dI (oX3 (p0a 0) p0a p0k p0n (o.2)) (tX3 p0k) (va_A (oX3 (p0a 0) p0a p0k p0n p0w) sz) t) (va_A (oX3 (p0a 0) p0a p0k p0n p0w) sz)) 0 0 (va_A (oX3 (p0a 0) p0a p0k p0n p0w) sz) := by
  refine Met.ofW (cc := cX3_pop) (maxL := 1) (ret := (Option.some Jvm.ClassFile.FieldType.int)) (by decide) rfl ?_
  intro p e s m args below meth c s₁ B hml hv
  obtain ⟨rfl, hsz, hP, hK, hD0, hE⟩ := hv
  have hx := B.exec
  have hb := B.bytes
  have hr := B.returns
  have hts0 := atoms_spec (ws := wz yX3_pop cX3_pop 1 (Option.some Jvm.ClassFile.FieldType.int)) B.pre
  have hts : ∀ w ∈ gw, w.before _ s = true := fun w h => hts0 w (List.mem_cons_of_mem _ h)
  have hown : s.vm.findClass RX3 = some m.cls := findClass_of_methodNamed B.named
  have hlocks := B.notSynchronized
  subst hsz
  have hD := hD0.self (sz := s.heap.size)
  refine gQ9 ?_
  intro Q hQ
  generalize hAe : va_A (oX3 (p0a 0) p0a p0k p0n p0w) s.heap.size = A at hD hE hQ
  have hA : ∀ q : Nat, s.heap.size ≤ q → A q := fun q h => by rw [← hAe]; exact Or.inr h
  have hS : va_S A s.heap s.heap [] := va_S.rf
  have hP : va_P (dC, dI) cls (oX3 (p0a 0) p0a p0k p0n p0w) s.heap := hP
  have hl := lv_entry ([.ref (p0a 0)]) (n := 1) (Nat.le_of_ble_eq_true rfl)
  rw [lg_entry_eq]
  generalize (lg_sl ([.ref (p0a 0)]) ++ List.replicate (1 - (lg_sl ([.ref (p0a 0)])).length) Slot.unset).toArray = ls at hl ⊢
  have hl : lv_has ls 1 [(0, .ref (p0a 0))] := hl
  obtain ⟨H, hHe⟩ : ∃ H, H = s.heap := ⟨_, rfl⟩
  obtain ⟨locs, hle⟩ : ∃ locs : List Loc, locs = [] := ⟨_, rfl⟩
  rw [← hHe] at hP
  have hS : va_S A s.heap H locs := by rw [hHe, hle]; exact hS
  show W p l e ({ frames := 0, cells := 0, slots := 0, locals := 0 } : Room) s m ([.ref (p0a 0)] : List Value).toArray below meth c s.heap [] 0 0 Q (F0 m 0 ls [])
  rw [← hle]
  refine wH9 hHe ?_
  unfold fX3_pop at hrun
  refine lv_aload_n hx hb dX3_pop_0 rfl (lv_at hl 0 rfl) ?_
  refine va_get (D := (dC, dI)) (ci := 10) (v := .int (p0w 0 19)) (C := RX3) (T := TX3) (N := 20) hx hb hts i_X3 hown hK hP 0 rfl rfl 19 (by decide) (hts _ qw901) (fun _ h9 => h9) rfl dX3_pop_1 ?_
  rcases br9 hrun with ⟨hc1, hrun⟩ | ⟨hc1, hrun⟩
  · refine lv_if_ne (tgt := 9) hx hb dX3_pop_4 (by decide) (fun c => absurd hc1 c) (fun _ => ?_)
    refine lv_iconst (v := 0) hx hb dX3_pop_7 (by decide) ?_
    have ho9 : (0, p0w) = o := Option.some.inj hrun
    have hP9 : va_P (dC, dI) cls (oX3 (p0a 0) p0a p0k p0n (o.2)) H := by first | exact hP | (rw [← ho9]; exact hP)
    have hD9 : va_D A (oX3 (p0a 0) p0a p0k p0n (o.2)) := by first | exact hD | (rw [← ho9]; exact hD)
    subst hQ
    exact W.iret (v := 0) hx hb hr (fun t ht hW => ⟨⟨0, (), rfl, (by rw [← ho9]), ⟨by rw [ht]; exact hP9, va_K.moved hW.alike hK, hD9⟩⟩, hS.F ht⟩) hS.2.2 dX3_pop_8
  · refine lv_if_ne (tgt := 9) hx hb dX3_pop_4 (by decide) (fun _ => ?_) (fun c => absurd c hc1)
    refine lv_aload_n hx hb dX3_pop_9 rfl (lv_at hl 0 rfl) ?_
    refine lv_dup hx hb dX3_pop_10 rfl ?_
    refine va_get (D := (dC, dI)) (ci := 10) (v := .int (p0w 0 19)) (C := RX3) (T := TX3) (N := 20) hx hb hts i_X3 hown hK hP 0 rfl rfl 19 (by decide) (hts _ qw901) (fun _ h9 => h9) rfl dX3_pop_11 ?_
    refine lv_iconst (v := 1) hx hb dX3_pop_14 (by decide) ?_
    refine lv_isub hx hb dX3_pop_15 ?_
    refine va_put (D := (dC, dI)) (ci := 10) (v := .int ((p0w 0 19) - 1)) (ty := .int) (C := RX3) (T := TX3) (N := 20) hx hb hts i_X3 tyX3 tyX3_ok nmX3 hown hK hP hD hS 0 rfl rfl 19 (by decide) (hts _ qw901) (fun _ h9 => h9) rfl (by decide +kernel) rfl rfl (Nat.le_of_ble_eq_true rfl) dX3_pop_16 (fun H locs hP hD hS => ?_)
    have hP : va_P (dC, dI) cls (oX3 (p0a 0) p0a p0k p0n (upw p0w 0 19 ((p0w 0 19) - 1))) H := hP
    have hD : va_D A (oX3 (p0a 0) p0a p0k p0n (upw p0w 0 19 ((p0w 0 19) - 1))) := hD
    obtain ⟨w2, ew2, hrun⟩ := let9 hrun
    rw [← ew2] at hP hD
    refine lv_aload_n hx hb dX3_pop_19 rfl (lv_at hl 0 rfl) ?_
    refine va_get (D := (dC, dI)) (ci := 10) (v := .ref (p0a 19)) (C := RX3) (T := TX3) (N := 20) hx hb hts i_X3 hown hK hP 0 rfl rfl 18 (by decide) (hts _ qw902) (fun _ h9 => h9) rfl dX3_pop_20 ?_
    refine lv_aload_n hx hb dX3_pop_23 rfl (lv_at hl 0 rfl) ?_
    refine va_get (D := (dC, dI)) (ci := 10) (v := .int (w2 0 19)) (C := RX3) (T := TX3) (N := 20) hx hb hts i_X3 hown hK hP 0 rfl rfl 19 (by decide) (hts _ qw901) (fun _ h9 => h9) rfl dX3_pop_24 ?_
    obtain ⟨hq3, hrun⟩ := chk9 hrun
    refine va_iald hx hb hK hP 10 9 rfl rfl (ixb_in hq3) dX3_pop_27 ?_
    have ho9 : ((w2 19 (nn (w2 0 19))), w2) = o := Option.some.inj hrun
    have hP9 : va_P (dC, dI) cls (oX3 (p0a 0) p0a p0k p0n (o.2)) H := by first | exact hP | (rw [← ho9]; exact hP)
    have hD9 : va_D A (oX3 (p0a 0) p0a p0k p0n (o.2)) := by first | exact hD | (rw [← ho9]; exact hD)
    subst hQ
    exact W.iret (v := (w2 19 (nn (w2 0 19)))) hx hb hr (fun t ht hW => ⟨⟨(w2 19 (nn (w2 0 19))), (), rfl, (by rw [← ho9]), ⟨by rw [ht]; exact hP9, va_K.moved hW.alike hK, hD9⟩⟩, hS.F ht⟩) hS.2.2 dX3_pop_28
def fX3_enter_L47 (p0w : ST) : Nat → Int32 → ST → Option ST
  | 0 => fun _ _ => none
  | n_47 + 1 => fun v5_47 p0w_47 => (if v5_47 < 0 then some p0w_47 else ((fX3_pop p0w_47).bind fun (o_6 : Int32 × ST) => (if ixb (((p0w 0 9) * 4) + v5_47) 32 = true then (lt9 (upw (o_6.2) 15 (nn (((p0w 0 9) * 4) + v5_47)) (o_6.1)) fun (w9 : ST) => ((fX3_enter_L47 p0w n_47) (v5_47 + (-1)) w9)) else none)))
def fX3_enter_J126 (p0n : Nat → Nat) (p0w : ST) (w15 : ST) (y0_126 : Int32) : Option ST := (if ixb (p0w 0 9) 8 = true then (lt9 (upw w15 12 (nn (p0w 0 9)) y0_126) fun (w17 : ST) => ((fJ7_fill_fda19 2560 (w17 16) ((p0w 0 9) * 320) (((p0w 0 9) + 1) * 320) 0).bind fun (o_18 : RI) => ((fJ7_fill_fda19 (p0n 17) ((srw w17 16 o_18) 17) ((p0w 0 9) * ((srw w17 16 o_18) 0 17)) (((p0w 0 9) + 1) * ((srw w17 16 o_18) 0 17)) 0).bind fun (o_19 : RI) => some (srw (srw w17 16 o_18) 17 o_19)))) else none)
def fX3_enter (p0n : Nat → Nat) (p0w : ST) (p1 : Int32) (p2 : Int32) (p0_4w : ST) : Option ST := (if (p0w 0 9) = 8 then ((fX3_stop p0w 3).bind fun (o_2 : ST) => some o_2) else (lt9 (upw p0w 0 9 ((p0w 0 9) + 1)) fun (w3 : ST) => (if ixb p2 6 = true then ((fX3_enter_L47 p0w NF ((p0_4w 4 (nn p2)) - 1) w3).bind fun (o47 : ST) => (if ixb (p0w 0 9) 8 = true then (lt9 (upw o47 11 (nn (p0w 0 9)) p2) fun (w11 : ST) => (if ixb (p0w 0 9) 8 = true then (lt9 (upw w11 13 (nn (p0w 0 9)) 0) fun (w13 : ST) => (if ixb (p0w 0 9) 8 = true then (lt9 (upw w13 14 (nn (p0w 0 9)) (-1)) fun (w15 : ST) => (if p1 = 0 then (if ixb p2 6 = true then (fX3_enter_J126 p0n p0w w15 (p0_4w 6 (nn p2))) else none) else (if p1 = 1 then (fX3_enter_J126 p0n p0w w15 (-2)) else (fX3_enter_J126 p0n p0w w15 0)))) else none)) else none)) else none)) else none)))
set_option maxHeartbeats 16000000 in
set_option maxRecDepth 100000 in
theorem kX3_enter {zs : Nat × Nat} (l : Launch) (dC : Nat → ClassId) (dI : Nat → Nat → Nat) (p0a : Nat → Nat) (p0k : Nat → ClassId) (p0n : Nat → Nat) (p0w : ST) (p1 : Int32) (p2 : Int32) (p0_4a : Nat → Nat) (p0_4k : Nat → ClassId) (p0_4w : ST) (p0_4l : SL) (sz : Nat) (o : ST) (hrun : fX3_enter p0n p0w p1 p2 p0_4w = some o) : Met l yX3_enter (wz yX3_enter cX3_enter 6 (Option.none : Option Jvm.ClassFile.FieldType)) ({ frames := 2, cells := 0, slots := 0, locals := 46 } : Room) (va_Pc [.ref (p0a 0), .int p1, .int p2] (PRE zs dC dI ((oX3 (p0a 0) p0a p0k p0n p0w) ++ (oX6 (p0a 5) p0_4a p0_4k p0_4w p0_4l)) ((tX3 p0k) ++ (tX6 p0_4k)) sz)) (va_Qv (fun (_ : Unit) => True) (fun _ t => POST dC dI ((oX3 (p0a 0) p0a p0k p0n o) ++ (oX6 (p0a 5) p0_4a p0_4k p0_4w p0_4l)) ((tX3 p0k) ++ (tX6 p0_4k)) (va_A ((oX3 (p0a 0) p0a p0k p0n p0w) ++ (oX6 (p0a 5) p0_4a p0_4k p0_4w p0_4l)) sz) t) (va_A ((oX3 (p0a 0) p0a p0k p0n p0w) ++ (oX6 (p0a 5) p0_4a p0_4k p0_4w p0_4l)) sz)) 0 0 (va_A ((oX3 (p0a 0) p0a p0k p0n p0w) ++ (oX6 (p0a 5) p0_4a p0_4k p0_4w p0_4l)) sz) := by
  refine Met.ofW (cc := cX3_enter) (maxL := 6) (ret := (Option.none : Option Jvm.ClassFile.FieldType)) (by decide) rfl ?_
  intro p e s m args below meth c s₁ B hml hv
  obtain ⟨rfl, hsz, hP, hK, hD0, hE⟩ := hv
  have hx := B.exec
  have hb := B.bytes
  have hr := B.returns
  have hts0 := atoms_spec (ws := wz yX3_enter cX3_enter 6 (Option.none : Option Jvm.ClassFile.FieldType)) B.pre
  have hts : ∀ w ∈ gw, w.before _ s = true := fun w h => hts0 w (List.mem_cons_of_mem _ h)
  have hown : s.vm.findClass RX3 = some m.cls := findClass_of_methodNamed B.named
  have hlocks := B.notSynchronized
  subst hsz
  have hD := hD0.self (sz := s.heap.size)
  refine gQ9 ?_
  intro Q hQ
  generalize hAe : va_A ((oX3 (p0a 0) p0a p0k p0n p0w) ++ (oX6 (p0a 5) p0_4a p0_4k p0_4w p0_4l)) s.heap.size = A at hD hE hQ
  have hA : ∀ q : Nat, s.heap.size ≤ q → A q := fun q h => by rw [← hAe]; exact Or.inr h
  have hS : va_S A s.heap s.heap [] := va_S.rf
  have hP : va_P (dC, dI) cls ((oX3 (p0a 0) p0a p0k p0n p0w) ++ (oX6 (p0a 5) p0_4a p0_4k p0_4w p0_4l)) s.heap := hP
  have hl := lv_entry ([.ref (p0a 0), .int p1, .int p2]) (n := 6) (Nat.le_of_ble_eq_true rfl)
  rw [lg_entry_eq]
  generalize (lg_sl ([.ref (p0a 0), .int p1, .int p2]) ++ List.replicate (6 - (lg_sl ([.ref (p0a 0), .int p1, .int p2])).length) Slot.unset).toArray = ls at hl ⊢
  have hl : lv_has ls 6 [(0, .ref (p0a 0)), (1, .int p1), (2, .int p2)] := hl
  obtain ⟨H, hHe⟩ : ∃ H, H = s.heap := ⟨_, rfl⟩
  obtain ⟨locs, hle⟩ : ∃ locs : List Loc, locs = [] := ⟨_, rfl⟩
  rw [← hHe] at hP
  have hS : va_S A s.heap H locs := by rw [hHe, hle]; exact hS
  show W p l e ({ frames := 2, cells := 0, slots := 0, locals := 46 } : Room) s m ([.ref (p0a 0), .int p1, .int p2] : List Value).toArray below meth c s.heap [] 0 0 Q (F0 m 0 ls [])
  rw [← hle]
  refine wH9 hHe ?_
  unfold fX3_enter at hrun
  refine lv_aload_n hx hb dX3_enter_0 rfl (lv_at hl 0 rfl) ?_
  refine va_get (D := (dC, dI)) (ci := 10) (v := .int (p0w 0 9)) (C := RX3) (T := TX3) (N := 20) hx hb hts i_X3 hown hK hP 0 rfl rfl 9 (by decide) (hts _ qw882) (fun _ h9 => h9) rfl dX3_enter_1 ?_
  refine lv_bipush (v := 8) hx hb dX3_enter_4 (by decide) ?_
  rcases br9 hrun with ⟨hc1, hrun⟩ | ⟨hc1, hrun⟩
  · refine lv_icmp_ne (tgt := 15) hx hb dX3_enter_6 (by decide) (fun c => absurd hc1 c) (fun _ => ?_)
    refine lv_aload_n hx hb dX3_enter_9 rfl (lv_at hl 0 rfl) ?_
    refine lv_iconst (v := 3) hx hb dX3_enter_10 (by decide) ?_
    obtain ⟨o_2, hc_2, hrun⟩ := bnd9 hrun
    have hPc := hP.sub (ws' := (oX3 (p0a 0) p0a p0k p0n p0w)) [0, 1, 2, 3, 4, 5, 6, 7, 8, 9, 10] rfl
    have hDc := hD.sub (ws' := (oX3 (p0a 0) p0a p0k p0n p0w)) [0, 1, 2, 3, 4, 5, 6, 7, 8, 9, 10] (by decide) rfl
    have hKc := hK.sub (tys' := (tX3 p0k)) [0, 1, 2, 3, 4, 5, 6, 7, 8, 9] rfl
    have hFc := va_free (wc := (oX3 (p0a 0) p0a p0k p0n p0w)) hD hS hA [0, 1, 2, 3, 4, 5, 6, 7, 8, 9, 10] rfl
    refine va_callv (va_runV (As := [.int 3]) (rest := []) ⟨hx, hb, hml, hown, hts⟩ (kX3_stop l dC dI (p0a := (st0 (p0a 0) p0a)) (p0k := p0k) (p0n := p0n) (p0w := p0w) (p1 := 3) (sz := _) (o := o_2) (hrun := hc_2)) (cwV 1 hts (gi_V qw885 qw886 qw887 qw888 (gi_z qw884)) rfl rfl rfl (by decide +kernel) ⟨Nat.le_of_ble_eq_true rfl, Nat.le_of_ble_eq_true rfl⟩) ⟨PRE.blind, va_recv hKc hPc (ci := 10) (q0 := 0) rfl rfl, PRE.of hE hS hFc hPc hKc hDc⟩ rfl rfl hl.1 rfl (lv_room (Nat.le_of_ble_eq_true rfl)) dX3_enter_11 ⟨(Nat.le_of_ble_eq_true rfl), (Nat.le_of_ble_eq_true rfl)⟩) hS (fun q _ h => hFc q h) hFc (fun u t H locs ht hvm hw hB hz1 hk1 hS => ?_)
    obtain ⟨hP, hD, hK⟩ := JOIN (wr := (oX6 (p0a 5) p0_4a p0_4k p0_4w p0_4l)) hP hD hK [0, 1, 2, 3, 4, 5, 6, 7, 8, 9, 10] [11, 12, 13, 14, 15, 16, 17, 18, 19, 20, 21] [10, 11, 12, 13, 14, 15, 16, 17, 18, 19] rfl rfl (by decide) (by decide) rfl hk1 hFc ht hvm hB
    have hP : va_P (dC, dI) cls ((oX3 (p0a 0) p0a p0k p0n o_2) ++ (oX6 (p0a 5) p0_4a p0_4k p0_4w p0_4l)) H := hP.sub [11, 12, 13, 14, 15, 16, 17, 18, 19, 20, 21, 0, 1, 2, 3, 4, 5, 6, 7, 8, 9, 10] rfl
    have hD : va_D A ((oX3 (p0a 0) p0a p0k p0n o_2) ++ (oX6 (p0a 5) p0_4a p0_4k p0_4w p0_4l)) := hD.sub [11, 12, 13, 14, 15, 16, 17, 18, 19, 20, 21, 0, 1, 2, 3, 4, 5, 6, 7, 8, 9, 10] (by decide) rfl
    have hK : va_K (dC, dI) cls ((tX3 p0k) ++ (tX6 p0_4k)) s := hK.sub [10, 11, 12, 13, 14, 15, 16, 17, 18, 19, 0, 1, 2, 3, 4, 5, 6, 7, 8, 9] rfl
    have ho9 : o_2 = o := Option.some.inj hrun
    have hP9 : va_P (dC, dI) cls ((oX3 (p0a 0) p0a p0k p0n o) ++ (oX6 (p0a 5) p0_4a p0_4k p0_4w p0_4l)) H := by first | exact hP | (rw [← ho9]; exact hP)
    have hD9 : va_D A ((oX3 (p0a 0) p0a p0k p0n o) ++ (oX6 (p0a 5) p0_4a p0_4k p0_4w p0_4l)) := by first | exact hD | (rw [← ho9]; exact hD)
    subst hQ
    exact W.vret hx hb hr (fun t ht hW => ⟨⟨(), rfl, trivial, ⟨by rw [ht]; exact hP9, va_K.moved hW.alike hK, hD9⟩⟩, hS.F ht⟩) hS.2.2 dX3_enter_14
  · refine lv_icmp_ne (tgt := 15) hx hb dX3_enter_6 (by decide) (fun _ => ?_) (fun c => absurd c hc1)
    refine lv_aload_n hx hb dX3_enter_15 rfl (lv_at hl 0 rfl) ?_
    refine va_get (D := (dC, dI)) (ci := 10) (v := .int (p0w 0 9)) (C := RX3) (T := TX3) (N := 20) hx hb hts i_X3 hown hK hP 0 rfl rfl 9 (by decide) (hts _ qw882) (fun _ h9 => h9) rfl dX3_enter_16 ?_
    refine lv_istore_n (lv' := [(3, .int (p0w 0 9)), (0, .ref (p0a 0)), (1, .int p1), (2, .int p2)]) hx hb dX3_enter_19 rfl hl (by decide) rfl (fun ls hl => ?_)
    refine lv_aload_n hx hb dX3_enter_20 rfl (lv_at hl 1 rfl) ?_
    refine lv_dup hx hb dX3_enter_21 rfl ?_
    refine va_get (D := (dC, dI)) (ci := 10) (v := .int (p0w 0 9)) (C := RX3) (T := TX3) (N := 20) hx hb hts i_X3 hown hK hP 0 rfl rfl 9 (by decide) (hts _ qw882) (fun _ h9 => h9) rfl dX3_enter_22 ?_
    refine lv_iconst (v := 1) hx hb dX3_enter_25 (by decide) ?_
    refine lv_iadd hx hb dX3_enter_26 ?_
    refine va_put (D := (dC, dI)) (ci := 10) (v := .int ((p0w 0 9) + 1)) (ty := .int) (C := RX3) (T := TX3) (N := 20) hx hb hts i_X3 tyX3 tyX3_ok nmX3 hown hK hP hD hS 0 rfl rfl 9 (by decide) (hts _ qw882) (fun _ h9 => h9) rfl (by decide +kernel) rfl rfl (Nat.le_of_ble_eq_true rfl) dX3_enter_27 (fun H locs hP hD hS => ?_)
    have hP : va_P (dC, dI) cls ((oX3 (p0a 0) p0a p0k p0n (upw p0w 0 9 ((p0w 0 9) + 1))) ++ (oX6 (p0a 5) p0_4a p0_4k p0_4w p0_4l)) H := hP
    have hD : va_D A ((oX3 (p0a 0) p0a p0k p0n (upw p0w 0 9 ((p0w 0 9) + 1))) ++ (oX6 (p0a 5) p0_4a p0_4k p0_4w p0_4l)) := hD
    obtain ⟨w3, ew3, hrun⟩ := let9 hrun
    rw [← ew3] at hP hD
    refine lv_aload_n hx hb dX3_enter_30 rfl (lv_at hl 1 rfl) ?_
    refine va_get (D := (dC, dI)) (ci := 10) (v := .ref (p0a 5)) (C := RX3) (T := TX3) (N := 20) hx hb hts i_X3 hown hK hP 0 rfl rfl 4 (by decide) (hts _ qw899) (fun _ h9 => h9) rfl dX3_enter_31 ?_
    refine va_get (D := (dC, dI)) (ci := 2) (v := .ref (p0_4a 4)) (C := RX6) (T := TX6) (N := 13) hx hb hts i_X6 hown hK hP 11 rfl rfl 3 (by decide) (hts _ qw900) (fun _ h9 => h9) rfl dX3_enter_34 ?_
    refine lv_iload_n hx hb dX3_enter_37 rfl (lv_at hl 3 rfl) ?_
    obtain ⟨hq4, hrun⟩ := chk9 hrun
    refine va_iald hx hb hK hP 14 12 rfl rfl (ixb_in hq4) dX3_enter_38 ?_
    refine lv_istore (lv' := [(4, .int (p0_4w 4 (nn p2))), (3, .int (p0w 0 9)), (0, .ref (p0a 0)), (1, .int p1), (2, .int p2)]) hx hb dX3_enter_39 hl (by decide) rfl (fun ls hl => ?_)
    refine lv_iload hx hb dX3_enter_41 (lv_at hl 0 rfl) ?_
    refine lv_iconst (v := 1) hx hb dX3_enter_43 (by decide) ?_
    refine lv_isub hx hb dX3_enter_44 ?_
    refine lv_istore (lv' := [(5, .int ((p0_4w 4 (nn p2)) - 1)), (4, .int (p0_4w 4 (nn p2))), (3, .int (p0w 0 9)), (0, .ref (p0a 0)), (1, .int p1), (2, .int p2)]) hx hb dX3_enter_45 hl (by decide) rfl (fun ls hl => ?_)
    have L47 : ∀ (n_47 : Nat) (v5_47 : Int32) (p0w_47 : ST) (o47 : ST) (H : Heap) (locs : List Loc) (ls : Array Slot), (fX3_enter_L47 p0w n_47) v5_47 p0w_47 = some o47 → va_P (dC, dI) cls ((oX3 (p0a 0) p0a p0k p0n p0w_47) ++ (oX6 (p0a 5) p0_4a p0_4k p0_4w p0_4l)) H → va_D A ((oX3 (p0a 0) p0a p0k p0n p0w_47) ++ (oX6 (p0a 5) p0_4a p0_4k p0_4w p0_4l)) → va_K (dC, dI) cls ((tX3 p0k) ++ (tX6 p0_4k)) s → va_S A s.heap H locs → lv_has ls 6 [(0, .ref (p0a 0)), (1, .int p1), (2, .int p2), (3, .int (p0w 0 9)), (5, .int v5_47)] → (∀ (H : Heap) (locs : List Loc) (ls : Array Slot), va_P (dC, dI) cls ((oX3 (p0a 0) p0a p0k p0n o47) ++ (oX6 (p0a 5) p0_4a p0_4k p0_4w p0_4l)) H → va_D A ((oX3 (p0a 0) p0a p0k p0n o47) ++ (oX6 (p0a 5) p0_4a p0_4k p0_4w p0_4l)) → va_K (dC, dI) cls ((tX3 p0k) ++ (tX6 p0_4k)) s → va_S A s.heap H locs → lv_has ls 6 [(0, .ref (p0a 0)), (1, .int p1), (2, .int p2), (3, .int (p0w 0 9))] → W p l e ({ frames := 2, cells := 0, slots := 0, locals := 46 } : Room) s m ([.ref (p0a 0), .int p1, .int p2] : List Value).toArray below meth c H locs 0 0 Q (F0 m 73 ls [])) → W p l e ({ frames := 2, cells := 0, slots := 0, locals := 46 } : Room) s m ([.ref (p0a 0), .int p1, .int p2] : List Value).toArray below meth c H locs 0 0 Q (F0 m 47 ls []) := by
      intro n_47
      induction n_47 with
      | zero => intro v5_47 p0w_47 o47 H locs ls hrun; exact (no9 rfl hrun).elim
      | succ n_47 IH47 =>
        intro v5_47 p0w_47 o47 H locs ls hrun hP hD hK hS hl hk47
        unfold fX3_enter_L47 at hrun
        refine lv_iload hx hb dX3_enter_47 (lv_at hl 4 rfl) ?_
        rcases br9 hrun with ⟨hc5, hrun⟩ | ⟨hc5, hrun⟩
        · refine lv_if_lt (tgt := 73) hx hb dX3_enter_49 (by decide) (fun _ => ?_) (fun c => absurd hc5 c)
          obtain rfl := (Option.some.inj hrun)
          exact hk47 _ _ _ hP hD hK hS (lv_sub hl [0, 1, 2, 3] rfl)
        · refine lv_if_lt (tgt := 73) hx hb dX3_enter_49 (by decide) (fun c => absurd c hc5) (fun _ => ?_)
          refine lv_aload_n hx hb dX3_enter_52 rfl (lv_at hl 0 rfl) ?_
          refine va_get (D := (dC, dI)) (ci := 10) (v := .ref (p0a 15)) (C := RX3) (T := TX3) (N := 20) hx hb hts i_X3 hown hK hP 0 rfl rfl 14 (by decide) (hts _ qw876) (fun _ h9 => h9) rfl dX3_enter_53 ?_
          refine lv_iload_n hx hb dX3_enter_56 rfl (lv_at hl 3 rfl) ?_
          refine lv_iconst (v := 4) hx hb dX3_enter_57 (by decide) ?_
          refine lv_imul hx hb dX3_enter_58 ?_
          refine lv_iload hx hb dX3_enter_59 (lv_at hl 4 rfl) ?_
          refine lv_iadd hx hb dX3_enter_61 ?_
          refine lv_aload_n hx hb dX3_enter_62 rfl (lv_at hl 0 rfl) ?_
          obtain ⟨o_6, hc_6, hrun⟩ := bnd9 hrun
          have hPc := hP.sub (ws' := (oX3 (p0a 0) p0a p0k p0n p0w_47)) [0, 1, 2, 3, 4, 5, 6, 7, 8, 9, 10] rfl
          have hDc := hD.sub (ws' := (oX3 (p0a 0) p0a p0k p0n p0w_47)) [0, 1, 2, 3, 4, 5, 6, 7, 8, 9, 10] (by decide) rfl
          have hKc := hK.sub (tys' := (tX3 p0k)) [0, 1, 2, 3, 4, 5, 6, 7, 8, 9] rfl
          have hFc := va_free (wc := (oX3 (p0a 0) p0a p0k p0n p0w_47)) hD hS hA [0, 1, 2, 3, 4, 5, 6, 7, 8, 9, 10] rfl
          refine va_calli (va_runV (As := []) (rest := [.int (((p0w 0 9) * 4) + v5_47), .ref (p0a 15)]) ⟨hx, hb, hml, hown, hts⟩ (kX3_pop l dC dI (p0a := (st0 (p0a 0) p0a)) (p0k := p0k) (p0n := p0n) (p0w := p0w_47) (sz := _) (o := o_6) (hrun := hc_6)) (cwV 0 hts (gi_V qw904 qw905 qw906 qw888 (gi_z qw903)) rfl rfl rfl (by decide +kernel) ⟨Nat.le_of_ble_eq_true rfl, Nat.le_of_ble_eq_true rfl⟩) ⟨PRE.blind, va_recv hKc hPc (ci := 10) (q0 := 0) rfl rfl, PRE.of hE hS hFc hPc hKc hDc⟩ rfl rfl hl.1 rfl (lv_room (Nat.le_of_ble_eq_true rfl)) dX3_enter_63 ⟨(Nat.le_of_ble_eq_true rfl), (Nat.le_of_ble_eq_true rfl)⟩) hS (fun q _ h => hFc q h) hFc (fun r7 u t H locs ht hvm hw hB hz1 hk1 hS => ?_)
          obtain ⟨hP, hD, hK⟩ := JOIN (wr := (oX6 (p0a 5) p0_4a p0_4k p0_4w p0_4l)) hP hD hK [0, 1, 2, 3, 4, 5, 6, 7, 8, 9, 10] [11, 12, 13, 14, 15, 16, 17, 18, 19, 20, 21] [10, 11, 12, 13, 14, 15, 16, 17, 18, 19] rfl rfl (by decide) (by decide) rfl hk1 hFc ht hvm hB
          have hP : va_P (dC, dI) cls ((oX3 (p0a 0) p0a p0k p0n (o_6.2)) ++ (oX6 (p0a 5) p0_4a p0_4k p0_4w p0_4l)) H := hP.sub [11, 12, 13, 14, 15, 16, 17, 18, 19, 20, 21, 0, 1, 2, 3, 4, 5, 6, 7, 8, 9, 10] rfl
          have hD : va_D A ((oX3 (p0a 0) p0a p0k p0n (o_6.2)) ++ (oX6 (p0a 5) p0_4a p0_4k p0_4w p0_4l)) := hD.sub [11, 12, 13, 14, 15, 16, 17, 18, 19, 20, 21, 0, 1, 2, 3, 4, 5, 6, 7, 8, 9, 10] (by decide) rfl
          have hK : va_K (dC, dI) cls ((tX3 p0k) ++ (tX6 p0_4k)) s := hK.sub [10, 11, 12, 13, 14, 15, 16, 17, 18, 19, 0, 1, 2, 3, 4, 5, 6, 7, 8, 9] rfl
          obtain rfl : r7 = (o_6.1) := hw
          obtain ⟨hq8, hrun⟩ := chk9 hrun
          refine va_iast hx hb hK hP hD hS 7 6 rfl rfl (ixb_in hq8) dX3_enter_66 (fun H locs hP hD hS => ?_)
          have hP : va_P (dC, dI) cls ((oX3 (p0a 0) p0a p0k p0n (upw (o_6.2) 15 (nn (((p0w 0 9) * 4) + v5_47)) (o_6.1))) ++ (oX6 (p0a 5) p0_4a p0_4k p0_4w p0_4l)) H := hP
          have hD : va_D A ((oX3 (p0a 0) p0a p0k p0n (upw (o_6.2) 15 (nn (((p0w 0 9) * 4) + v5_47)) (o_6.1))) ++ (oX6 (p0a 5) p0_4a p0_4k p0_4w p0_4l)) := hD
          obtain ⟨w9, ew9, hrun⟩ := let9 hrun
          rw [← ew9] at hP hD
          refine lv_iinc (v := (v5_47 + (-1))) (lv' := [(5, .int (v5_47 + (-1))), (0, .ref (p0a 0)), (1, .int p1), (2, .int p2), (3, .int (p0w 0 9))]) hx hb dX3_enter_67 hl (k := 4) rfl rfl (by decide) rfl (fun ls hl => ?_)
          refine lv_goto (tgt := 47) hx hb dX3_enter_70 (by decide) ?_
          exact IH47 (v5_47 + (-1)) w9 o47 _ _ _ hrun hP hD hK hS (lv_sub hl [1, 2, 3, 4, 0] rfl) hk47
    obtain ⟨o47, hc47, hrun⟩ := bnd9 hrun
    refine L47 NF ((p0_4w 4 (nn p2)) - 1) w3 o47 _ _ _ hc47 hP hD hK hS (lv_sub hl [3, 4, 5, 2, 0] rfl) ?_
    intro H locs ls hP hD hK hS hl
    have hl := hl
    refine lv_aload_n hx hb dX3_enter_73 rfl (lv_at hl 0 rfl) ?_
    refine va_get (D := (dC, dI)) (ci := 10) (v := .ref (p0a 11)) (C := RX3) (T := TX3) (N := 20) hx hb hts i_X3 hown hK hP 0 rfl rfl 10 (by decide) (hts _ qw898) (fun _ h9 => h9) rfl dX3_enter_74 ?_
    refine lv_iload_n hx hb dX3_enter_77 rfl (lv_at hl 3 rfl) ?_
    refine lv_iload_n hx hb dX3_enter_78 rfl (lv_at hl 2 rfl) ?_
    obtain ⟨hq10, hrun⟩ := chk9 hrun
    refine va_iast hx hb hK hP hD hS 3 2 rfl rfl (ixb_in hq10) dX3_enter_79 (fun H locs hP hD hS => ?_)
    have hP : va_P (dC, dI) cls ((oX3 (p0a 0) p0a p0k p0n (upw o47 11 (nn (p0w 0 9)) p2)) ++ (oX6 (p0a 5) p0_4a p0_4k p0_4w p0_4l)) H := hP
    have hD : va_D A ((oX3 (p0a 0) p0a p0k p0n (upw o47 11 (nn (p0w 0 9)) p2)) ++ (oX6 (p0a 5) p0_4a p0_4k p0_4w p0_4l)) := hD
    obtain ⟨w11, ew11, hrun⟩ := let9 hrun
    rw [← ew11] at hP hD
    refine lv_aload_n hx hb dX3_enter_80 rfl (lv_at hl 0 rfl) ?_
    refine va_get (D := (dC, dI)) (ci := 10) (v := .ref (p0a 13)) (C := RX3) (T := TX3) (N := 20) hx hb hts i_X3 hown hK hP 0 rfl rfl 12 (by decide) (hts _ qw889) (fun _ h9 => h9) rfl dX3_enter_81 ?_
    refine lv_iload_n hx hb dX3_enter_84 rfl (lv_at hl 3 rfl) ?_
    refine lv_iconst (v := 0) hx hb dX3_enter_85 (by decide) ?_
    obtain ⟨hq12, hrun⟩ := chk9 hrun
    refine va_iast hx hb hK hP hD hS 5 4 rfl rfl (ixb_in hq12) dX3_enter_86 (fun H locs hP hD hS => ?_)
    have hP : va_P (dC, dI) cls ((oX3 (p0a 0) p0a p0k p0n (upw w11 13 (nn (p0w 0 9)) 0)) ++ (oX6 (p0a 5) p0_4a p0_4k p0_4w p0_4l)) H := hP
    have hD : va_D A ((oX3 (p0a 0) p0a p0k p0n (upw w11 13 (nn (p0w 0 9)) 0)) ++ (oX6 (p0a 5) p0_4a p0_4k p0_4w p0_4l)) := hD
    obtain ⟨w13, ew13, hrun⟩ := let9 hrun
    rw [← ew13] at hP hD
    refine lv_aload_n hx hb dX3_enter_87 rfl (lv_at hl 0 rfl) ?_
    refine va_get (D := (dC, dI)) (ci := 10) (v := .ref (p0a 14)) (C := RX3) (T := TX3) (N := 20) hx hb hts i_X3 hown hK hP 0 rfl rfl 13 (by decide) (hts _ qw907) (fun _ h9 => h9) rfl dX3_enter_88 ?_
    refine lv_iload_n hx hb dX3_enter_91 rfl (lv_at hl 3 rfl) ?_
    refine lv_iconst (v := (-1)) hx hb dX3_enter_92 (by decide) ?_
    obtain ⟨hq14, hrun⟩ := chk9 hrun
    refine va_iast hx hb hK hP hD hS 6 5 rfl rfl (ixb_in hq14) dX3_enter_93 (fun H locs hP hD hS => ?_)
    have hP : va_P (dC, dI) cls ((oX3 (p0a 0) p0a p0k p0n (upw w13 14 (nn (p0w 0 9)) (-1))) ++ (oX6 (p0a 5) p0_4a p0_4k p0_4w p0_4l)) H := hP
    have hD : va_D A ((oX3 (p0a 0) p0a p0k p0n (upw w13 14 (nn (p0w 0 9)) (-1))) ++ (oX6 (p0a 5) p0_4a p0_4k p0_4w p0_4l)) := hD
    obtain ⟨w15, ew15, hrun⟩ := let9 hrun
    rw [← ew15] at hP hD
    refine lv_aload_n hx hb dX3_enter_94 rfl (lv_at hl 0 rfl) ?_
    refine va_get (D := (dC, dI)) (ci := 10) (v := .ref (p0a 12)) (C := RX3) (T := TX3) (N := 20) hx hb hts i_X3 hown hK hP 0 rfl rfl 11 (by decide) (hts _ qw908) (fun _ h9 => h9) rfl dX3_enter_95 ?_
    refine lv_iload_n hx hb dX3_enter_98 rfl (lv_at hl 3 rfl) ?_
    refine lv_iload_n hx hb dX3_enter_99 rfl (lv_at hl 1 rfl) ?_
    have J126 : ∀ (y0_126 : Int32) (H : Heap) (locs : List Loc) (ls : Array Slot), (fX3_enter_J126 p0n p0w w15 y0_126) = some o → va_P (dC, dI) cls ((oX3 (p0a 0) p0a p0k p0n w15) ++ (oX6 (p0a 5) p0_4a p0_4k p0_4w p0_4l)) H → va_D A ((oX3 (p0a 0) p0a p0k p0n w15) ++ (oX6 (p0a 5) p0_4a p0_4k p0_4w p0_4l)) → va_K (dC, dI) cls ((tX3 p0k) ++ (tX6 p0_4k)) s → va_S A s.heap H locs → lv_has ls 6 [(0, .ref (p0a 0)), (3, .int (p0w 0 9))] → W p l e ({ frames := 2, cells := 0, slots := 0, locals := 46 } : Room) s m ([.ref (p0a 0), .int p1, .int p2] : List Value).toArray below meth c H locs 0 0 Q (F0 m 126 ls [.int y0_126, .int (p0w 0 9), .ref (p0a 12)]) := by
      intro y0_126 H locs ls hrun hP hD hK hS hl 
      unfold fX3_enter_J126 at hrun
      obtain ⟨hq16, hrun⟩ := chk9 hrun
      refine va_iast hx hb hK hP hD hS 4 3 rfl rfl (ixb_in hq16) dX3_enter_126 (fun H locs hP hD hS => ?_)
      have hP : va_P (dC, dI) cls ((oX3 (p0a 0) p0a p0k p0n (upw w15 12 (nn (p0w 0 9)) y0_126)) ++ (oX6 (p0a 5) p0_4a p0_4k p0_4w p0_4l)) H := hP
      have hD : va_D A ((oX3 (p0a 0) p0a p0k p0n (upw w15 12 (nn (p0w 0 9)) y0_126)) ++ (oX6 (p0a 5) p0_4a p0_4k p0_4w p0_4l)) := hD
      obtain ⟨w17, ew17, hrun⟩ := let9 hrun
      rw [← ew17] at hP hD
      refine lv_aload_n hx hb dX3_enter_127 rfl (lv_at hl 0 rfl) ?_
      refine va_get (D := (dC, dI)) (ci := 10) (v := .ref (p0a 16)) (C := RX3) (T := TX3) (N := 20) hx hb hts i_X3 hown hK hP 0 rfl rfl 15 (by decide) (hts _ qw891) (fun _ h9 => h9) rfl dX3_enter_128 ?_
      refine lv_iload_n hx hb dX3_enter_131 rfl (lv_at hl 1 rfl) ?_
      refine lv_sipush (v := 320) hx hb dX3_enter_132 (by decide) ?_
      refine lv_imul hx hb dX3_enter_135 ?_
      refine lv_iload_n hx hb dX3_enter_136 rfl (lv_at hl 1 rfl) ?_
      refine lv_iconst (v := 1) hx hb dX3_enter_137 (by decide) ?_
      refine lv_iadd hx hb dX3_enter_138 ?_
      refine lv_sipush (v := 320) hx hb dX3_enter_139 (by decide) ?_
      refine lv_imul hx hb dX3_enter_142 ?_
      refine lv_iconst (v := 0) hx hb dX3_enter_143 (by decide) ?_
      obtain ⟨o_18, hc_18, hrun⟩ := bnd9 hrun
      have hPc := hP.sub (ws' := [((p0a 16), .inl ((p0k 16), 2560, .inl (w17 16)))]) [8] rfl
      have hDc := hD.sub (ws' := [((p0a 16), .inl ((p0k 16), 2560, .inl (w17 16)))]) [8] (by decide) rfl
      have hKc := hK.sub (tys' := [((p0k 16), .int)]) [7] rfl
      have hFc := va_free (wc := [((p0a 16), .inl ((p0k 16), 2560, .inl (w17 16)))]) hD hS hA [8] rfl
      refine va_callv (va_runS (As := [.ref (p0a 16), .int ((p0w 0 9) * 320), .int (((p0w 0 9) + 1) * 320), .int 0]) (rest := []) ⟨hx, hb, hml, hown, hts⟩ (kJ7_fill_fda19 l dC dI (p0a := (p0a 16)) (p0k := (p0k 16)) (p0n := 2560) (p0f := (w17 16)) (p1 := ((p0w 0 9) * 320)) (p2 := (((p0w 0 9) + 1) * 320)) (p3 := 0) (sz := _) (o := o_18) (hrun := hc_18)) (va_cwS 4 hts (gi_S qw910 qw281 qw109 (gi_z qw279)) rfl rfl rfl (by decide +kernel) ⟨Nat.le_of_ble_eq_true rfl, Nat.le_of_ble_eq_true rfl⟩) ⟨PRE.blind, PRE.of hE hS hFc hPc hKc hDc⟩ rfl rfl hl.1 rfl (lv_room (Nat.le_of_ble_eq_true rfl)) dX3_enter_144 ⟨(Nat.le_of_ble_eq_true rfl), (Nat.le_of_ble_eq_true rfl)⟩) hS (fun q _ h => hFc q h) hFc (fun u t H locs ht hvm hw hB hz1 hk1 hS => ?_)
      obtain ⟨hP, hD, hK⟩ := JOIN (wr := ([((p0a 0), .inr (10, [.int (w17 0 0), .int (w17 0 1), .int (w17 0 2), .ref (p0a 4), .ref (p0a 5), .ref (p0a 6), .ref (p0a 7), .ref (p0a 8), .int (w17 0 8), .int (w17 0 9), .ref (p0a 11), .ref (p0a 12), .ref (p0a 13), .ref (p0a 14), .ref (p0a 15), .ref (p0a 16), .ref (p0a 17), .int (w17 0 17), .ref (p0a 19), .int (w17 0 19)])), ((p0a 4), .inl ((p0k 4), 16, .inl (w17 4))), ((p0a 8), .inl ((p0k 8), 4, .inl (w17 8))), ((p0a 11), .inl ((p0k 11), 8, .inl (w17 11))), ((p0a 12), .inl ((p0k 12), 8, .inl (w17 12))), ((p0a 13), .inl ((p0k 13), 8, .inl (w17 13))), ((p0a 14), .inl ((p0k 14), 8, .inl (w17 14))), ((p0a 15), .inl ((p0k 15), 32, .inl (w17 15))), ((p0a 17), .inl ((p0k 17), (p0n 17), .inl (w17 17))), ((p0a 19), .inl ((p0k 19), 512, .inl (w17 19)))] ++ (oX6 (p0a 5) p0_4a p0_4k p0_4w p0_4l))) hP hD hK [8] [0, 1, 2, 3, 4, 5, 6, 7, 9, 10, 11, 12, 13, 14, 15, 16, 17, 18, 19, 20, 21] [0, 1, 2, 3, 4, 5, 6, 8, 9, 10, 11, 12, 13, 14, 15, 16, 17, 18, 19] rfl rfl (by decide) (by decide) rfl hk1 hFc ht hvm hB
      have hP : va_P (dC, dI) cls ((oX3 (p0a 0) p0a p0k p0n (srw w17 16 o_18)) ++ (oX6 (p0a 5) p0_4a p0_4k p0_4w p0_4l)) H := hP.sub [0, 1, 2, 3, 4, 5, 6, 7, 21, 8, 9, 10, 11, 12, 13, 14, 15, 16, 17, 18, 19, 20] rfl
      have hD : va_D A ((oX3 (p0a 0) p0a p0k p0n (srw w17 16 o_18)) ++ (oX6 (p0a 5) p0_4a p0_4k p0_4w p0_4l)) := hD.sub [0, 1, 2, 3, 4, 5, 6, 7, 21, 8, 9, 10, 11, 12, 13, 14, 15, 16, 17, 18, 19, 20] (by decide) rfl
      have hK : va_K (dC, dI) cls ((tX3 p0k) ++ (tX6 p0_4k)) s := hK.sub [0, 1, 2, 3, 4, 5, 6, 19, 7, 8, 9, 10, 11, 12, 13, 14, 15, 16, 17, 18] rfl
      refine lv_aload_n hx hb dX3_enter_147 rfl (lv_at hl 0 rfl) ?_
      refine va_get (D := (dC, dI)) (ci := 10) (v := .ref (p0a 17)) (C := RX3) (T := TX3) (N := 20) hx hb hts i_X3 hown hK hP 0 rfl rfl 16 (by decide) (hts _ qw911) (fun _ h9 => h9) rfl dX3_enter_148 ?_
      refine lv_iload_n hx hb dX3_enter_151 rfl (lv_at hl 1 rfl) ?_
      refine lv_aload_n hx hb dX3_enter_152 rfl (lv_at hl 0 rfl) ?_
      refine va_get (D := (dC, dI)) (ci := 10) (v := .int ((srw w17 16 o_18) 0 17)) (C := RX3) (T := TX3) (N := 20) hx hb hts i_X3 hown hK hP 0 rfl rfl 17 (by decide) (hts _ qw912) (fun _ h9 => h9) rfl dX3_enter_153 ?_
      refine lv_imul hx hb dX3_enter_156 ?_
      refine lv_iload_n hx hb dX3_enter_157 rfl (lv_at hl 1 rfl) ?_
      refine lv_iconst (v := 1) hx hb dX3_enter_158 (by decide) ?_
      refine lv_iadd hx hb dX3_enter_159 ?_
      refine lv_aload_n hx hb dX3_enter_160 rfl (lv_at hl 0 rfl) ?_
      refine va_get (D := (dC, dI)) (ci := 10) (v := .int ((srw w17 16 o_18) 0 17)) (C := RX3) (T := TX3) (N := 20) hx hb hts i_X3 hown hK hP 0 rfl rfl 17 (by decide) (hts _ qw912) (fun _ h9 => h9) rfl dX3_enter_161 ?_
      refine lv_imul hx hb dX3_enter_164 ?_
      refine lv_iconst (v := 0) hx hb dX3_enter_165 (by decide) ?_
      obtain ⟨o_19, hc_19, hrun⟩ := bnd9 hrun
      have hPc := hP.sub (ws' := [((p0a 17), .inl ((p0k 17), (p0n 17), .inl ((srw w17 16 o_18) 17)))]) [9] rfl
      have hDc := hD.sub (ws' := [((p0a 17), .inl ((p0k 17), (p0n 17), .inl ((srw w17 16 o_18) 17)))]) [9] (by decide) rfl
      have hKc := hK.sub (tys' := [((p0k 17), .int)]) [8] rfl
      have hFc := va_free (wc := [((p0a 17), .inl ((p0k 17), (p0n 17), .inl ((srw w17 16 o_18) 17)))]) hD hS hA [9] rfl
      refine va_callv (va_runS (As := [.ref (p0a 17), .int ((p0w 0 9) * ((srw w17 16 o_18) 0 17)), .int (((p0w 0 9) + 1) * ((srw w17 16 o_18) 0 17)), .int 0]) (rest := []) ⟨hx, hb, hml, hown, hts⟩ (kJ7_fill_fda19 l dC dI (p0a := (p0a 17)) (p0k := (p0k 17)) (p0n := (p0n 17)) (p0f := ((srw w17 16 o_18) 17)) (p1 := ((p0w 0 9) * ((srw w17 16 o_18) 0 17))) (p2 := (((p0w 0 9) + 1) * ((srw w17 16 o_18) 0 17))) (p3 := 0) (sz := _) (o := o_19) (hrun := hc_19)) (va_cwS 4 hts (gi_S qw910 qw281 qw109 (gi_z qw279)) rfl rfl rfl (by decide +kernel) ⟨Nat.le_of_ble_eq_true rfl, Nat.le_of_ble_eq_true rfl⟩) ⟨PRE.blind, PRE.of hE hS hFc hPc hKc hDc⟩ rfl rfl hl.1 rfl (lv_room (Nat.le_of_ble_eq_true rfl)) dX3_enter_166 ⟨(Nat.le_of_ble_eq_true rfl), (Nat.le_of_ble_eq_true rfl)⟩) hS (fun q _ h => hFc q h) hFc (fun u t H locs ht hvm hw hB hz1 hk1 hS => ?_)
      obtain ⟨hP, hD, hK⟩ := JOIN (wr := ([((p0a 0), .inr (10, [.int ((srw w17 16 o_18) 0 0), .int ((srw w17 16 o_18) 0 1), .int ((srw w17 16 o_18) 0 2), .ref (p0a 4), .ref (p0a 5), .ref (p0a 6), .ref (p0a 7), .ref (p0a 8), .int ((srw w17 16 o_18) 0 8), .int ((srw w17 16 o_18) 0 9), .ref (p0a 11), .ref (p0a 12), .ref (p0a 13), .ref (p0a 14), .ref (p0a 15), .ref (p0a 16), .ref (p0a 17), .int ((srw w17 16 o_18) 0 17), .ref (p0a 19), .int ((srw w17 16 o_18) 0 19)])), ((p0a 4), .inl ((p0k 4), 16, .inl ((srw w17 16 o_18) 4))), ((p0a 8), .inl ((p0k 8), 4, .inl ((srw w17 16 o_18) 8))), ((p0a 11), .inl ((p0k 11), 8, .inl ((srw w17 16 o_18) 11))), ((p0a 12), .inl ((p0k 12), 8, .inl ((srw w17 16 o_18) 12))), ((p0a 13), .inl ((p0k 13), 8, .inl ((srw w17 16 o_18) 13))), ((p0a 14), .inl ((p0k 14), 8, .inl ((srw w17 16 o_18) 14))), ((p0a 15), .inl ((p0k 15), 32, .inl ((srw w17 16 o_18) 15))), ((p0a 16), .inl ((p0k 16), 2560, .inl ((srw w17 16 o_18) 16))), ((p0a 19), .inl ((p0k 19), 512, .inl ((srw w17 16 o_18) 19)))] ++ (oX6 (p0a 5) p0_4a p0_4k p0_4w p0_4l))) hP hD hK [9] [0, 1, 2, 3, 4, 5, 6, 7, 8, 10, 11, 12, 13, 14, 15, 16, 17, 18, 19, 20, 21] [0, 1, 2, 3, 4, 5, 6, 7, 9, 10, 11, 12, 13, 14, 15, 16, 17, 18, 19] rfl rfl (by decide) (by decide) rfl hk1 hFc ht hvm hB
      have hP : va_P (dC, dI) cls ((oX3 (p0a 0) p0a p0k p0n (srw (srw w17 16 o_18) 17 o_19)) ++ (oX6 (p0a 5) p0_4a p0_4k p0_4w p0_4l)) H := hP.sub [0, 1, 2, 3, 4, 5, 6, 7, 8, 21, 9, 10, 11, 12, 13, 14, 15, 16, 17, 18, 19, 20] rfl
      have hD : va_D A ((oX3 (p0a 0) p0a p0k p0n (srw (srw w17 16 o_18) 17 o_19)) ++ (oX6 (p0a 5) p0_4a p0_4k p0_4w p0_4l)) := hD.sub [0, 1, 2, 3, 4, 5, 6, 7, 8, 21, 9, 10, 11, 12, 13, 14, 15, 16, 17, 18, 19, 20] (by decide) rfl
      have hK : va_K (dC, dI) cls ((tX3 p0k) ++ (tX6 p0_4k)) s := hK.sub [0, 1, 2, 3, 4, 5, 6, 7, 19, 8, 9, 10, 11, 12, 13, 14, 15, 16, 17, 18] rfl
      have ho9 : (srw (srw w17 16 o_18) 17 o_19) = o := Option.some.inj hrun
      have hP9 : va_P (dC, dI) cls ((oX3 (p0a 0) p0a p0k p0n o) ++ (oX6 (p0a 5) p0_4a p0_4k p0_4w p0_4l)) H := by first | exact hP | (rw [← ho9]; exact hP)
      have hD9 : va_D A ((oX3 (p0a 0) p0a p0k p0n o) ++ (oX6 (p0a 5) p0_4a p0_4k p0_4w p0_4l)) := by first | exact hD | (rw [← ho9]; exact hD)
      subst hQ
      exact W.vret hx hb hr (fun t ht hW => ⟨⟨(), rfl, trivial, ⟨by rw [ht]; exact hP9, va_K.moved hW.alike hK, hD9⟩⟩, hS.F ht⟩) hS.2.2 dX3_enter_169
    rcases br9 hrun with ⟨hc20, hrun⟩ | ⟨hc20, hrun⟩
    · refine lv_if_ne (tgt := 115) hx hb dX3_enter_100 (by decide) (fun c => absurd hc20 c) (fun _ => ?_)
      refine lv_aload_n hx hb dX3_enter_103 rfl (lv_at hl 0 rfl) ?_
      refine va_get (D := (dC, dI)) (ci := 10) (v := .ref (p0a 5)) (C := RX3) (T := TX3) (N := 20) hx hb hts i_X3 hown hK hP 0 rfl rfl 4 (by decide) (hts _ qw899) (fun _ h9 => h9) rfl dX3_enter_104 ?_
      refine va_get (D := (dC, dI)) (ci := 2) (v := .ref (p0_4a 6)) (C := RX6) (T := TX6) (N := 13) hx hb hts i_X6 hown hK hP 11 rfl rfl 5 (by decide) (hts _ qw909) (fun _ h9 => h9) rfl dX3_enter_107 ?_
      refine lv_iload_n hx hb dX3_enter_110 rfl (lv_at hl 2 rfl) ?_
      obtain ⟨hq21, hrun⟩ := chk9 hrun
      refine va_iald hx hb hK hP 16 14 rfl rfl (ixb_in hq21) dX3_enter_111 ?_
      refine lv_goto (tgt := 126) hx hb dX3_enter_112 (by decide) ?_
      exact J126 (p0_4w 6 (nn p2)) _ _ _ hrun hP hD hK hS (lv_sub hl [0, 3] rfl)
    · refine lv_if_ne (tgt := 115) hx hb dX3_enter_100 (by decide) (fun _ => ?_) (fun c => absurd c hc20)
      refine lv_iload_n hx hb dX3_enter_115 rfl (lv_at hl 1 rfl) ?_
      refine lv_iconst (v := 1) hx hb dX3_enter_116 (by decide) ?_
      rcases br9 hrun with ⟨hc22, hrun⟩ | ⟨hc22, hrun⟩
      · refine lv_icmp_ne (tgt := 125) hx hb dX3_enter_117 (by decide) (fun c => absurd hc22 c) (fun _ => ?_)
        refine lv_bipush (v := (-2)) hx hb dX3_enter_120 (by decide) ?_
        refine lv_goto (tgt := 126) hx hb dX3_enter_122 (by decide) ?_
        exact J126 (-2) _ _ _ hrun hP hD hK hS (lv_sub hl [0, 3] rfl)
      · refine lv_icmp_ne (tgt := 125) hx hb dX3_enter_117 (by decide) (fun _ => ?_) (fun c => absurd c hc22)
        refine lv_iconst (v := 0) hx hb dX3_enter_125 (by decide) ?_
        exact J126 0 _ _ _ hrun hP hD hK hS (lv_sub hl [0, 3] rfl)
def fX3_tick (p0w : ST) (p1 : Int32) : Option (Int32 × ST) := (if ((p0w 0 2) + p1) ≤ 5000 then (lt9 (upw p0w 0 2 ((p0w 0 2) + p1)) fun (w2 : ST) => some (1, w2)) else (lt9 (upw p0w 0 2 5000) fun (w3 : ST) => ((fX3_stop w3 2).bind fun (o_4 : ST) => some (0, o_4))))
set_option maxHeartbeats 16000000 in
set_option maxRecDepth 100000 in
theorem kX3_tick {zs : Nat × Nat} (l : Launch) (dC : Nat → ClassId) (dI : Nat → Nat → Nat) (p0a : Nat → Nat) (p0k : Nat → ClassId) (p0n : Nat → Nat) (p0w : ST) (p1 : Int32) (sz : Nat) (o : Int32 × ST) (hrun : fX3_tick p0w p1 = some o) : Met l yX3_tick (wz yX3_tick cX3_tick 2 (Option.some Jvm.ClassFile.FieldType.boolean)) ({ frames := 1, cells := 0, slots := 0, locals := 21 } : Room) (va_Pc [.ref (p0a 0), .int p1] (PRE zs dC dI (oX3 (p0a 0) p0a p0k p0n p0w) (tX3 p0k) sz)) (va_Qi (fun (r : Int32) (_ : Unit) => r = (o.1)) (fun _ t => POST dC dI (oX3 (p0a 0) p0a p0k p0n (o.2)) (tX3 p0k) (va_A (oX3 (p0a 0) p0a p0k p0n p0w) sz) t) (va_A (oX3 (p0a 0) p0a p0k p0n p0w) sz)) 0 0 (va_A (oX3 (p0a 0) p0a p0k p0n p0w) sz) := by
  refine Met.ofW (cc := cX3_tick) (maxL := 2) (ret := (Option.some Jvm.ClassFile.FieldType.boolean)) (by decide) rfl ?_
  intro p e s m args below meth c s₁ B hml hv
  obtain ⟨rfl, hsz, hP, hK, hD0, hE⟩ := hv
  have hx := B.exec
  have hb := B.bytes
  have hr := B.returns
  have hts0 := atoms_spec (ws := wz yX3_tick cX3_tick 2 (Option.some Jvm.ClassFile.FieldType.boolean)) B.pre
  have hts : ∀ w ∈ gw, w.before _ s = true := fun w h => hts0 w (List.mem_cons_of_mem _ h)
  have hown : s.vm.findClass RX3 = some m.cls := findClass_of_methodNamed B.named
  have hlocks := B.notSynchronized
  subst hsz
  have hD := hD0.self (sz := s.heap.size)
  refine gQ9 ?_
  intro Q hQ
  generalize hAe : va_A (oX3 (p0a 0) p0a p0k p0n p0w) s.heap.size = A at hD hE hQ
  have hA : ∀ q : Nat, s.heap.size ≤ q → A q := fun q h => by rw [← hAe]; exact Or.inr h
  have hS : va_S A s.heap s.heap [] := va_S.rf
  have hP : va_P (dC, dI) cls (oX3 (p0a 0) p0a p0k p0n p0w) s.heap := hP
  have hl := lv_entry ([.ref (p0a 0), .int p1]) (n := 2) (Nat.le_of_ble_eq_true rfl)
  rw [lg_entry_eq]
  generalize (lg_sl ([.ref (p0a 0), .int p1]) ++ List.replicate (2 - (lg_sl ([.ref (p0a 0), .int p1])).length) Slot.unset).toArray = ls at hl ⊢
  have hl : lv_has ls 2 [(0, .ref (p0a 0)), (1, .int p1)] := hl
  obtain ⟨H, hHe⟩ : ∃ H, H = s.heap := ⟨_, rfl⟩
  obtain ⟨locs, hle⟩ : ∃ locs : List Loc, locs = [] := ⟨_, rfl⟩
  rw [← hHe] at hP
  have hS : va_S A s.heap H locs := by rw [hHe, hle]; exact hS
  show W p l e ({ frames := 1, cells := 0, slots := 0, locals := 21 } : Room) s m ([.ref (p0a 0), .int p1] : List Value).toArray below meth c s.heap [] 0 0 Q (F0 m 0 ls [])
  rw [← hle]
  refine wH9 hHe ?_
  unfold fX3_tick at hrun
  refine lv_aload_n hx hb dX3_tick_0 rfl (lv_at hl 0 rfl) ?_
  refine va_get (D := (dC, dI)) (ci := 10) (v := .int (p0w 0 2)) (C := RX3) (T := TX3) (N := 20) hx hb hts i_X3 hown hK hP 0 rfl rfl 2 (by decide) (hts _ qw879) (fun _ h9 => h9) rfl dX3_tick_1 ?_
  refine lv_iload_n hx hb dX3_tick_4 rfl (lv_at hl 1 rfl) ?_
  refine lv_iadd hx hb dX3_tick_5 ?_
  refine lv_sipush (v := 5000) hx hb dX3_tick_6 (by decide) ?_
  rcases br9 hrun with ⟨hc1, hrun⟩ | ⟨hc1, hrun⟩
  · refine lv_icmp_le (tgt := 26) hx hb dX3_tick_9 (by decide) (fun _ => ?_) (fun c => absurd hc1 c)
    refine lv_aload_n hx hb dX3_tick_26 rfl (lv_at hl 0 rfl) ?_
    refine lv_dup hx hb dX3_tick_27 rfl ?_
    refine va_get (D := (dC, dI)) (ci := 10) (v := .int (p0w 0 2)) (C := RX3) (T := TX3) (N := 20) hx hb hts i_X3 hown hK hP 0 rfl rfl 2 (by decide) (hts _ qw879) (fun _ h9 => h9) rfl dX3_tick_28 ?_
    refine lv_iload_n hx hb dX3_tick_31 rfl (lv_at hl 1 rfl) ?_
    refine lv_iadd hx hb dX3_tick_32 ?_
    refine va_put (D := (dC, dI)) (ci := 10) (v := .int ((p0w 0 2) + p1)) (ty := .int) (C := RX3) (T := TX3) (N := 20) hx hb hts i_X3 tyX3 tyX3_ok nmX3 hown hK hP hD hS 0 rfl rfl 2 (by decide) (hts _ qw879) (fun _ h9 => h9) rfl (by decide +kernel) rfl rfl (Nat.le_of_ble_eq_true rfl) dX3_tick_33 (fun H locs hP hD hS => ?_)
    have hP : va_P (dC, dI) cls (oX3 (p0a 0) p0a p0k p0n (upw p0w 0 2 ((p0w 0 2) + p1))) H := hP
    have hD : va_D A (oX3 (p0a 0) p0a p0k p0n (upw p0w 0 2 ((p0w 0 2) + p1))) := hD
    obtain ⟨w2, ew2, hrun⟩ := let9 hrun
    rw [← ew2] at hP hD
    refine lv_iconst (v := 1) hx hb dX3_tick_36 (by decide) ?_
    have ho9 : (1, w2) = o := Option.some.inj hrun
    have hP9 : va_P (dC, dI) cls (oX3 (p0a 0) p0a p0k p0n (o.2)) H := by first | exact hP | (rw [← ho9]; exact hP)
    have hD9 : va_D A (oX3 (p0a 0) p0a p0k p0n (o.2)) := by first | exact hD | (rw [← ho9]; exact hD)
    subst hQ
    exact W.zret (v := 1) hx hb hr (by decide) (fun t ht hW => ⟨⟨1, (), rfl, (by rw [← ho9]), ⟨by rw [ht]; exact hP9, va_K.moved hW.alike hK, hD9⟩⟩, hS.F ht⟩) hS.2.2 dX3_tick_37
  · refine lv_icmp_le (tgt := 26) hx hb dX3_tick_9 (by decide) (fun c => absurd c hc1) (fun _ => ?_)
    refine lv_aload_n hx hb dX3_tick_12 rfl (lv_at hl 0 rfl) ?_
    refine lv_sipush (v := 5000) hx hb dX3_tick_13 (by decide) ?_
    refine va_put (D := (dC, dI)) (ci := 10) (v := .int 5000) (ty := .int) (C := RX3) (T := TX3) (N := 20) hx hb hts i_X3 tyX3 tyX3_ok nmX3 hown hK hP hD hS 0 rfl rfl 2 (by decide) (hts _ qw879) (fun _ h9 => h9) rfl (by decide +kernel) rfl rfl (Nat.le_of_ble_eq_true rfl) dX3_tick_16 (fun H locs hP hD hS => ?_)
    have hP : va_P (dC, dI) cls (oX3 (p0a 0) p0a p0k p0n (upw p0w 0 2 5000)) H := hP
    have hD : va_D A (oX3 (p0a 0) p0a p0k p0n (upw p0w 0 2 5000)) := hD
    obtain ⟨w3, ew3, hrun⟩ := let9 hrun
    rw [← ew3] at hP hD
    refine lv_aload_n hx hb dX3_tick_19 rfl (lv_at hl 0 rfl) ?_
    refine lv_iconst (v := 2) hx hb dX3_tick_20 (by decide) ?_
    obtain ⟨o_4, hc_4, hrun⟩ := bnd9 hrun
    have hPc := hP.sub (ws' := (oX3 (p0a 0) p0a p0k p0n w3)) [0, 1, 2, 3, 4, 5, 6, 7, 8, 9, 10] rfl
    have hDc := hD.sub (ws' := (oX3 (p0a 0) p0a p0k p0n w3)) [0, 1, 2, 3, 4, 5, 6, 7, 8, 9, 10] (by decide) rfl
    have hKc := hK.sub (tys' := (tX3 p0k)) [0, 1, 2, 3, 4, 5, 6, 7, 8, 9] rfl
    have hFc := va_free (wc := (oX3 (p0a 0) p0a p0k p0n w3)) hD hS hA [0, 1, 2, 3, 4, 5, 6, 7, 8, 9, 10] rfl
    refine va_callv (va_runV (As := [.int 2]) (rest := []) ⟨hx, hb, hml, hown, hts⟩ (kX3_stop l dC dI (p0a := (st0 (p0a 0) p0a)) (p0k := p0k) (p0n := p0n) (p0w := w3) (p1 := 2) (sz := _) (o := o_4) (hrun := hc_4)) (cwV 1 hts (gi_V qw885 qw886 qw887 qw888 (gi_z qw884)) rfl rfl rfl (by decide +kernel) ⟨Nat.le_of_ble_eq_true rfl, Nat.le_of_ble_eq_true rfl⟩) ⟨PRE.blind, va_recv hKc hPc (ci := 10) (q0 := 0) rfl rfl, PRE.of hE hS hFc hPc hKc hDc⟩ rfl rfl hl.1 rfl (lv_room (Nat.le_of_ble_eq_true rfl)) dX3_tick_21 ⟨(Nat.le_of_ble_eq_true rfl), (Nat.le_of_ble_eq_true rfl)⟩) hS (fun q _ h => hFc q h) hFc (fun u t H locs ht hvm hw hB hz1 hk1 hS => ?_)
    obtain ⟨hP, hD, hK⟩ := JOIN (wr := ([] : va_W)) hP hD hK [0, 1, 2, 3, 4, 5, 6, 7, 8, 9, 10] [] [] rfl rfl (by decide) (by decide) rfl hk1 hFc ht hvm hB
    have hP : va_P (dC, dI) cls (oX3 (p0a 0) p0a p0k p0n o_4) H := hP.sub [0, 1, 2, 3, 4, 5, 6, 7, 8, 9, 10] rfl
    have hD : va_D A (oX3 (p0a 0) p0a p0k p0n o_4) := hD.sub [0, 1, 2, 3, 4, 5, 6, 7, 8, 9, 10] (by decide) rfl
    have hK : va_K (dC, dI) cls (tX3 p0k) s := hK.sub [0, 1, 2, 3, 4, 5, 6, 7, 8, 9] rfl
    refine lv_iconst (v := 0) hx hb dX3_tick_24 (by decide) ?_
    have ho9 : (0, o_4) = o := Option.some.inj hrun
    have hP9 : va_P (dC, dI) cls (oX3 (p0a 0) p0a p0k p0n (o.2)) H := by first | exact hP | (rw [← ho9]; exact hP)
    have hD9 : va_D A (oX3 (p0a 0) p0a p0k p0n (o.2)) := by first | exact hD | (rw [← ho9]; exact hD)
    subst hQ
    exact W.zret (v := 0) hx hb hr (by decide) (fun t ht hW => ⟨⟨0, (), rfl, (by rw [← ho9]), ⟨by rw [ht]; exact hP9, va_K.moved hW.alike hK, hD9⟩⟩, hS.F ht⟩) hS.2.2 dX3_tick_25
def fX3_enterBlock_L26 (p1n : Nat → Nat) (p1w : ST) (p2 : Int32) : Nat → Int32 → Int32 → ST → Option (Sum ST ST)
  | 0 => fun _ _ _ => none
  | n_26 + 1 => fun v5_26 v6_26 p0w_26 => (if v6_26 < 0 then some (Sum.inr p0w_26) else ((fX3_tick p0w_26 1).bind fun (o_4 : Int32 × ST) => (if (o_4.1) = 0 then some (Sum.inl (o_4.2)) else (if ixb p2 8 = true then ((fX1_take p1n p1w v6_26 (((o_4.2) 14) (nn p2))).bind fun (o_8 : Int32) => (if ixb ((p2 * 320) + o_8) 2560 = true then (if ixb v5_26 512 = true then (lt9 (upw (o_4.2) 19 (nn v5_26) (((o_4.2) 16) (nn ((p2 * 320) + o_8)))) fun (w12 : ST) => (if ixb v6_26 (p1n 20) = true then ((fX3_enterBlock_L26 p1n p1w p2 n_26) (v5_26 + 1) (p1w 20 (nn v6_26)) w12) else none)) else none) else none)) else none))))
def fX3_enterBlock_L93 (p1n : Nat → Nat) (p1w : ST) (p2 : Int32) : Nat → Int32 → Int32 → ST → Option ST
  | 0 => fun _ _ _ => none
  | n_93 + 1 => fun v5_93 v6_93 p0w_93 => (if v6_93 < 0 then some p0w_93 else (if ixb v6_93 (p1n 19) = true then (if ixb v5_93 512 = true then (if ixb ((p2 * 320) + (p1w 19 (nn v6_93))) 2560 = true then (lt9 (upw p0w_93 16 (nn ((p2 * 320) + (p1w 19 (nn v6_93)))) (p0w_93 19 (nn v5_93))) fun (w19 : ST) => (if ixb v6_93 (p1n 20) = true then ((fX3_enterBlock_L93 p1n p1w p2 n_93) (v5_93 + 1) (p1w 20 (nn v6_93)) w19) else none)) else none) else none) else none))
def fX3_enterBlock (p0w : ST) (p1n : Nat → Nat) (p1w : ST) (p2 : Int32) : Option ST := (if ixb p2 8 = true then (if ixb (p0w 13 (nn p2)) 60 = true then ((fX3_enterBlock_L26 p1n p1w p2 NF 0 (p1w 6 (nn (p0w 13 (nn p2)))) p0w).bind fun (o26 : (Sum ST ST)) => Sum.elim (fun r => some r) (fun (t26 : ST) => (if ixb (p0w 13 (nn p2)) 60 = true then ((fX3_enterBlock_L93 p1n p1w p2 NF 0 (p1w 6 (nn (p0w 13 (nn p2)))) t26).bind fun (o93 : ST) => (if ixb (p0w 13 (nn p2)) 60 = true then (if ixb p2 8 = true then (lt9 (upw o93 12 (nn p2) (p1w 4 (nn (p0w 13 (nn p2))))) fun (w23 : ST) => some w23) else none) else none)) else none)) o26) else none) else none)
set_option maxHeartbeats 16000000 in
set_option maxRecDepth 100000 in
theorem kX3_enterBlock {zs : Nat × Nat} (l : Launch) (dC : Nat → ClassId) (dI : Nat → Nat → Nat) (p0a : Nat → Nat) (p0k : Nat → ClassId) (p0n : Nat → Nat) (p0w : ST) (p1a : Nat → Nat) (p1k : Nat → ClassId) (p1n : Nat → Nat) (p1w : ST) (p1l : SL) (p2 : Int32) (sz : Nat) (o : ST) (hrun : fX3_enterBlock p0w p1n p1w p2 = some o) : Met l yX3_enterBlock (wz yX3_enterBlock cX3_enterBlock 7 (Option.none : Option Jvm.ClassFile.FieldType)) ({ frames := 2, cells := 0, slots := 0, locals := 42 } : Room) (va_Pc [.ref (p0a 0), .ref (p1a 0), .int p2] (PRE zs dC dI ((oX3 (p0a 0) p0a p0k p0n p0w) ++ (oX1 (p1a 0) p1a p1k p1n p1w p1l)) ((tX3 p0k) ++ (tX1 p1k)) sz)) (va_Qv (fun (_ : Unit) => True) (fun _ t => POST dC dI ((oX3 (p0a 0) p0a p0k p0n o) ++ (oX1 (p1a 0) p1a p1k p1n p1w p1l)) ((tX3 p0k) ++ (tX1 p1k)) (va_A ((oX3 (p0a 0) p0a p0k p0n p0w) ++ (oX1 (p1a 0) p1a p1k p1n p1w p1l)) sz) t) (va_A ((oX3 (p0a 0) p0a p0k p0n p0w) ++ (oX1 (p1a 0) p1a p1k p1n p1w p1l)) sz)) 0 0 (va_A ((oX3 (p0a 0) p0a p0k p0n p0w) ++ (oX1 (p1a 0) p1a p1k p1n p1w p1l)) sz) := by
  refine Met.ofW (cc := cX3_enterBlock) (maxL := 7) (ret := (Option.none : Option Jvm.ClassFile.FieldType)) (by decide) rfl ?_
  intro p e s m args below meth c s₁ B hml hv
  obtain ⟨rfl, hsz, hP, hK, hD0, hE⟩ := hv
  have hx := B.exec
  have hb := B.bytes
  have hr := B.returns
  have hts0 := atoms_spec (ws := wz yX3_enterBlock cX3_enterBlock 7 (Option.none : Option Jvm.ClassFile.FieldType)) B.pre
  have hts : ∀ w ∈ gw, w.before _ s = true := fun w h => hts0 w (List.mem_cons_of_mem _ h)
  have hown : s.vm.findClass RX3 = some m.cls := findClass_of_methodNamed B.named
  have hlocks := B.notSynchronized
  subst hsz
  have hD := hD0.self (sz := s.heap.size)
  refine gQ9 ?_
  intro Q hQ
  generalize hAe : va_A ((oX3 (p0a 0) p0a p0k p0n p0w) ++ (oX1 (p1a 0) p1a p1k p1n p1w p1l)) s.heap.size = A at hD hE hQ
  have hA : ∀ q : Nat, s.heap.size ≤ q → A q := fun q h => by rw [← hAe]; exact Or.inr h
  have hS : va_S A s.heap s.heap [] := va_S.rf
  have hP : va_P (dC, dI) cls ((oX3 (p0a 0) p0a p0k p0n p0w) ++ (oX1 (p1a 0) p1a p1k p1n p1w p1l)) s.heap := hP
  have hl := lv_entry ([.ref (p0a 0), .ref (p1a 0), .int p2]) (n := 7) (Nat.le_of_ble_eq_true rfl)
  rw [lg_entry_eq]
  generalize (lg_sl ([.ref (p0a 0), .ref (p1a 0), .int p2]) ++ List.replicate (7 - (lg_sl ([.ref (p0a 0), .ref (p1a 0), .int p2])).length) Slot.unset).toArray = ls at hl ⊢
  have hl : lv_has ls 7 [(0, .ref (p0a 0)), (1, .ref (p1a 0)), (2, .int p2)] := hl
  obtain ⟨H, hHe⟩ : ∃ H, H = s.heap := ⟨_, rfl⟩
  obtain ⟨locs, hle⟩ : ∃ locs : List Loc, locs = [] := ⟨_, rfl⟩
  rw [← hHe] at hP
  have hS : va_S A s.heap H locs := by rw [hHe, hle]; exact hS
  show W p l e ({ frames := 2, cells := 0, slots := 0, locals := 42 } : Room) s m ([.ref (p0a 0), .ref (p1a 0), .int p2] : List Value).toArray below meth c s.heap [] 0 0 Q (F0 m 0 ls [])
  rw [← hle]
  refine wH9 hHe ?_
  unfold fX3_enterBlock at hrun
  refine lv_iload_n hx hb dX3_enterBlock_0 rfl (lv_at hl 2 rfl) ?_
  refine lv_sipush (v := 320) hx hb dX3_enterBlock_1 (by decide) ?_
  refine lv_imul hx hb dX3_enterBlock_4 ?_
  refine lv_istore_n (lv' := [(3, .int (p2 * 320)), (0, .ref (p0a 0)), (1, .ref (p1a 0)), (2, .int p2)]) hx hb dX3_enterBlock_5 rfl hl (by decide) rfl (fun ls hl => ?_)
  refine lv_aload_n hx hb dX3_enterBlock_6 rfl (lv_at hl 1 rfl) ?_
  refine va_get (D := (dC, dI)) (ci := 10) (v := .ref (p0a 13)) (C := RX3) (T := TX3) (N := 20) hx hb hts i_X3 hown hK hP 0 rfl rfl 12 (by decide) (hts _ qw889) (fun _ h9 => h9) rfl dX3_enterBlock_7 ?_
  refine lv_iload_n hx hb dX3_enterBlock_10 rfl (lv_at hl 3 rfl) ?_
  obtain ⟨hq1, hrun⟩ := chk9 hrun
  refine va_iald hx hb hK hP 5 4 rfl rfl (ixb_in hq1) dX3_enterBlock_11 ?_
  refine lv_istore (lv' := [(4, .int (p0w 13 (nn p2))), (3, .int (p2 * 320)), (0, .ref (p0a 0)), (1, .ref (p1a 0)), (2, .int p2)]) hx hb dX3_enterBlock_12 hl (by decide) rfl (fun ls hl => ?_)
  refine lv_iconst (v := 0) hx hb dX3_enterBlock_14 (by decide) ?_
  refine lv_istore (lv' := [(5, .int 0), (4, .int (p0w 13 (nn p2))), (3, .int (p2 * 320)), (0, .ref (p0a 0)), (1, .ref (p1a 0)), (2, .int p2)]) hx hb dX3_enterBlock_15 hl (by decide) rfl (fun ls hl => ?_)
  refine lv_aload_n hx hb dX3_enterBlock_17 rfl (lv_at hl 4 rfl) ?_
  refine va_get (D := (dC, dI)) (ci := 4) (v := .ref (p1a 6)) (C := RX1) (T := TX1) (N := 21) hx hb hts i_X1 hown hK hP 11 rfl rfl 5 (by decide) (hts _ qw913) (fun _ h9 => h9) rfl dX3_enterBlock_18 ?_
  refine lv_iload hx hb dX3_enterBlock_21 (lv_at hl 1 rfl) ?_
  obtain ⟨hq2, hrun⟩ := chk9 hrun
  refine va_iald hx hb hK hP 14 12 rfl rfl (ixb_in hq2) dX3_enterBlock_23 ?_
  refine lv_istore (lv' := [(6, .int (p1w 6 (nn (p0w 13 (nn p2))))), (5, .int 0), (4, .int (p0w 13 (nn p2))), (3, .int (p2 * 320)), (0, .ref (p0a 0)), (1, .ref (p1a 0)), (2, .int p2)]) hx hb dX3_enterBlock_24 hl (by decide) rfl (fun ls hl => ?_)
  have L26 : ∀ (n_26 : Nat) (v5_26 : Int32) (v6_26 : Int32) (p0w_26 : ST) (o26 : (Sum ST ST)) (H : Heap) (locs : List Loc) (ls : Array Slot), (fX3_enterBlock_L26 p1n p1w p2 n_26) v5_26 v6_26 p0w_26 = some o26 → va_P (dC, dI) cls ((oX3 (p0a 0) p0a p0k p0n p0w_26) ++ (oX1 (p1a 0) p1a p1k p1n p1w p1l)) H → va_D A ((oX3 (p0a 0) p0a p0k p0n p0w_26) ++ (oX1 (p1a 0) p1a p1k p1n p1w p1l)) → va_K (dC, dI) cls ((tX3 p0k) ++ (tX1 p1k)) s → va_S A s.heap H locs → lv_has ls 7 [(0, .ref (p0a 0)), (1, .ref (p1a 0)), (2, .int p2), (3, .int (p2 * 320)), (4, .int (p0w 13 (nn p2))), (5, .int v5_26), (6, .int v6_26)] → (∀ r, o26 = Sum.inl r → r = o) → (∀ (t26 : ST), o26 = Sum.inr t26 → ∀ (H : Heap) (locs : List Loc) (ls : Array Slot), va_P (dC, dI) cls ((oX3 (p0a 0) p0a p0k p0n t26) ++ (oX1 (p1a 0) p1a p1k p1n p1w p1l)) H → va_D A ((oX3 (p0a 0) p0a p0k p0n t26) ++ (oX1 (p1a 0) p1a p1k p1n p1w p1l)) → va_K (dC, dI) cls ((tX3 p0k) ++ (tX1 p1k)) s → va_S A s.heap H locs → lv_has ls 7 [(0, .ref (p0a 0)), (1, .ref (p1a 0)), (2, .int p2), (3, .int (p2 * 320)), (4, .int (p0w 13 (nn p2)))] → W p l e ({ frames := 2, cells := 0, slots := 0, locals := 42 } : Room) s m ([.ref (p0a 0), .ref (p1a 0), .int p2] : List Value).toArray below meth c H locs 0 0 Q (F0 m 81 ls [])) → W p l e ({ frames := 2, cells := 0, slots := 0, locals := 42 } : Room) s m ([.ref (p0a 0), .ref (p1a 0), .int p2] : List Value).toArray below meth c H locs 0 0 Q (F0 m 26 ls []) := by
    intro n_26
    induction n_26 with
    | zero => intro v5_26 v6_26 p0w_26 o26 H locs ls hrun; exact (no9 rfl hrun).elim
    | succ n_26 IH26 =>
      intro v5_26 v6_26 p0w_26 o26 H locs ls hrun hP hD hK hS hl hr26 hk26
      unfold fX3_enterBlock_L26 at hrun
      refine lv_iload hx hb dX3_enterBlock_26 (lv_at hl 6 rfl) ?_
      rcases br9 hrun with ⟨hc3, hrun⟩ | ⟨hc3, hrun⟩
      · refine lv_if_lt (tgt := 81) hx hb dX3_enterBlock_28 (by decide) (fun _ => ?_) (fun c => absurd hc3 c)
        obtain rfl := (Option.some.inj hrun)
        exact hk26 _ rfl _ _ _ hP hD hK hS (lv_sub hl [0, 1, 2, 3, 4] rfl)
      · refine lv_if_lt (tgt := 81) hx hb dX3_enterBlock_28 (by decide) (fun c => absurd c hc3) (fun _ => ?_)
        refine lv_aload_n hx hb dX3_enterBlock_31 rfl (lv_at hl 0 rfl) ?_
        refine lv_iconst (v := 1) hx hb dX3_enterBlock_32 (by decide) ?_
        obtain ⟨o_4, hc_4, hrun⟩ := bnd9 hrun
        have hPc := hP.sub (ws' := (oX3 (p0a 0) p0a p0k p0n p0w_26)) [0, 1, 2, 3, 4, 5, 6, 7, 8, 9, 10] rfl
        have hDc := hD.sub (ws' := (oX3 (p0a 0) p0a p0k p0n p0w_26)) [0, 1, 2, 3, 4, 5, 6, 7, 8, 9, 10] (by decide) rfl
        have hKc := hK.sub (tys' := (tX3 p0k)) [0, 1, 2, 3, 4, 5, 6, 7, 8, 9] rfl
        have hFc := va_free (wc := (oX3 (p0a 0) p0a p0k p0n p0w_26)) hD hS hA [0, 1, 2, 3, 4, 5, 6, 7, 8, 9, 10] rfl
        refine va_calli (va_runV (As := [.int 1]) (rest := []) ⟨hx, hb, hml, hown, hts⟩ (kX3_tick l dC dI (p0a := (st0 (p0a 0) p0a)) (p0k := p0k) (p0n := p0n) (p0w := p0w_26) (p1 := 1) (sz := _) (o := o_4) (hrun := hc_4)) (cwV 1 hts (gi_V qw915 qw916 qw917 qw888 (gi_z qw914)) rfl rfl rfl (by decide +kernel) ⟨Nat.le_of_ble_eq_true rfl, Nat.le_of_ble_eq_true rfl⟩) ⟨PRE.blind, va_recv hKc hPc (ci := 10) (q0 := 0) rfl rfl, PRE.of hE hS hFc hPc hKc hDc⟩ rfl rfl hl.1 rfl (lv_room (Nat.le_of_ble_eq_true rfl)) dX3_enterBlock_33 ⟨(Nat.le_of_ble_eq_true rfl), (Nat.le_of_ble_eq_true rfl)⟩) hS (fun q _ h => hFc q h) hFc (fun r5 u t H locs ht hvm hw hB hz1 hk1 hS => ?_)
        obtain ⟨hP, hD, hK⟩ := JOIN (wr := (oX1 (p1a 0) p1a p1k p1n p1w p1l)) hP hD hK [0, 1, 2, 3, 4, 5, 6, 7, 8, 9, 10] [11, 12, 13, 14, 15, 16, 17, 18, 19, 20, 21, 22, 23, 24, 25, 26, 27, 28] [10, 11, 12, 13, 14, 15, 16, 17, 18, 19, 20, 21, 22, 23, 24, 25, 26] rfl rfl (by decide) (by decide) rfl hk1 hFc ht hvm hB
        have hP : va_P (dC, dI) cls ((oX3 (p0a 0) p0a p0k p0n (o_4.2)) ++ (oX1 (p1a 0) p1a p1k p1n p1w p1l)) H := hP.sub [18, 19, 20, 21, 22, 23, 24, 25, 26, 27, 28, 0, 1, 2, 3, 4, 5, 6, 7, 8, 9, 10, 11, 12, 13, 14, 15, 16, 17] rfl
        have hD : va_D A ((oX3 (p0a 0) p0a p0k p0n (o_4.2)) ++ (oX1 (p1a 0) p1a p1k p1n p1w p1l)) := hD.sub [18, 19, 20, 21, 22, 23, 24, 25, 26, 27, 28, 0, 1, 2, 3, 4, 5, 6, 7, 8, 9, 10, 11, 12, 13, 14, 15, 16, 17] (by decide) rfl
        have hK : va_K (dC, dI) cls ((tX3 p0k) ++ (tX1 p1k)) s := hK.sub [17, 18, 19, 20, 21, 22, 23, 24, 25, 26, 0, 1, 2, 3, 4, 5, 6, 7, 8, 9, 10, 11, 12, 13, 14, 15, 16] rfl
        obtain rfl : r5 = (o_4.1) := hw
        rcases br9 hrun with ⟨hc6, hrun⟩ | ⟨hc6, hrun⟩
        · refine lv_if_ne (tgt := 40) hx hb dX3_enterBlock_36 (by decide) (fun c => absurd hc6 c) (fun _ => ?_)
          have ho9 : (o_4.2) = o := hr26 _ (Option.some.inj hrun).symm
          have hP9 : va_P (dC, dI) cls ((oX3 (p0a 0) p0a p0k p0n o) ++ (oX1 (p1a 0) p1a p1k p1n p1w p1l)) H := by first | exact hP | (rw [← ho9]; exact hP)
          have hD9 : va_D A ((oX3 (p0a 0) p0a p0k p0n o) ++ (oX1 (p1a 0) p1a p1k p1n p1w p1l)) := by first | exact hD | (rw [← ho9]; exact hD)
          subst hQ
          exact W.vret hx hb hr (fun t ht hW => ⟨⟨(), rfl, trivial, ⟨by rw [ht]; exact hP9, va_K.moved hW.alike hK, hD9⟩⟩, hS.F ht⟩) hS.2.2 dX3_enterBlock_39
        · refine lv_if_ne (tgt := 40) hx hb dX3_enterBlock_36 (by decide) (fun _ => ?_) (fun c => absurd c hc6)
          refine lv_aload_n hx hb dX3_enterBlock_40 rfl (lv_at hl 0 rfl) ?_
          refine va_get (D := (dC, dI)) (ci := 10) (v := .ref (p0a 19)) (C := RX3) (T := TX3) (N := 20) hx hb hts i_X3 hown hK hP 0 rfl rfl 18 (by decide) (hts _ qw902) (fun _ h9 => h9) rfl dX3_enterBlock_41 ?_
          refine lv_iload hx hb dX3_enterBlock_44 (lv_at hl 5 rfl) ?_
          refine lv_aload_n hx hb dX3_enterBlock_46 rfl (lv_at hl 0 rfl) ?_
          refine va_get (D := (dC, dI)) (ci := 10) (v := .ref (p0a 16)) (C := RX3) (T := TX3) (N := 20) hx hb hts i_X3 hown hK hP 0 rfl rfl 15 (by decide) (hts _ qw891) (fun _ h9 => h9) rfl dX3_enterBlock_47 ?_
          refine lv_iload_n hx hb dX3_enterBlock_50 rfl (lv_at hl 3 rfl) ?_
          refine lv_aload_n hx hb dX3_enterBlock_51 rfl (lv_at hl 1 rfl) ?_
          refine lv_iload hx hb dX3_enterBlock_52 (lv_at hl 6 rfl) ?_
          refine lv_aload_n hx hb dX3_enterBlock_54 rfl (lv_at hl 0 rfl) ?_
          refine va_get (D := (dC, dI)) (ci := 10) (v := .ref (p0a 14)) (C := RX3) (T := TX3) (N := 20) hx hb hts i_X3 hown hK hP 0 rfl rfl 13 (by decide) (hts _ qw907) (fun _ h9 => h9) rfl dX3_enterBlock_55 ?_
          refine lv_iload_n hx hb dX3_enterBlock_58 rfl (lv_at hl 2 rfl) ?_
          obtain ⟨hq7, hrun⟩ := chk9 hrun
          refine va_iald hx hb hK hP 6 5 rfl rfl (ixb_in hq7) dX3_enterBlock_59 ?_
          obtain ⟨o_8, hc_8, hrun⟩ := bnd9 hrun
          have hPc := hP.sub (ws' := (oX1 (p1a 0) p1a p1k p1n p1w p1l)) [11, 12, 13, 14, 15, 16, 17, 18, 19, 20, 21, 22, 23, 24, 25, 26, 27, 28] rfl
          have hDc := hD.sub (ws' := (oX1 (p1a 0) p1a p1k p1n p1w p1l)) [11, 12, 13, 14, 15, 16, 17, 18, 19, 20, 21, 22, 23, 24, 25, 26, 27, 28] (by decide) rfl
          have hKc := hK.sub (tys' := (tX1 p1k)) [10, 11, 12, 13, 14, 15, 16, 17, 18, 19, 20, 21, 22, 23, 24, 25, 26] rfl
          have hFc := va_free (wc := (oX1 (p1a 0) p1a p1k p1n p1w p1l)) hD hS hA [11, 12, 13, 14, 15, 16, 17, 18, 19, 20, 21, 22, 23, 24, 25, 26, 27, 28] rfl
          refine va_calli (va_runV (As := [.int v6_26, .int (((o_4.2) 14) (nn p2))]) (rest := [.int (p2 * 320), .ref (p0a 16), .int v5_26, .ref (p0a 19)]) ⟨hx, hb, hml, hown, hts⟩ (kX1_take l dC dI (p0a := (st0 (p1a 0) p1a)) (p0k := p1k) (p0n := p1n) (p0w := p1w) (p0l := p1l) (p1 := v6_26) (p2 := (((o_4.2) 14) (nn p2))) (sz := _) (o := o_8) (hrun := hc_8)) (cwV 2 hts (gi_V qw918 qw470 qw471 qw126 (gi_z qw468)) rfl rfl rfl (by decide +kernel) ⟨Nat.le_of_ble_eq_true rfl, Nat.le_of_ble_eq_true rfl⟩) ⟨PRE.blind, va_recv hKc hPc (ci := 4) (q0 := 0) rfl rfl, PRE.of hE hS hFc hPc hKc hDc⟩ rfl rfl hl.1 rfl (lv_room (Nat.le_of_ble_eq_true rfl)) dX3_enterBlock_60 ⟨(Nat.le_of_ble_eq_true rfl), (Nat.le_of_ble_eq_true rfl)⟩) hS (fun q _ h => hFc q h) hFc (fun r9 u t H locs ht hvm hw hB hz1 hk1 hS => ?_)
          obtain ⟨hP, hD, hK⟩ := JOIN (wr := (oX3 (p0a 0) p0a p0k p0n (o_4.2))) hP hD hK [11, 12, 13, 14, 15, 16, 17, 18, 19, 20, 21, 22, 23, 24, 25, 26, 27, 28] [0, 1, 2, 3, 4, 5, 6, 7, 8, 9, 10] [0, 1, 2, 3, 4, 5, 6, 7, 8, 9] rfl rfl (by decide) (by decide) rfl hk1 hFc ht hvm hB
          have hP : va_P (dC, dI) cls ((oX3 (p0a 0) p0a p0k p0n (o_4.2)) ++ (oX1 (p1a 0) p1a p1k p1n p1w p1l)) H := hP.sub [0, 1, 2, 3, 4, 5, 6, 7, 8, 9, 10, 11, 12, 13, 14, 15, 16, 17, 18, 19, 20, 21, 22, 23, 24, 25, 26, 27, 28] rfl
          have hD : va_D A ((oX3 (p0a 0) p0a p0k p0n (o_4.2)) ++ (oX1 (p1a 0) p1a p1k p1n p1w p1l)) := hD.sub [0, 1, 2, 3, 4, 5, 6, 7, 8, 9, 10, 11, 12, 13, 14, 15, 16, 17, 18, 19, 20, 21, 22, 23, 24, 25, 26, 27, 28] (by decide) rfl
          have hK : va_K (dC, dI) cls ((tX3 p0k) ++ (tX1 p1k)) s := hK.sub [0, 1, 2, 3, 4, 5, 6, 7, 8, 9, 10, 11, 12, 13, 14, 15, 16, 17, 18, 19, 20, 21, 22, 23, 24, 25, 26] rfl
          obtain rfl : o_8 = r9 := hw.symm
          refine lv_iadd hx hb dX3_enterBlock_63 ?_
          obtain ⟨hq10, hrun⟩ := chk9 hrun
          refine va_iald hx hb hK hP 8 7 rfl rfl (ixb_in hq10) dX3_enterBlock_64 ?_
          obtain ⟨hq11, hrun⟩ := chk9 hrun
          refine va_iast hx hb hK hP hD hS 10 9 rfl rfl (ixb_in hq11) dX3_enterBlock_65 (fun H locs hP hD hS => ?_)
          have hP : va_P (dC, dI) cls ((oX3 (p0a 0) p0a p0k p0n (upw (o_4.2) 19 (nn v5_26) (((o_4.2) 16) (nn ((p2 * 320) + o_8))))) ++ (oX1 (p1a 0) p1a p1k p1n p1w p1l)) H := hP
          have hD : va_D A ((oX3 (p0a 0) p0a p0k p0n (upw (o_4.2) 19 (nn v5_26) (((o_4.2) 16) (nn ((p2 * 320) + o_8))))) ++ (oX1 (p1a 0) p1a p1k p1n p1w p1l)) := hD
          obtain ⟨w12, ew12, hrun⟩ := let9 hrun
          rw [← ew12] at hP hD
          refine lv_iinc (v := (v5_26 + 1)) (lv' := [(5, .int (v5_26 + 1)), (0, .ref (p0a 0)), (1, .ref (p1a 0)), (2, .int p2), (3, .int (p2 * 320)), (4, .int (p0w 13 (nn p2))), (6, .int v6_26)]) hx hb dX3_enterBlock_66 hl (k := 5) rfl rfl (by decide) rfl (fun ls hl => ?_)
          refine lv_aload_n hx hb dX3_enterBlock_69 rfl (lv_at hl 2 rfl) ?_
          refine va_get (D := (dC, dI)) (ci := 4) (v := .ref (p1a 20)) (C := RX1) (T := TX1) (N := 21) hx hb hts i_X1 hown hK hP 11 rfl rfl 19 (by decide) (hts _ qw919) (fun _ h9 => h9) rfl dX3_enterBlock_70 ?_
          refine lv_iload hx hb dX3_enterBlock_73 (lv_at hl 6 rfl) ?_
          obtain ⟨hq13, hrun⟩ := chk9 hrun
          refine va_iald hx hb hK hP 27 25 rfl rfl (ixb_in hq13) dX3_enterBlock_75 ?_
          refine lv_istore (lv' := [(6, .int (p1w 20 (nn v6_26))), (5, .int (v5_26 + 1)), (0, .ref (p0a 0)), (1, .ref (p1a 0)), (2, .int p2), (3, .int (p2 * 320)), (4, .int (p0w 13 (nn p2)))]) hx hb dX3_enterBlock_76 hl (by decide) rfl (fun ls hl => ?_)
          refine lv_goto (tgt := 26) hx hb dX3_enterBlock_78 (by decide) ?_
          exact IH26 (v5_26 + 1) (p1w 20 (nn v6_26)) w12 o26 _ _ _ hrun hP hD hK hS (lv_sub hl [2, 3, 4, 5, 6, 1, 0] rfl) hr26 hk26
  obtain ⟨o26, hc26, hrun⟩ := bnd9 hrun
  refine L26 NF 0 (p1w 6 (nn (p0w 13 (nn p2)))) p0w o26 _ _ _ hc26 hP hD hK hS (lv_sub hl [4, 5, 6, 3, 2, 1, 0] rfl) (fun r e9 => by subst e9; exact Option.some.inj hrun) ?_
  intro t26 e9
  subst e9
  replace hrun := el9 hrun
  intro H locs ls hP hD hK hS hl
  have hl := hl
  refine lv_iconst (v := 0) hx hb dX3_enterBlock_81 (by decide) ?_
  refine lv_istore (lv' := [(5, .int 0), (0, .ref (p0a 0)), (1, .ref (p1a 0)), (2, .int p2), (3, .int (p2 * 320)), (4, .int (p0w 13 (nn p2)))]) hx hb dX3_enterBlock_82 hl (by decide) rfl (fun ls hl => ?_)
  refine lv_aload_n hx hb dX3_enterBlock_84 rfl (lv_at hl 2 rfl) ?_
  refine va_get (D := (dC, dI)) (ci := 4) (v := .ref (p1a 6)) (C := RX1) (T := TX1) (N := 21) hx hb hts i_X1 hown hK hP 11 rfl rfl 5 (by decide) (hts _ qw913) (fun _ h9 => h9) rfl dX3_enterBlock_85 ?_
  refine lv_iload hx hb dX3_enterBlock_88 (lv_at hl 5 rfl) ?_
  obtain ⟨hq14, hrun⟩ := chk9 hrun
  refine va_iald hx hb hK hP 14 12 rfl rfl (ixb_in hq14) dX3_enterBlock_90 ?_
  refine lv_istore (lv' := [(6, .int (p1w 6 (nn (p0w 13 (nn p2))))), (5, .int 0), (0, .ref (p0a 0)), (1, .ref (p1a 0)), (2, .int p2), (3, .int (p2 * 320)), (4, .int (p0w 13 (nn p2)))]) hx hb dX3_enterBlock_91 hl (by decide) rfl (fun ls hl => ?_)
  have L93 : ∀ (n_93 : Nat) (v5_93 : Int32) (v6_93 : Int32) (p0w_93 : ST) (o93 : ST) (H : Heap) (locs : List Loc) (ls : Array Slot), (fX3_enterBlock_L93 p1n p1w p2 n_93) v5_93 v6_93 p0w_93 = some o93 → va_P (dC, dI) cls ((oX3 (p0a 0) p0a p0k p0n p0w_93) ++ (oX1 (p1a 0) p1a p1k p1n p1w p1l)) H → va_D A ((oX3 (p0a 0) p0a p0k p0n p0w_93) ++ (oX1 (p1a 0) p1a p1k p1n p1w p1l)) → va_K (dC, dI) cls ((tX3 p0k) ++ (tX1 p1k)) s → va_S A s.heap H locs → lv_has ls 7 [(0, .ref (p0a 0)), (1, .ref (p1a 0)), (2, .int p2), (3, .int (p2 * 320)), (4, .int (p0w 13 (nn p2))), (5, .int v5_93), (6, .int v6_93)] → (∀ (H : Heap) (locs : List Loc) (ls : Array Slot), va_P (dC, dI) cls ((oX3 (p0a 0) p0a p0k p0n o93) ++ (oX1 (p1a 0) p1a p1k p1n p1w p1l)) H → va_D A ((oX3 (p0a 0) p0a p0k p0n o93) ++ (oX1 (p1a 0) p1a p1k p1n p1w p1l)) → va_K (dC, dI) cls ((tX3 p0k) ++ (tX1 p1k)) s → va_S A s.heap H locs → lv_has ls 7 [(0, .ref (p0a 0)), (1, .ref (p1a 0)), (2, .int p2), (4, .int (p0w 13 (nn p2)))] → W p l e ({ frames := 2, cells := 0, slots := 0, locals := 42 } : Room) s m ([.ref (p0a 0), .ref (p1a 0), .int p2] : List Value).toArray below meth c H locs 0 0 Q (F0 m 134 ls [])) → W p l e ({ frames := 2, cells := 0, slots := 0, locals := 42 } : Room) s m ([.ref (p0a 0), .ref (p1a 0), .int p2] : List Value).toArray below meth c H locs 0 0 Q (F0 m 93 ls []) := by
    intro n_93
    induction n_93 with
    | zero => intro v5_93 v6_93 p0w_93 o93 H locs ls hrun; exact (no9 rfl hrun).elim
    | succ n_93 IH93 =>
      intro v5_93 v6_93 p0w_93 o93 H locs ls hrun hP hD hK hS hl hk93
      unfold fX3_enterBlock_L93 at hrun
      refine lv_iload hx hb dX3_enterBlock_93 (lv_at hl 6 rfl) ?_
      rcases br9 hrun with ⟨hc15, hrun⟩ | ⟨hc15, hrun⟩
      · refine lv_if_lt (tgt := 134) hx hb dX3_enterBlock_95 (by decide) (fun _ => ?_) (fun c => absurd hc15 c)
        obtain rfl := (Option.some.inj hrun)
        exact hk93 _ _ _ hP hD hK hS (lv_sub hl [0, 1, 2, 4] rfl)
      · refine lv_if_lt (tgt := 134) hx hb dX3_enterBlock_95 (by decide) (fun c => absurd c hc15) (fun _ => ?_)
        refine lv_aload_n hx hb dX3_enterBlock_98 rfl (lv_at hl 0 rfl) ?_
        refine va_get (D := (dC, dI)) (ci := 10) (v := .ref (p0a 16)) (C := RX3) (T := TX3) (N := 20) hx hb hts i_X3 hown hK hP 0 rfl rfl 15 (by decide) (hts _ qw891) (fun _ h9 => h9) rfl dX3_enterBlock_99 ?_
        refine lv_iload_n hx hb dX3_enterBlock_102 rfl (lv_at hl 3 rfl) ?_
        refine lv_aload_n hx hb dX3_enterBlock_103 rfl (lv_at hl 1 rfl) ?_
        refine va_get (D := (dC, dI)) (ci := 4) (v := .ref (p1a 19)) (C := RX1) (T := TX1) (N := 21) hx hb hts i_X1 hown hK hP 11 rfl rfl 18 (by decide) (hts _ qw920) (fun _ h9 => h9) rfl dX3_enterBlock_104 ?_
        refine lv_iload hx hb dX3_enterBlock_107 (lv_at hl 6 rfl) ?_
        obtain ⟨hq16, hrun⟩ := chk9 hrun
        refine va_iald hx hb hK hP 26 24 rfl rfl (ixb_in hq16) dX3_enterBlock_109 ?_
        refine lv_iadd hx hb dX3_enterBlock_110 ?_
        refine lv_aload_n hx hb dX3_enterBlock_111 rfl (lv_at hl 0 rfl) ?_
        refine va_get (D := (dC, dI)) (ci := 10) (v := .ref (p0a 19)) (C := RX3) (T := TX3) (N := 20) hx hb hts i_X3 hown hK hP 0 rfl rfl 18 (by decide) (hts _ qw902) (fun _ h9 => h9) rfl dX3_enterBlock_112 ?_
        refine lv_iload hx hb dX3_enterBlock_115 (lv_at hl 5 rfl) ?_
        obtain ⟨hq17, hrun⟩ := chk9 hrun
        refine va_iald hx hb hK hP 10 9 rfl rfl (ixb_in hq17) dX3_enterBlock_117 ?_
        obtain ⟨hq18, hrun⟩ := chk9 hrun
        refine va_iast hx hb hK hP hD hS 8 7 rfl rfl (ixb_in hq18) dX3_enterBlock_118 (fun H locs hP hD hS => ?_)
        have hP : va_P (dC, dI) cls ((oX3 (p0a 0) p0a p0k p0n (upw p0w_93 16 (nn ((p2 * 320) + (p1w 19 (nn v6_93)))) (p0w_93 19 (nn v5_93)))) ++ (oX1 (p1a 0) p1a p1k p1n p1w p1l)) H := hP
        have hD : va_D A ((oX3 (p0a 0) p0a p0k p0n (upw p0w_93 16 (nn ((p2 * 320) + (p1w 19 (nn v6_93)))) (p0w_93 19 (nn v5_93)))) ++ (oX1 (p1a 0) p1a p1k p1n p1w p1l)) := hD
        obtain ⟨w19, ew19, hrun⟩ := let9 hrun
        rw [← ew19] at hP hD
        refine lv_iinc (v := (v5_93 + 1)) (lv' := [(5, .int (v5_93 + 1)), (0, .ref (p0a 0)), (1, .ref (p1a 0)), (2, .int p2), (3, .int (p2 * 320)), (4, .int (p0w 13 (nn p2))), (6, .int v6_93)]) hx hb dX3_enterBlock_119 hl (k := 5) rfl rfl (by decide) rfl (fun ls hl => ?_)
        refine lv_aload_n hx hb dX3_enterBlock_122 rfl (lv_at hl 2 rfl) ?_
        refine va_get (D := (dC, dI)) (ci := 4) (v := .ref (p1a 20)) (C := RX1) (T := TX1) (N := 21) hx hb hts i_X1 hown hK hP 11 rfl rfl 19 (by decide) (hts _ qw919) (fun _ h9 => h9) rfl dX3_enterBlock_123 ?_
        refine lv_iload hx hb dX3_enterBlock_126 (lv_at hl 6 rfl) ?_
        obtain ⟨hq20, hrun⟩ := chk9 hrun
        refine va_iald hx hb hK hP 27 25 rfl rfl (ixb_in hq20) dX3_enterBlock_128 ?_
        refine lv_istore (lv' := [(6, .int (p1w 20 (nn v6_93))), (5, .int (v5_93 + 1)), (0, .ref (p0a 0)), (1, .ref (p1a 0)), (2, .int p2), (3, .int (p2 * 320)), (4, .int (p0w 13 (nn p2)))]) hx hb dX3_enterBlock_129 hl (by decide) rfl (fun ls hl => ?_)
        refine lv_goto (tgt := 93) hx hb dX3_enterBlock_131 (by decide) ?_
        exact IH93 (v5_93 + 1) (p1w 20 (nn v6_93)) w19 o93 _ _ _ hrun hP hD hK hS (lv_sub hl [2, 3, 4, 5, 6, 1, 0] rfl) hk93
  obtain ⟨o93, hc93, hrun⟩ := bnd9 hrun
  refine L93 NF 0 (p1w 6 (nn (p0w 13 (nn p2)))) t26 o93 _ _ _ hc93 hP hD hK hS (lv_sub hl [2, 3, 4, 5, 6, 1, 0] rfl) ?_
  intro H locs ls hP hD hK hS hl
  have hl := hl
  refine lv_aload_n hx hb dX3_enterBlock_134 rfl (lv_at hl 0 rfl) ?_
  refine va_get (D := (dC, dI)) (ci := 10) (v := .ref (p0a 12)) (C := RX3) (T := TX3) (N := 20) hx hb hts i_X3 hown hK hP 0 rfl rfl 11 (by decide) (hts _ qw908) (fun _ h9 => h9) rfl dX3_enterBlock_135 ?_
  refine lv_iload_n hx hb dX3_enterBlock_138 rfl (lv_at hl 2 rfl) ?_
  refine lv_aload_n hx hb dX3_enterBlock_139 rfl (lv_at hl 1 rfl) ?_
  refine va_get (D := (dC, dI)) (ci := 4) (v := .ref (p1a 4)) (C := RX1) (T := TX1) (N := 21) hx hb hts i_X1 hown hK hP 11 rfl rfl 3 (by decide) (hts _ qw921) (fun _ h9 => h9) rfl dX3_enterBlock_140 ?_
  refine lv_iload hx hb dX3_enterBlock_143 (lv_at hl 3 rfl) ?_
  obtain ⟨hq21, hrun⟩ := chk9 hrun
  refine va_iald hx hb hK hP 12 10 rfl rfl (ixb_in hq21) dX3_enterBlock_145 ?_
  obtain ⟨hq22, hrun⟩ := chk9 hrun
  refine va_iast hx hb hK hP hD hS 4 3 rfl rfl (ixb_in hq22) dX3_enterBlock_146 (fun H locs hP hD hS => ?_)
  have hP : va_P (dC, dI) cls ((oX3 (p0a 0) p0a p0k p0n (upw o93 12 (nn p2) (p1w 4 (nn (p0w 13 (nn p2)))))) ++ (oX1 (p1a 0) p1a p1k p1n p1w p1l)) H := hP
  have hD : va_D A ((oX3 (p0a 0) p0a p0k p0n (upw o93 12 (nn p2) (p1w 4 (nn (p0w 13 (nn p2)))))) ++ (oX1 (p1a 0) p1a p1k p1n p1w p1l)) := hD
  obtain ⟨w23, ew23, hrun⟩ := let9 hrun
  rw [← ew23] at hP hD
  have ho9 : w23 = o := Option.some.inj hrun
  have hP9 : va_P (dC, dI) cls ((oX3 (p0a 0) p0a p0k p0n o) ++ (oX1 (p1a 0) p1a p1k p1n p1w p1l)) H := by first | exact hP | (rw [← ho9]; exact hP)
  have hD9 : va_D A ((oX3 (p0a 0) p0a p0k p0n o) ++ (oX1 (p1a 0) p1a p1k p1n p1w p1l)) := by first | exact hD | (rw [← ho9]; exact hD)
  subst hQ
  exact W.vret hx hb hr (fun t ht hW => ⟨⟨(), rfl, trivial, ⟨by rw [ht]; exact hP9, va_K.moved hW.alike hK, hD9⟩⟩, hS.F ht⟩) hS.2.2 dX3_enterBlock_147
