abbrev cX5_foldBlock : ByteArray := prog_7_method_13_code
def yX5_foldBlock : MethodName := ⟨RX5, "foldBlock", "(LGearbox$Flow;I)I"⟩
abbrev cX5_foldEnd : ByteArray := prog_7_method_14_code
def yX5_foldEnd : MethodName := ⟨RX5, "foldEnd", "(LGearbox$Flow;I)I"⟩
abbrev cX5_learnBlock : ByteArray := prog_7_method_8_code
def yX5_learnBlock : MethodName := ⟨RX5, "learnBlock", "(LGearbox$Flow;I)Z"⟩
abbrev cX5_learnPhi : ByteArray := prog_7_method_9_code
def yX5_learnPhi : MethodName := ⟨RX5, "learnPhi", "(LGearbox$Flow;II)Z"⟩
abbrev cX5_isWay : ByteArray := prog_7_method_12_code
def yX5_isWay : MethodName := ⟨RX5, "isWay", "(LGearbox$Flow;II)Z"⟩
abbrev cX5_learn : ByteArray := prog_7_method_11_code
def yX5_learn : MethodName := ⟨RX5, "learn", "(III)Z"⟩
abbrev cX5_learnStep : ByteArray := prog_7_method_10_code
def yX5_learnStep : MethodName := ⟨RX5, "learnStep", "(LGearbox$Steps;I)Z"⟩
abbrev cX11_isFailing : ByteArray := prog_1_method_63_code
def yX11_isFailing : MethodName := ⟨RX11, "isFailing", "(II)Z"⟩
abbrev cX11_compute : ByteArray := prog_1_method_64_code
def yX11_compute : MethodName := ⟨RX11, "compute", "(III)I"⟩
theorem dX11_compute_0 : decode cX11_compute 0 = .ok (.iload_n 0, 1) := by decide +kernel
theorem dX11_compute_1 : decode cX11_compute 1 = .ok (.tableswitch 192 1 15 #[75, 79, 83, 87, 99, 111, 115, 119, 123, 130, 137, 148, 159, 170, 181], 75) := by decide +kernel
theorem dX11_compute_76 : decode cX11_compute 76 = .ok (.iload_n 1, 1) := by decide +kernel
theorem dX11_compute_77 : decode cX11_compute 77 = .ok (.iload_n 2, 1) := by decide +kernel
theorem dX11_compute_78 : decode cX11_compute 78 = .ok (.iadd, 1) := by decide +kernel
theorem dX11_compute_79 : decode cX11_compute 79 = .ok (.ireturn, 1) := by decide +kernel
theorem dX11_compute_80 : decode cX11_compute 80 = .ok (.iload_n 1, 1) := by decide +kernel
theorem dX11_compute_81 : decode cX11_compute 81 = .ok (.iload_n 2, 1) := by decide +kernel
theorem dX11_compute_82 : decode cX11_compute 82 = .ok (.isub, 1) := by decide +kernel
theorem dX11_compute_83 : decode cX11_compute 83 = .ok (.ireturn, 1) := by decide +kernel
theorem dX11_compute_84 : decode cX11_compute 84 = .ok (.iload_n 1, 1) := by decide +kernel
theorem dX11_compute_85 : decode cX11_compute 85 = .ok (.iload_n 2, 1) := by decide +kernel
theorem dX11_compute_86 : decode cX11_compute 86 = .ok (.imul, 1) := by decide +kernel
theorem dX11_compute_87 : decode cX11_compute 87 = .ok (.ireturn, 1) := by decide +kernel
theorem dX11_compute_88 : decode cX11_compute 88 = .ok (.iload_n 2, 1) := by decide +kernel
theorem dX11_compute_89 : decode cX11_compute 89 = .ok (.ifCond .ne 7, 3) := by decide +kernel
theorem dX11_compute_92 : decode cX11_compute 92 = .ok (.iconst 0, 1) := by decide +kernel
theorem dX11_compute_93 : decode cX11_compute 93 = .ok (.goto 6, 3) := by decide +kernel
theorem dX11_compute_96 : decode cX11_compute 96 = .ok (.iload_n 1, 1) := by decide +kernel
theorem dX11_compute_97 : decode cX11_compute 97 = .ok (.iload_n 2, 1) := by decide +kernel
theorem dX11_compute_98 : decode cX11_compute 98 = .ok (.idiv, 1) := by decide +kernel
theorem dX11_compute_99 : decode cX11_compute 99 = .ok (.ireturn, 1) := by decide +kernel
theorem dX11_compute_100 : decode cX11_compute 100 = .ok (.iload_n 2, 1) := by decide +kernel
theorem dX11_compute_101 : decode cX11_compute 101 = .ok (.ifCond .ne 7, 3) := by decide +kernel
theorem dX11_compute_104 : decode cX11_compute 104 = .ok (.iconst 0, 1) := by decide +kernel
theorem dX11_compute_105 : decode cX11_compute 105 = .ok (.goto 6, 3) := by decide +kernel
theorem dX11_compute_108 : decode cX11_compute 108 = .ok (.iload_n 1, 1) := by decide +kernel
theorem dX11_compute_109 : decode cX11_compute 109 = .ok (.iload_n 2, 1) := by decide +kernel
theorem dX11_compute_110 : decode cX11_compute 110 = .ok (.irem, 1) := by decide +kernel
theorem dX11_compute_111 : decode cX11_compute 111 = .ok (.ireturn, 1) := by decide +kernel
theorem dX11_compute_112 : decode cX11_compute 112 = .ok (.iload_n 1, 1) := by decide +kernel
theorem dX11_compute_113 : decode cX11_compute 113 = .ok (.iload_n 2, 1) := by decide +kernel
theorem dX11_compute_114 : decode cX11_compute 114 = .ok (.iand, 1) := by decide +kernel
theorem dX11_compute_115 : decode cX11_compute 115 = .ok (.ireturn, 1) := by decide +kernel
theorem dX11_compute_116 : decode cX11_compute 116 = .ok (.iload_n 1, 1) := by decide +kernel
theorem dX11_compute_117 : decode cX11_compute 117 = .ok (.iload_n 2, 1) := by decide +kernel
theorem dX11_compute_118 : decode cX11_compute 118 = .ok (.ior, 1) := by decide +kernel
theorem dX11_compute_119 : decode cX11_compute 119 = .ok (.ireturn, 1) := by decide +kernel
theorem dX11_compute_120 : decode cX11_compute 120 = .ok (.iload_n 1, 1) := by decide +kernel
theorem dX11_compute_121 : decode cX11_compute 121 = .ok (.iload_n 2, 1) := by decide +kernel
theorem dX11_compute_122 : decode cX11_compute 122 = .ok (.ixor, 1) := by decide +kernel
theorem dX11_compute_123 : decode cX11_compute 123 = .ok (.ireturn, 1) := by decide +kernel
theorem dX11_compute_124 : decode cX11_compute 124 = .ok (.iload_n 1, 1) := by decide +kernel
theorem dX11_compute_125 : decode cX11_compute 125 = .ok (.iload_n 2, 1) := by decide +kernel
theorem dX11_compute_126 : decode cX11_compute 126 = .ok (.bipush 31, 2) := by decide +kernel
theorem dX11_compute_128 : decode cX11_compute 128 = .ok (.iand, 1) := by decide +kernel
theorem dX11_compute_129 : decode cX11_compute 129 = .ok (.ishl, 1) := by decide +kernel
theorem dX11_compute_130 : decode cX11_compute 130 = .ok (.ireturn, 1) := by decide +kernel
theorem dX11_compute_131 : decode cX11_compute 131 = .ok (.iload_n 1, 1) := by decide +kernel
theorem dX11_compute_132 : decode cX11_compute 132 = .ok (.iload_n 2, 1) := by decide +kernel
theorem dX11_compute_133 : decode cX11_compute 133 = .ok (.bipush 31, 2) := by decide +kernel
theorem dX11_compute_135 : decode cX11_compute 135 = .ok (.iand, 1) := by decide +kernel
theorem dX11_compute_136 : decode cX11_compute 136 = .ok (.ishr, 1) := by decide +kernel
theorem dX11_compute_137 : decode cX11_compute 137 = .ok (.ireturn, 1) := by decide +kernel
theorem dX11_compute_138 : decode cX11_compute 138 = .ok (.iload_n 1, 1) := by decide +kernel
theorem dX11_compute_139 : decode cX11_compute 139 = .ok (.iload_n 2, 1) := by decide +kernel
theorem dX11_compute_140 : decode cX11_compute 140 = .ok (.if_icmp .ge 7, 3) := by decide +kernel
theorem dX11_compute_143 : decode cX11_compute 143 = .ok (.iconst 1, 1) := by decide +kernel
theorem dX11_compute_144 : decode cX11_compute 144 = .ok (.goto 4, 3) := by decide +kernel
theorem dX11_compute_147 : decode cX11_compute 147 = .ok (.iconst 0, 1) := by decide +kernel
theorem dX11_compute_148 : decode cX11_compute 148 = .ok (.ireturn, 1) := by decide +kernel
theorem dX11_compute_149 : decode cX11_compute 149 = .ok (.iload_n 1, 1) := by decide +kernel
theorem dX11_compute_150 : decode cX11_compute 150 = .ok (.iload_n 2, 1) := by decide +kernel
theorem dX11_compute_151 : decode cX11_compute 151 = .ok (.if_icmp .gt 7, 3) := by decide +kernel
theorem dX11_compute_154 : decode cX11_compute 154 = .ok (.iconst 1, 1) := by decide +kernel
theorem dX11_compute_155 : decode cX11_compute 155 = .ok (.goto 4, 3) := by decide +kernel
theorem dX11_compute_158 : decode cX11_compute 158 = .ok (.iconst 0, 1) := by decide +kernel
theorem dX11_compute_159 : decode cX11_compute 159 = .ok (.ireturn, 1) := by decide +kernel
theorem dX11_compute_160 : decode cX11_compute 160 = .ok (.iload_n 1, 1) := by decide +kernel
theorem dX11_compute_161 : decode cX11_compute 161 = .ok (.iload_n 2, 1) := by decide +kernel
theorem dX11_compute_162 : decode cX11_compute 162 = .ok (.if_icmp .le 7, 3) := by decide +kernel
theorem dX11_compute_165 : decode cX11_compute 165 = .ok (.iconst 1, 1) := by decide +kernel
theorem dX11_compute_166 : decode cX11_compute 166 = .ok (.goto 4, 3) := by decide +kernel
theorem dX11_compute_169 : decode cX11_compute 169 = .ok (.iconst 0, 1) := by decide +kernel
theorem dX11_compute_170 : decode cX11_compute 170 = .ok (.ireturn, 1) := by decide +kernel
theorem dX11_compute_171 : decode cX11_compute 171 = .ok (.iload_n 1, 1) := by decide +kernel
theorem dX11_compute_172 : decode cX11_compute 172 = .ok (.iload_n 2, 1) := by decide +kernel
theorem dX11_compute_173 : decode cX11_compute 173 = .ok (.if_icmp .lt 7, 3) := by decide +kernel
theorem dX11_compute_176 : decode cX11_compute 176 = .ok (.iconst 1, 1) := by decide +kernel
theorem dX11_compute_177 : decode cX11_compute 177 = .ok (.goto 4, 3) := by decide +kernel
theorem dX11_compute_180 : decode cX11_compute 180 = .ok (.iconst 0, 1) := by decide +kernel
theorem dX11_compute_181 : decode cX11_compute 181 = .ok (.ireturn, 1) := by decide +kernel
theorem dX11_compute_182 : decode cX11_compute 182 = .ok (.iload_n 1, 1) := by decide +kernel
theorem dX11_compute_183 : decode cX11_compute 183 = .ok (.iload_n 2, 1) := by decide +kernel
theorem dX11_compute_184 : decode cX11_compute 184 = .ok (.if_icmp .ne 7, 3) := by decide +kernel
theorem dX11_compute_187 : decode cX11_compute 187 = .ok (.iconst 1, 1) := by decide +kernel
theorem dX11_compute_188 : decode cX11_compute 188 = .ok (.goto 4, 3) := by decide +kernel
theorem dX11_compute_191 : decode cX11_compute 191 = .ok (.iconst 0, 1) := by decide +kernel
theorem dX11_compute_192 : decode cX11_compute 192 = .ok (.ireturn, 1) := by decide +kernel
theorem dX11_compute_193 : decode cX11_compute 193 = .ok (.iload_n 1, 1) := by decide +kernel
theorem dX11_compute_194 : decode cX11_compute 194 = .ok (.iload_n 2, 1) := by decide +kernel
theorem dX11_compute_195 : decode cX11_compute 195 = .ok (.if_icmp .eq 7, 3) := by decide +kernel
theorem dX11_compute_198 : decode cX11_compute 198 = .ok (.iconst 1, 1) := by decide +kernel
theorem dX11_compute_199 : decode cX11_compute 199 = .ok (.goto 4, 3) := by decide +kernel
theorem dX11_compute_202 : decode cX11_compute 202 = .ok (.iconst 0, 1) := by decide +kernel
theorem dX11_compute_203 : decode cX11_compute 203 = .ok (.ireturn, 1) := by decide +kernel
theorem dX11_isFailing_0 : decode cX11_isFailing 0 = .ok (.iload_n 0, 1) := by decide +kernel
theorem dX11_isFailing_1 : decode cX11_isFailing 1 = .ok (.iconst 4, 1) := by decide +kernel
theorem dX11_isFailing_2 : decode cX11_isFailing 2 = .ok (.if_icmp .eq 8, 3) := by decide +kernel
theorem dX11_isFailing_5 : decode cX11_isFailing 5 = .ok (.iload_n 0, 1) := by decide +kernel
theorem dX11_isFailing_6 : decode cX11_isFailing 6 = .ok (.iconst 5, 1) := by decide +kernel
theorem dX11_isFailing_7 : decode cX11_isFailing 7 = .ok (.if_icmp .ne 11, 3) := by decide +kernel
theorem dX11_isFailing_10 : decode cX11_isFailing 10 = .ok (.iload_n 1, 1) := by decide +kernel
theorem dX11_isFailing_11 : decode cX11_isFailing 11 = .ok (.ifCond .ne 7, 3) := by decide +kernel
theorem dX11_isFailing_14 : decode cX11_isFailing 14 = .ok (.iconst 1, 1) := by decide +kernel
theorem dX11_isFailing_15 : decode cX11_isFailing 15 = .ok (.goto 4, 3) := by decide +kernel
theorem dX11_isFailing_18 : decode cX11_isFailing 18 = .ok (.iconst 0, 1) := by decide +kernel
theorem dX11_isFailing_19 : decode cX11_isFailing 19 = .ok (.ireturn, 1) := by decide +kernel
theorem dX5_foldBlock_0 : decode cX5_foldBlock 0 = .ok (.iconst 0, 1) := by decide +kernel
theorem dX5_foldBlock_1 : decode cX5_foldBlock 1 = .ok (.istore_n 3, 1) := by decide +kernel
theorem dX5_foldBlock_2 : decode cX5_foldBlock 2 = .ok (.aload_n 1, 1) := by decide +kernel
theorem dX5_foldBlock_3 : decode cX5_foldBlock 3 = .ok (.iload_n 2, 1) := by decide +kernel
theorem dX5_foldBlock_4 : decode cX5_foldBlock 4 = .ok (.invokevirtual 167, 3) := by decide +kernel
theorem dX5_foldBlock_7 : decode cX5_foldBlock 7 = .ok (.istore 5, 2) := by decide +kernel
theorem dX5_foldBlock_9 : decode cX5_foldBlock 9 = .ok (.aload_n 1, 1) := by decide +kernel
theorem dX5_foldBlock_10 : decode cX5_foldBlock 10 = .ok (.iload_n 2, 1) := by decide +kernel
theorem dX5_foldBlock_11 : decode cX5_foldBlock 11 = .ok (.invokevirtual 170, 3) := by decide +kernel
theorem dX5_foldBlock_14 : decode cX5_foldBlock 14 = .ok (.istore 6, 2) := by decide +kernel
theorem dX5_foldBlock_16 : decode cX5_foldBlock 16 = .ok (.iload 6, 2) := by decide +kernel
theorem dX5_foldBlock_18 : decode cX5_foldBlock 18 = .ok (.ifCond .lt 69, 3) := by decide +kernel
theorem dX5_foldBlock_21 : decode cX5_foldBlock 21 = .ok (.aload_n 1, 1) := by decide +kernel
theorem dX5_foldBlock_22 : decode cX5_foldBlock 22 = .ok (.getfield 61, 3) := by decide +kernel
theorem dX5_foldBlock_25 : decode cX5_foldBlock 25 = .ok (.iload 6, 2) := by decide +kernel
theorem dX5_foldBlock_27 : decode cX5_foldBlock 27 = .ok (.iaload, 1) := by decide +kernel
theorem dX5_foldBlock_28 : decode cX5_foldBlock 28 = .ok (.istore 4, 2) := by decide +kernel
theorem dX5_foldBlock_30 : decode cX5_foldBlock 30 = .ok (.aload_n 1, 1) := by decide +kernel
theorem dX5_foldBlock_31 : decode cX5_foldBlock 31 = .ok (.getfield 58, 3) := by decide +kernel
theorem dX5_foldBlock_34 : decode cX5_foldBlock 34 = .ok (.iload 6, 2) := by decide +kernel
theorem dX5_foldBlock_36 : decode cX5_foldBlock 36 = .ok (.iaload, 1) := by decide +kernel
theorem dX5_foldBlock_37 : decode cX5_foldBlock 37 = .ok (.istore 7, 2) := by decide +kernel
theorem dX5_foldBlock_39 : decode cX5_foldBlock 39 = .ok (.aload_n 0, 1) := by decide +kernel
theorem dX5_foldBlock_40 : decode cX5_foldBlock 40 = .ok (.getfield 18, 3) := by decide +kernel
theorem dX5_foldBlock_43 : decode cX5_foldBlock 43 = .ok (.iload 7, 2) := by decide +kernel
theorem dX5_foldBlock_45 : decode cX5_foldBlock 45 = .ok (.iaload, 1) := by decide +kernel
theorem dX5_foldBlock_46 : decode cX5_foldBlock 46 = .ok (.iconst 1, 1) := by decide +kernel
theorem dX5_foldBlock_47 : decode cX5_foldBlock 47 = .ok (.if_icmp .ne 26, 3) := by decide +kernel
theorem dX5_foldBlock_50 : decode cX5_foldBlock 50 = .ok (.aload_n 1, 1) := by decide +kernel
theorem dX5_foldBlock_51 : decode cX5_foldBlock 51 = .ok (.iload_n 2, 1) := by decide +kernel
theorem dX5_foldBlock_52 : decode cX5_foldBlock 52 = .ok (.iconst 0, 1) := by decide +kernel
theorem dX5_foldBlock_53 : decode cX5_foldBlock 53 = .ok (.iload 7, 2) := by decide +kernel
theorem dX5_foldBlock_55 : decode cX5_foldBlock 55 = .ok (.aload_n 0, 1) := by decide +kernel
theorem dX5_foldBlock_56 : decode cX5_foldBlock 56 = .ok (.getfield 21, 3) := by decide +kernel
theorem dX5_foldBlock_59 : decode cX5_foldBlock 59 = .ok (.iload 7, 2) := by decide +kernel
theorem dX5_foldBlock_61 : decode cX5_foldBlock 61 = .ok (.iaload, 1) := by decide +kernel
theorem dX5_foldBlock_62 : decode cX5_foldBlock 62 = .ok (.iconst (-1), 1) := by decide +kernel
theorem dX5_foldBlock_63 : decode cX5_foldBlock 63 = .ok (.invokevirtual 173, 3) := by decide +kernel
theorem dX5_foldBlock_66 : decode cX5_foldBlock 66 = .ok (.pop, 1) := by decide +kernel
theorem dX5_foldBlock_67 : decode cX5_foldBlock 67 = .ok (.iinc 3 1, 3) := by decide +kernel
theorem dX5_foldBlock_70 : decode cX5_foldBlock 70 = .ok (.goto 10, 3) := by decide +kernel
theorem dX5_foldBlock_73 : decode cX5_foldBlock 73 = .ok (.aload_n 1, 1) := by decide +kernel
theorem dX5_foldBlock_74 : decode cX5_foldBlock 74 = .ok (.iload_n 2, 1) := by decide +kernel
theorem dX5_foldBlock_75 : decode cX5_foldBlock 75 = .ok (.iload 6, 2) := by decide +kernel
theorem dX5_foldBlock_77 : decode cX5_foldBlock 77 = .ok (.invokevirtual 177, 3) := by decide +kernel
theorem dX5_foldBlock_80 : decode cX5_foldBlock 80 = .ok (.iload 4, 2) := by decide +kernel
theorem dX5_foldBlock_82 : decode cX5_foldBlock 82 = .ok (.istore 6, 2) := by decide +kernel
theorem dX5_foldBlock_84 : decode cX5_foldBlock 84 = .ok (.goto (-68), 3) := by decide +kernel
theorem dX5_foldBlock_87 : decode cX5_foldBlock 87 = .ok (.iload 5, 2) := by decide +kernel
theorem dX5_foldBlock_89 : decode cX5_foldBlock 89 = .ok (.istore 6, 2) := by decide +kernel
theorem dX5_foldBlock_91 : decode cX5_foldBlock 91 = .ok (.iload 6, 2) := by decide +kernel
theorem dX5_foldBlock_93 : decode cX5_foldBlock 93 = .ok (.ifCond .lt 91, 3) := by decide +kernel
theorem dX5_foldBlock_96 : decode cX5_foldBlock 96 = .ok (.aload_n 1, 1) := by decide +kernel
theorem dX5_foldBlock_97 : decode cX5_foldBlock 97 = .ok (.getfield 67, 3) := by decide +kernel
theorem dX5_foldBlock_100 : decode cX5_foldBlock 100 = .ok (.getfield 76, 3) := by decide +kernel
theorem dX5_foldBlock_103 : decode cX5_foldBlock 103 = .ok (.iload 6, 2) := by decide +kernel
theorem dX5_foldBlock_105 : decode cX5_foldBlock 105 = .ok (.iaload, 1) := by decide +kernel
theorem dX5_foldBlock_106 : decode cX5_foldBlock 106 = .ok (.istore 4, 2) := by decide +kernel
theorem dX5_foldBlock_108 : decode cX5_foldBlock 108 = .ok (.aload_n 1, 1) := by decide +kernel
theorem dX5_foldBlock_109 : decode cX5_foldBlock 109 = .ok (.getfield 67, 3) := by decide +kernel
theorem dX5_foldBlock_112 : decode cX5_foldBlock 112 = .ok (.getfield 79, 3) := by decide +kernel
theorem dX5_foldBlock_115 : decode cX5_foldBlock 115 = .ok (.iload 6, 2) := by decide +kernel
theorem dX5_foldBlock_117 : decode cX5_foldBlock 117 = .ok (.iaload, 1) := by decide +kernel
theorem dX5_foldBlock_118 : decode cX5_foldBlock 118 = .ok (.invokestatic 149, 3) := by decide +kernel
theorem dX5_foldBlock_121 : decode cX5_foldBlock 121 = .ok (.ifCond .eq 49, 3) := by decide +kernel
theorem dX5_foldBlock_124 : decode cX5_foldBlock 124 = .ok (.aload_n 0, 1) := by decide +kernel
theorem dX5_foldBlock_125 : decode cX5_foldBlock 125 = .ok (.getfield 18, 3) := by decide +kernel
theorem dX5_foldBlock_128 : decode cX5_foldBlock 128 = .ok (.aload_n 1, 1) := by decide +kernel
theorem dX5_foldBlock_129 : decode cX5_foldBlock 129 = .ok (.getfield 67, 3) := by decide +kernel
theorem dX5_foldBlock_132 : decode cX5_foldBlock 132 = .ok (.getfield 71, 3) := by decide +kernel
theorem dX5_foldBlock_135 : decode cX5_foldBlock 135 = .ok (.iload 6, 2) := by decide +kernel
theorem dX5_foldBlock_137 : decode cX5_foldBlock 137 = .ok (.iaload, 1) := by decide +kernel
theorem dX5_foldBlock_138 : decode cX5_foldBlock 138 = .ok (.iaload, 1) := by decide +kernel
theorem dX5_foldBlock_139 : decode cX5_foldBlock 139 = .ok (.iconst 1, 1) := by decide +kernel
theorem dX5_foldBlock_140 : decode cX5_foldBlock 140 = .ok (.if_icmp .ne 30, 3) := by decide +kernel
theorem dX5_foldBlock_143 : decode cX5_foldBlock 143 = .ok (.aload_n 1, 1) := by decide +kernel
theorem dX5_foldBlock_144 : decode cX5_foldBlock 144 = .ok (.getfield 67, 3) := by decide +kernel
theorem dX5_foldBlock_147 : decode cX5_foldBlock 147 = .ok (.iload 6, 2) := by decide +kernel
theorem dX5_foldBlock_149 : decode cX5_foldBlock 149 = .ok (.aload_n 0, 1) := by decide +kernel
theorem dX5_foldBlock_150 : decode cX5_foldBlock 150 = .ok (.getfield 21, 3) := by decide +kernel
theorem dX5_foldBlock_153 : decode cX5_foldBlock 153 = .ok (.aload_n 1, 1) := by decide +kernel
theorem dX5_foldBlock_154 : decode cX5_foldBlock 154 = .ok (.getfield 67, 3) := by decide +kernel
theorem dX5_foldBlock_157 : decode cX5_foldBlock 157 = .ok (.getfield 71, 3) := by decide +kernel
theorem dX5_foldBlock_160 : decode cX5_foldBlock 160 = .ok (.iload 6, 2) := by decide +kernel
theorem dX5_foldBlock_162 : decode cX5_foldBlock 162 = .ok (.iaload, 1) := by decide +kernel
theorem dX5_foldBlock_163 : decode cX5_foldBlock 163 = .ok (.iaload, 1) := by decide +kernel
theorem dX5_foldBlock_164 : decode cX5_foldBlock 164 = .ok (.invokestatic 181, 3) := by decide +kernel
theorem dX5_foldBlock_167 : decode cX5_foldBlock 167 = .ok (.iinc 3 1, 3) := by decide +kernel
theorem dX5_foldBlock_170 : decode cX5_foldBlock 170 = .ok (.aload_n 1, 1) := by decide +kernel
theorem dX5_foldBlock_171 : decode cX5_foldBlock 171 = .ok (.iload_n 2, 1) := by decide +kernel
theorem dX5_foldBlock_172 : decode cX5_foldBlock 172 = .ok (.iload 6, 2) := by decide +kernel
theorem dX5_foldBlock_174 : decode cX5_foldBlock 174 = .ok (.invokevirtual 185, 3) := by decide +kernel
theorem dX5_foldBlock_177 : decode cX5_foldBlock 177 = .ok (.iload 4, 2) := by decide +kernel
theorem dX5_foldBlock_179 : decode cX5_foldBlock 179 = .ok (.istore 6, 2) := by decide +kernel
theorem dX5_foldBlock_181 : decode cX5_foldBlock 181 = .ok (.goto (-90), 3) := by decide +kernel
theorem dX5_foldBlock_184 : decode cX5_foldBlock 184 = .ok (.iload_n 3, 1) := by decide +kernel
theorem dX5_foldBlock_185 : decode cX5_foldBlock 185 = .ok (.aload_n 0, 1) := by decide +kernel
theorem dX5_foldBlock_186 : decode cX5_foldBlock 186 = .ok (.aload_n 1, 1) := by decide +kernel
theorem dX5_foldBlock_187 : decode cX5_foldBlock 187 = .ok (.iload_n 2, 1) := by decide +kernel
theorem dX5_foldBlock_188 : decode cX5_foldBlock 188 = .ok (.invokevirtual 188, 3) := by decide +kernel
theorem dX5_foldBlock_191 : decode cX5_foldBlock 191 = .ok (.iadd, 1) := by decide +kernel
theorem dX5_foldBlock_192 : decode cX5_foldBlock 192 = .ok (.ireturn, 1) := by decide +kernel
theorem dX5_foldEnd_0 : decode cX5_foldEnd 0 = .ok (.aload_n 1, 1) := by decide +kernel
theorem dX5_foldEnd_1 : decode cX5_foldEnd 1 = .ok (.getfield 161, 3) := by decide +kernel
theorem dX5_foldEnd_4 : decode cX5_foldEnd 4 = .ok (.iload_n 2, 1) := by decide +kernel
theorem dX5_foldEnd_5 : decode cX5_foldEnd 5 = .ok (.iaload, 1) := by decide +kernel
theorem dX5_foldEnd_6 : decode cX5_foldEnd 6 = .ok (.bipush 23, 2) := by decide +kernel
theorem dX5_foldEnd_8 : decode cX5_foldEnd 8 = .ok (.if_icmp .ne 18, 3) := by decide +kernel
theorem dX5_foldEnd_11 : decode cX5_foldEnd 11 = .ok (.aload_n 0, 1) := by decide +kernel
theorem dX5_foldEnd_12 : decode cX5_foldEnd 12 = .ok (.getfield 18, 3) := by decide +kernel
theorem dX5_foldEnd_15 : decode cX5_foldEnd 15 = .ok (.aload_n 1, 1) := by decide +kernel
theorem dX5_foldEnd_16 : decode cX5_foldEnd 16 = .ok (.getfield 164, 3) := by decide +kernel
theorem dX5_foldEnd_19 : decode cX5_foldEnd 19 = .ok (.iload_n 2, 1) := by decide +kernel
theorem dX5_foldEnd_20 : decode cX5_foldEnd 20 = .ok (.iaload, 1) := by decide +kernel
theorem dX5_foldEnd_21 : decode cX5_foldEnd 21 = .ok (.iaload, 1) := by decide +kernel
theorem dX5_foldEnd_22 : decode cX5_foldEnd 22 = .ok (.iconst 1, 1) := by decide +kernel
theorem dX5_foldEnd_23 : decode cX5_foldEnd 23 = .ok (.if_icmp .eq 5, 3) := by decide +kernel
theorem dX5_foldEnd_26 : decode cX5_foldEnd 26 = .ok (.iconst 0, 1) := by decide +kernel
theorem dX5_foldEnd_27 : decode cX5_foldEnd 27 = .ok (.ireturn, 1) := by decide +kernel
theorem dX5_foldEnd_28 : decode cX5_foldEnd 28 = .ok (.aload_n 1, 1) := by decide +kernel
theorem dX5_foldEnd_29 : decode cX5_foldEnd 29 = .ok (.getfield 161, 3) := by decide +kernel
theorem dX5_foldEnd_32 : decode cX5_foldEnd 32 = .ok (.iload_n 2, 1) := by decide +kernel
theorem dX5_foldEnd_33 : decode cX5_foldEnd 33 = .ok (.bipush 22, 2) := by decide +kernel
theorem dX5_foldEnd_35 : decode cX5_foldEnd 35 = .ok (.iastore, 1) := by decide +kernel
theorem dX5_foldEnd_36 : decode cX5_foldEnd 36 = .ok (.aload_n 1, 1) := by decide +kernel
theorem dX5_foldEnd_37 : decode cX5_foldEnd 37 = .ok (.getfield 125, 3) := by decide +kernel
theorem dX5_foldEnd_40 : decode cX5_foldEnd 40 = .ok (.iload_n 2, 1) := by decide +kernel
theorem dX5_foldEnd_41 : decode cX5_foldEnd 41 = .ok (.aload_n 0, 1) := by decide +kernel
theorem dX5_foldEnd_42 : decode cX5_foldEnd 42 = .ok (.getfield 21, 3) := by decide +kernel
theorem dX5_foldEnd_45 : decode cX5_foldEnd 45 = .ok (.aload_n 1, 1) := by decide +kernel
theorem dX5_foldEnd_46 : decode cX5_foldEnd 46 = .ok (.getfield 164, 3) := by decide +kernel
theorem dX5_foldEnd_49 : decode cX5_foldEnd 49 = .ok (.iload_n 2, 1) := by decide +kernel
theorem dX5_foldEnd_50 : decode cX5_foldEnd 50 = .ok (.iaload, 1) := by decide +kernel
theorem dX5_foldEnd_51 : decode cX5_foldEnd 51 = .ok (.iaload, 1) := by decide +kernel
theorem dX5_foldEnd_52 : decode cX5_foldEnd 52 = .ok (.ifCond .eq 12, 3) := by decide +kernel
theorem dX5_foldEnd_55 : decode cX5_foldEnd 55 = .ok (.aload_n 1, 1) := by decide +kernel
theorem dX5_foldEnd_56 : decode cX5_foldEnd 56 = .ok (.getfield 125, 3) := by decide +kernel
theorem dX5_foldEnd_59 : decode cX5_foldEnd 59 = .ok (.iload_n 2, 1) := by decide +kernel
theorem dX5_foldEnd_60 : decode cX5_foldEnd 60 = .ok (.iaload, 1) := by decide +kernel
theorem dX5_foldEnd_61 : decode cX5_foldEnd 61 = .ok (.goto 9, 3) := by decide +kernel
theorem dX5_foldEnd_64 : decode cX5_foldEnd 64 = .ok (.aload_n 1, 1) := by decide +kernel
theorem dX5_foldEnd_65 : decode cX5_foldEnd 65 = .ok (.getfield 131, 3) := by decide +kernel
theorem dX5_foldEnd_68 : decode cX5_foldEnd 68 = .ok (.iload_n 2, 1) := by decide +kernel
theorem dX5_foldEnd_69 : decode cX5_foldEnd 69 = .ok (.iaload, 1) := by decide +kernel
theorem dX5_foldEnd_70 : decode cX5_foldEnd 70 = .ok (.iastore, 1) := by decide +kernel
theorem dX5_foldEnd_71 : decode cX5_foldEnd 71 = .ok (.aload_n 1, 1) := by decide +kernel
theorem dX5_foldEnd_72 : decode cX5_foldEnd 72 = .ok (.getfield 131, 3) := by decide +kernel
theorem dX5_foldEnd_75 : decode cX5_foldEnd 75 = .ok (.iload_n 2, 1) := by decide +kernel
theorem dX5_foldEnd_76 : decode cX5_foldEnd 76 = .ok (.iconst (-1), 1) := by decide +kernel
theorem dX5_foldEnd_77 : decode cX5_foldEnd 77 = .ok (.iastore, 1) := by decide +kernel
theorem dX5_foldEnd_78 : decode cX5_foldEnd 78 = .ok (.aload_n 1, 1) := by decide +kernel
theorem dX5_foldEnd_79 : decode cX5_foldEnd 79 = .ok (.getfield 164, 3) := by decide +kernel
theorem dX5_foldEnd_82 : decode cX5_foldEnd 82 = .ok (.iload_n 2, 1) := by decide +kernel
theorem dX5_foldEnd_83 : decode cX5_foldEnd 83 = .ok (.iconst (-1), 1) := by decide +kernel
theorem dX5_foldEnd_84 : decode cX5_foldEnd 84 = .ok (.iastore, 1) := by decide +kernel
theorem dX5_foldEnd_85 : decode cX5_foldEnd 85 = .ok (.iconst 1, 1) := by decide +kernel
theorem dX5_foldEnd_86 : decode cX5_foldEnd 86 = .ok (.ireturn, 1) := by decide +kernel
theorem dX5_isWay_0 : decode cX5_isWay 0 = .ok (.aload_n 0, 1) := by decide +kernel
theorem dX5_isWay_1 : decode cX5_isWay 1 = .ok (.getfield 96, 3) := by decide +kernel
theorem dX5_isWay_4 : decode cX5_isWay 4 = .ok (.iload_n 2, 1) := by decide +kernel
theorem dX5_isWay_5 : decode cX5_isWay 5 = .ok (.invokestatic 101, 3) := by decide +kernel
theorem dX5_isWay_8 : decode cX5_isWay 8 = .ok (.ifCond .ne 5, 3) := by decide +kernel
theorem dX5_isWay_11 : decode cX5_isWay 11 = .ok (.iconst 0, 1) := by decide +kernel
theorem dX5_isWay_12 : decode cX5_isWay 12 = .ok (.ireturn, 1) := by decide +kernel
theorem dX5_isWay_13 : decode cX5_isWay 13 = .ok (.aload_n 1, 1) := by decide +kernel
theorem dX5_isWay_14 : decode cX5_isWay 14 = .ok (.getfield 161, 3) := by decide +kernel
theorem dX5_isWay_17 : decode cX5_isWay 17 = .ok (.iload_n 2, 1) := by decide +kernel
theorem dX5_isWay_18 : decode cX5_isWay 18 = .ok (.iaload, 1) := by decide +kernel
theorem dX5_isWay_19 : decode cX5_isWay 19 = .ok (.bipush 23, 2) := by decide +kernel
theorem dX5_isWay_21 : decode cX5_isWay 21 = .ok (.if_icmp .eq 5, 3) := by decide +kernel
theorem dX5_isWay_24 : decode cX5_isWay 24 = .ok (.iconst 1, 1) := by decide +kernel
theorem dX5_isWay_25 : decode cX5_isWay 25 = .ok (.ireturn, 1) := by decide +kernel
theorem dX5_isWay_26 : decode cX5_isWay 26 = .ok (.aload_n 1, 1) := by decide +kernel
theorem dX5_isWay_27 : decode cX5_isWay 27 = .ok (.getfield 164, 3) := by decide +kernel
theorem dX5_isWay_30 : decode cX5_isWay 30 = .ok (.iload_n 2, 1) := by decide +kernel
theorem dX5_isWay_31 : decode cX5_isWay 31 = .ok (.iaload, 1) := by decide +kernel
theorem dX5_isWay_32 : decode cX5_isWay 32 = .ok (.istore 4, 2) := by decide +kernel
theorem dX5_isWay_34 : decode cX5_isWay 34 = .ok (.aload_n 0, 1) := by decide +kernel
theorem dX5_isWay_35 : decode cX5_isWay 35 = .ok (.getfield 18, 3) := by decide +kernel
theorem dX5_isWay_38 : decode cX5_isWay 38 = .ok (.iload 4, 2) := by decide +kernel
theorem dX5_isWay_40 : decode cX5_isWay 40 = .ok (.iaload, 1) := by decide +kernel
theorem dX5_isWay_41 : decode cX5_isWay 41 = .ok (.iconst 1, 1) := by decide +kernel
theorem dX5_isWay_42 : decode cX5_isWay 42 = .ok (.if_icmp .eq 20, 3) := by decide +kernel
theorem dX5_isWay_45 : decode cX5_isWay 45 = .ok (.aload_n 0, 1) := by decide +kernel
theorem dX5_isWay_46 : decode cX5_isWay 46 = .ok (.getfield 18, 3) := by decide +kernel
theorem dX5_isWay_49 : decode cX5_isWay 49 = .ok (.iload 4, 2) := by decide +kernel
theorem dX5_isWay_51 : decode cX5_isWay 51 = .ok (.iaload, 1) := by decide +kernel
theorem dX5_isWay_52 : decode cX5_isWay 52 = .ok (.iconst 2, 1) := by decide +kernel
theorem dX5_isWay_53 : decode cX5_isWay 53 = .ok (.if_icmp .ne 7, 3) := by decide +kernel
theorem dX5_isWay_56 : decode cX5_isWay 56 = .ok (.iconst 1, 1) := by decide +kernel
theorem dX5_isWay_57 : decode cX5_isWay 57 = .ok (.goto 4, 3) := by decide +kernel
theorem dX5_isWay_60 : decode cX5_isWay 60 = .ok (.iconst 0, 1) := by decide +kernel
theorem dX5_isWay_61 : decode cX5_isWay 61 = .ok (.ireturn, 1) := by decide +kernel
theorem dX5_isWay_62 : decode cX5_isWay 62 = .ok (.aload_n 0, 1) := by decide +kernel
theorem dX5_isWay_63 : decode cX5_isWay 63 = .ok (.getfield 21, 3) := by decide +kernel
theorem dX5_isWay_66 : decode cX5_isWay 66 = .ok (.iload 4, 2) := by decide +kernel
theorem dX5_isWay_68 : decode cX5_isWay 68 = .ok (.iaload, 1) := by decide +kernel
theorem dX5_isWay_69 : decode cX5_isWay 69 = .ok (.ifCond .eq 12, 3) := by decide +kernel
theorem dX5_isWay_72 : decode cX5_isWay 72 = .ok (.aload_n 1, 1) := by decide +kernel
theorem dX5_isWay_73 : decode cX5_isWay 73 = .ok (.getfield 125, 3) := by decide +kernel
theorem dX5_isWay_76 : decode cX5_isWay 76 = .ok (.iload_n 2, 1) := by decide +kernel
theorem dX5_isWay_77 : decode cX5_isWay 77 = .ok (.iaload, 1) := by decide +kernel
theorem dX5_isWay_78 : decode cX5_isWay 78 = .ok (.goto 9, 3) := by decide +kernel
theorem dX5_isWay_81 : decode cX5_isWay 81 = .ok (.aload_n 1, 1) := by decide +kernel
theorem dX5_isWay_82 : decode cX5_isWay 82 = .ok (.getfield 131, 3) := by decide +kernel
theorem dX5_isWay_85 : decode cX5_isWay 85 = .ok (.iload_n 2, 1) := by decide +kernel
theorem dX5_isWay_86 : decode cX5_isWay 86 = .ok (.iaload, 1) := by decide +kernel
theorem dX5_isWay_87 : decode cX5_isWay 87 = .ok (.iload_n 3, 1) := by decide +kernel
theorem dX5_isWay_88 : decode cX5_isWay 88 = .ok (.if_icmp .ne 7, 3) := by decide +kernel
theorem dX5_isWay_91 : decode cX5_isWay 91 = .ok (.iconst 1, 1) := by decide +kernel
theorem dX5_isWay_92 : decode cX5_isWay 92 = .ok (.goto 4, 3) := by decide +kernel
theorem dX5_isWay_95 : decode cX5_isWay 95 = .ok (.iconst 0, 1) := by decide +kernel
theorem dX5_isWay_96 : decode cX5_isWay 96 = .ok (.ireturn, 1) := by decide +kernel
theorem dX5_learn_0 : decode cX5_learn 0 = .ok (.aload_n 0, 1) := by decide +kernel
theorem dX5_learn_1 : decode cX5_learn 1 = .ok (.getfield 18, 3) := by decide +kernel
theorem dX5_learn_4 : decode cX5_learn 4 = .ok (.iload_n 1, 1) := by decide +kernel
theorem dX5_learn_5 : decode cX5_learn 5 = .ok (.iaload, 1) := by decide +kernel
theorem dX5_learn_6 : decode cX5_learn 6 = .ok (.iconst 2, 1) := by decide +kernel
theorem dX5_learn_7 : decode cX5_learn 7 = .ok (.if_icmp .ne 5, 3) := by decide +kernel
theorem dX5_learn_10 : decode cX5_learn 10 = .ok (.iconst 0, 1) := by decide +kernel
theorem dX5_learn_11 : decode cX5_learn 11 = .ok (.ireturn, 1) := by decide +kernel
theorem dX5_learn_12 : decode cX5_learn 12 = .ok (.aload_n 0, 1) := by decide +kernel
theorem dX5_learn_13 : decode cX5_learn 13 = .ok (.getfield 18, 3) := by decide +kernel
theorem dX5_learn_16 : decode cX5_learn 16 = .ok (.iload_n 1, 1) := by decide +kernel
theorem dX5_learn_17 : decode cX5_learn 17 = .ok (.iaload, 1) := by decide +kernel
theorem dX5_learn_18 : decode cX5_learn 18 = .ok (.ifCond .ne 19, 3) := by decide +kernel
theorem dX5_learn_21 : decode cX5_learn 21 = .ok (.aload_n 0, 1) := by decide +kernel
theorem dX5_learn_22 : decode cX5_learn 22 = .ok (.getfield 18, 3) := by decide +kernel
theorem dX5_learn_25 : decode cX5_learn 25 = .ok (.iload_n 1, 1) := by decide +kernel
theorem dX5_learn_26 : decode cX5_learn 26 = .ok (.iload_n 2, 1) := by decide +kernel
theorem dX5_learn_27 : decode cX5_learn 27 = .ok (.iastore, 1) := by decide +kernel
theorem dX5_learn_28 : decode cX5_learn 28 = .ok (.aload_n 0, 1) := by decide +kernel
theorem dX5_learn_29 : decode cX5_learn 29 = .ok (.getfield 21, 3) := by decide +kernel
theorem dX5_learn_32 : decode cX5_learn 32 = .ok (.iload_n 1, 1) := by decide +kernel
theorem dX5_learn_33 : decode cX5_learn 33 = .ok (.iload_n 3, 1) := by decide +kernel
theorem dX5_learn_34 : decode cX5_learn 34 = .ok (.iastore, 1) := by decide +kernel
theorem dX5_learn_35 : decode cX5_learn 35 = .ok (.iconst 1, 1) := by decide +kernel
theorem dX5_learn_36 : decode cX5_learn 36 = .ok (.ireturn, 1) := by decide +kernel
theorem dX5_learn_37 : decode cX5_learn 37 = .ok (.iload_n 2, 1) := by decide +kernel
theorem dX5_learn_38 : decode cX5_learn 38 = .ok (.iconst 1, 1) := by decide +kernel
theorem dX5_learn_39 : decode cX5_learn 39 = .ok (.if_icmp .ne 15, 3) := by decide +kernel
theorem dX5_learn_42 : decode cX5_learn 42 = .ok (.aload_n 0, 1) := by decide +kernel
theorem dX5_learn_43 : decode cX5_learn 43 = .ok (.getfield 21, 3) := by decide +kernel
theorem dX5_learn_46 : decode cX5_learn 46 = .ok (.iload_n 1, 1) := by decide +kernel
theorem dX5_learn_47 : decode cX5_learn 47 = .ok (.iaload, 1) := by decide +kernel
theorem dX5_learn_48 : decode cX5_learn 48 = .ok (.iload_n 3, 1) := by decide +kernel
theorem dX5_learn_49 : decode cX5_learn 49 = .ok (.if_icmp .ne 5, 3) := by decide +kernel
theorem dX5_learn_52 : decode cX5_learn 52 = .ok (.iconst 0, 1) := by decide +kernel
theorem dX5_learn_53 : decode cX5_learn 53 = .ok (.ireturn, 1) := by decide +kernel
theorem dX5_learn_54 : decode cX5_learn 54 = .ok (.aload_n 0, 1) := by decide +kernel
theorem dX5_learn_55 : decode cX5_learn 55 = .ok (.getfield 18, 3) := by decide +kernel
theorem dX5_learn_58 : decode cX5_learn 58 = .ok (.iload_n 1, 1) := by decide +kernel
theorem dX5_learn_59 : decode cX5_learn 59 = .ok (.iconst 2, 1) := by decide +kernel
theorem dX5_learn_60 : decode cX5_learn 60 = .ok (.iastore, 1) := by decide +kernel
theorem dX5_learn_61 : decode cX5_learn 61 = .ok (.iconst 1, 1) := by decide +kernel
theorem dX5_learn_62 : decode cX5_learn 62 = .ok (.ireturn, 1) := by decide +kernel
theorem dX5_learnBlock_0 : decode cX5_learnBlock 0 = .ok (.iconst 0, 1) := by decide +kernel
theorem dX5_learnBlock_1 : decode cX5_learnBlock 1 = .ok (.istore_n 3, 1) := by decide +kernel
theorem dX5_learnBlock_2 : decode cX5_learnBlock 2 = .ok (.aload_n 1, 1) := by decide +kernel
theorem dX5_learnBlock_3 : decode cX5_learnBlock 3 = .ok (.getfield 55, 3) := by decide +kernel
theorem dX5_learnBlock_6 : decode cX5_learnBlock 6 = .ok (.iload_n 2, 1) := by decide +kernel
theorem dX5_learnBlock_7 : decode cX5_learnBlock 7 = .ok (.iaload, 1) := by decide +kernel
theorem dX5_learnBlock_8 : decode cX5_learnBlock 8 = .ok (.istore 4, 2) := by decide +kernel
theorem dX5_learnBlock_10 : decode cX5_learnBlock 10 = .ok (.iload 4, 2) := by decide +kernel
theorem dX5_learnBlock_12 : decode cX5_learnBlock 12 = .ok (.ifCond .lt 36, 3) := by decide +kernel
theorem dX5_learnBlock_15 : decode cX5_learnBlock 15 = .ok (.aload_n 0, 1) := by decide +kernel
theorem dX5_learnBlock_16 : decode cX5_learnBlock 16 = .ok (.aload_n 1, 1) := by decide +kernel
theorem dX5_learnBlock_17 : decode cX5_learnBlock 17 = .ok (.iload_n 2, 1) := by decide +kernel
theorem dX5_learnBlock_18 : decode cX5_learnBlock 18 = .ok (.iload 4, 2) := by decide +kernel
theorem dX5_learnBlock_20 : decode cX5_learnBlock 20 = .ok (.invokevirtual 117, 3) := by decide +kernel
theorem dX5_learnBlock_23 : decode cX5_learnBlock 23 = .ok (.ifCond .ne 7, 3) := by decide +kernel
theorem dX5_learnBlock_26 : decode cX5_learnBlock 26 = .ok (.iload_n 3, 1) := by decide +kernel
theorem dX5_learnBlock_27 : decode cX5_learnBlock 27 = .ok (.ifCond .eq 7, 3) := by decide +kernel
theorem dX5_learnBlock_30 : decode cX5_learnBlock 30 = .ok (.iconst 1, 1) := by decide +kernel
theorem dX5_learnBlock_31 : decode cX5_learnBlock 31 = .ok (.goto 4, 3) := by decide +kernel
theorem dX5_learnBlock_34 : decode cX5_learnBlock 34 = .ok (.iconst 0, 1) := by decide +kernel
theorem dX5_learnBlock_35 : decode cX5_learnBlock 35 = .ok (.istore_n 3, 1) := by decide +kernel
theorem dX5_learnBlock_36 : decode cX5_learnBlock 36 = .ok (.aload_n 1, 1) := by decide +kernel
theorem dX5_learnBlock_37 : decode cX5_learnBlock 37 = .ok (.getfield 61, 3) := by decide +kernel
theorem dX5_learnBlock_40 : decode cX5_learnBlock 40 = .ok (.iload 4, 2) := by decide +kernel
theorem dX5_learnBlock_42 : decode cX5_learnBlock 42 = .ok (.iaload, 1) := by decide +kernel
theorem dX5_learnBlock_43 : decode cX5_learnBlock 43 = .ok (.istore 4, 2) := by decide +kernel
theorem dX5_learnBlock_45 : decode cX5_learnBlock 45 = .ok (.goto (-35), 3) := by decide +kernel
theorem dX5_learnBlock_48 : decode cX5_learnBlock 48 = .ok (.aload_n 1, 1) := by decide +kernel
theorem dX5_learnBlock_49 : decode cX5_learnBlock 49 = .ok (.getfield 64, 3) := by decide +kernel
theorem dX5_learnBlock_52 : decode cX5_learnBlock 52 = .ok (.iload_n 2, 1) := by decide +kernel
theorem dX5_learnBlock_53 : decode cX5_learnBlock 53 = .ok (.iaload, 1) := by decide +kernel
theorem dX5_learnBlock_54 : decode cX5_learnBlock 54 = .ok (.istore 4, 2) := by decide +kernel
theorem dX5_learnBlock_56 : decode cX5_learnBlock 56 = .ok (.iload 4, 2) := by decide +kernel
theorem dX5_learnBlock_58 : decode cX5_learnBlock 58 = .ok (.ifCond .lt 54, 3) := by decide +kernel
theorem dX5_learnBlock_61 : decode cX5_learnBlock 61 = .ok (.aload_n 1, 1) := by decide +kernel
theorem dX5_learnBlock_62 : decode cX5_learnBlock 62 = .ok (.getfield 67, 3) := by decide +kernel
theorem dX5_learnBlock_65 : decode cX5_learnBlock 65 = .ok (.getfield 71, 3) := by decide +kernel
theorem dX5_learnBlock_68 : decode cX5_learnBlock 68 = .ok (.iload 4, 2) := by decide +kernel
theorem dX5_learnBlock_70 : decode cX5_learnBlock 70 = .ok (.iaload, 1) := by decide +kernel
theorem dX5_learnBlock_71 : decode cX5_learnBlock 71 = .ok (.ifCond .lt 26, 3) := by decide +kernel
theorem dX5_learnBlock_74 : decode cX5_learnBlock 74 = .ok (.aload_n 0, 1) := by decide +kernel
theorem dX5_learnBlock_75 : decode cX5_learnBlock 75 = .ok (.aload_n 1, 1) := by decide +kernel
theorem dX5_learnBlock_76 : decode cX5_learnBlock 76 = .ok (.getfield 67, 3) := by decide +kernel
theorem dX5_learnBlock_79 : decode cX5_learnBlock 79 = .ok (.iload 4, 2) := by decide +kernel
theorem dX5_learnBlock_81 : decode cX5_learnBlock 81 = .ok (.invokevirtual 121, 3) := by decide +kernel
theorem dX5_learnBlock_84 : decode cX5_learnBlock 84 = .ok (.ifCond .ne 7, 3) := by decide +kernel
theorem dX5_learnBlock_87 : decode cX5_learnBlock 87 = .ok (.iload_n 3, 1) := by decide +kernel
theorem dX5_learnBlock_88 : decode cX5_learnBlock 88 = .ok (.ifCond .eq 7, 3) := by decide +kernel
theorem dX5_learnBlock_91 : decode cX5_learnBlock 91 = .ok (.iconst 1, 1) := by decide +kernel
theorem dX5_learnBlock_92 : decode cX5_learnBlock 92 = .ok (.goto 4, 3) := by decide +kernel
theorem dX5_learnBlock_95 : decode cX5_learnBlock 95 = .ok (.iconst 0, 1) := by decide +kernel
theorem dX5_learnBlock_96 : decode cX5_learnBlock 96 = .ok (.istore_n 3, 1) := by decide +kernel
theorem dX5_learnBlock_97 : decode cX5_learnBlock 97 = .ok (.aload_n 1, 1) := by decide +kernel
theorem dX5_learnBlock_98 : decode cX5_learnBlock 98 = .ok (.getfield 67, 3) := by decide +kernel
theorem dX5_learnBlock_101 : decode cX5_learnBlock 101 = .ok (.getfield 76, 3) := by decide +kernel
theorem dX5_learnBlock_104 : decode cX5_learnBlock 104 = .ok (.iload 4, 2) := by decide +kernel
theorem dX5_learnBlock_106 : decode cX5_learnBlock 106 = .ok (.iaload, 1) := by decide +kernel
theorem dX5_learnBlock_107 : decode cX5_learnBlock 107 = .ok (.istore 4, 2) := by decide +kernel
theorem dX5_learnBlock_109 : decode cX5_learnBlock 109 = .ok (.goto (-53), 3) := by decide +kernel
theorem dX5_learnBlock_112 : decode cX5_learnBlock 112 = .ok (.aload_n 0, 1) := by decide +kernel
theorem dX5_learnBlock_113 : decode cX5_learnBlock 113 = .ok (.getfield 96, 3) := by decide +kernel
theorem dX5_learnBlock_116 : decode cX5_learnBlock 116 = .ok (.lstore 4, 2) := by decide +kernel
theorem dX5_learnBlock_118 : decode cX5_learnBlock 118 = .ok (.aload_n 1, 1) := by decide +kernel
theorem dX5_learnBlock_119 : decode cX5_learnBlock 119 = .ok (.getfield 125, 3) := by decide +kernel
theorem dX5_learnBlock_122 : decode cX5_learnBlock 122 = .ok (.iload_n 2, 1) := by decide +kernel
theorem dX5_learnBlock_123 : decode cX5_learnBlock 123 = .ok (.iaload, 1) := by decide +kernel
theorem dX5_learnBlock_124 : decode cX5_learnBlock 124 = .ok (.ifCond .lt 35, 3) := by decide +kernel
theorem dX5_learnBlock_127 : decode cX5_learnBlock 127 = .ok (.aload_n 0, 1) := by decide +kernel
theorem dX5_learnBlock_128 : decode cX5_learnBlock 128 = .ok (.aload_n 1, 1) := by decide +kernel
theorem dX5_learnBlock_129 : decode cX5_learnBlock 129 = .ok (.iload_n 2, 1) := by decide +kernel
theorem dX5_learnBlock_130 : decode cX5_learnBlock 130 = .ok (.aload_n 1, 1) := by decide +kernel
theorem dX5_learnBlock_131 : decode cX5_learnBlock 131 = .ok (.getfield 125, 3) := by decide +kernel
theorem dX5_learnBlock_134 : decode cX5_learnBlock 134 = .ok (.iload_n 2, 1) := by decide +kernel
theorem dX5_learnBlock_135 : decode cX5_learnBlock 135 = .ok (.iaload, 1) := by decide +kernel
theorem dX5_learnBlock_136 : decode cX5_learnBlock 136 = .ok (.invokevirtual 128, 3) := by decide +kernel
theorem dX5_learnBlock_139 : decode cX5_learnBlock 139 = .ok (.ifCond .eq 20, 3) := by decide +kernel
theorem dX5_learnBlock_142 : decode cX5_learnBlock 142 = .ok (.aload_n 0, 1) := by decide +kernel
theorem dX5_learnBlock_143 : decode cX5_learnBlock 143 = .ok (.dup, 1) := by decide +kernel
theorem dX5_learnBlock_144 : decode cX5_learnBlock 144 = .ok (.getfield 96, 3) := by decide +kernel
theorem dX5_learnBlock_147 : decode cX5_learnBlock 147 = .ok (.lconst 1, 1) := by decide +kernel
theorem dX5_learnBlock_148 : decode cX5_learnBlock 148 = .ok (.aload_n 1, 1) := by decide +kernel
theorem dX5_learnBlock_149 : decode cX5_learnBlock 149 = .ok (.getfield 125, 3) := by decide +kernel
theorem dX5_learnBlock_152 : decode cX5_learnBlock 152 = .ok (.iload_n 2, 1) := by decide +kernel
theorem dX5_learnBlock_153 : decode cX5_learnBlock 153 = .ok (.iaload, 1) := by decide +kernel
theorem dX5_learnBlock_154 : decode cX5_learnBlock 154 = .ok (.lshl, 1) := by decide +kernel
theorem dX5_learnBlock_155 : decode cX5_learnBlock 155 = .ok (.lor, 1) := by decide +kernel
theorem dX5_learnBlock_156 : decode cX5_learnBlock 156 = .ok (.putfield 96, 3) := by decide +kernel
theorem dX5_learnBlock_159 : decode cX5_learnBlock 159 = .ok (.aload_n 1, 1) := by decide +kernel
theorem dX5_learnBlock_160 : decode cX5_learnBlock 160 = .ok (.getfield 131, 3) := by decide +kernel
theorem dX5_learnBlock_163 : decode cX5_learnBlock 163 = .ok (.iload_n 2, 1) := by decide +kernel
theorem dX5_learnBlock_164 : decode cX5_learnBlock 164 = .ok (.iaload, 1) := by decide +kernel
theorem dX5_learnBlock_165 : decode cX5_learnBlock 165 = .ok (.ifCond .lt 35, 3) := by decide +kernel
theorem dX5_learnBlock_168 : decode cX5_learnBlock 168 = .ok (.aload_n 0, 1) := by decide +kernel
theorem dX5_learnBlock_169 : decode cX5_learnBlock 169 = .ok (.aload_n 1, 1) := by decide +kernel
theorem dX5_learnBlock_170 : decode cX5_learnBlock 170 = .ok (.iload_n 2, 1) := by decide +kernel
theorem dX5_learnBlock_171 : decode cX5_learnBlock 171 = .ok (.aload_n 1, 1) := by decide +kernel
theorem dX5_learnBlock_172 : decode cX5_learnBlock 172 = .ok (.getfield 131, 3) := by decide +kernel
theorem dX5_learnBlock_175 : decode cX5_learnBlock 175 = .ok (.iload_n 2, 1) := by decide +kernel
theorem dX5_learnBlock_176 : decode cX5_learnBlock 176 = .ok (.iaload, 1) := by decide +kernel
theorem dX5_learnBlock_177 : decode cX5_learnBlock 177 = .ok (.invokevirtual 128, 3) := by decide +kernel
theorem dX5_learnBlock_180 : decode cX5_learnBlock 180 = .ok (.ifCond .eq 20, 3) := by decide +kernel
theorem dX5_learnBlock_183 : decode cX5_learnBlock 183 = .ok (.aload_n 0, 1) := by decide +kernel
theorem dX5_learnBlock_184 : decode cX5_learnBlock 184 = .ok (.dup, 1) := by decide +kernel
theorem dX5_learnBlock_185 : decode cX5_learnBlock 185 = .ok (.getfield 96, 3) := by decide +kernel
theorem dX5_learnBlock_188 : decode cX5_learnBlock 188 = .ok (.lconst 1, 1) := by decide +kernel
theorem dX5_learnBlock_189 : decode cX5_learnBlock 189 = .ok (.aload_n 1, 1) := by decide +kernel
theorem dX5_learnBlock_190 : decode cX5_learnBlock 190 = .ok (.getfield 131, 3) := by decide +kernel
theorem dX5_learnBlock_193 : decode cX5_learnBlock 193 = .ok (.iload_n 2, 1) := by decide +kernel
theorem dX5_learnBlock_194 : decode cX5_learnBlock 194 = .ok (.iaload, 1) := by decide +kernel
theorem dX5_learnBlock_195 : decode cX5_learnBlock 195 = .ok (.lshl, 1) := by decide +kernel
theorem dX5_learnBlock_196 : decode cX5_learnBlock 196 = .ok (.lor, 1) := by decide +kernel
theorem dX5_learnBlock_197 : decode cX5_learnBlock 197 = .ok (.putfield 96, 3) := by decide +kernel
theorem dX5_learnBlock_200 : decode cX5_learnBlock 200 = .ok (.iload_n 3, 1) := by decide +kernel
theorem dX5_learnBlock_201 : decode cX5_learnBlock 201 = .ok (.ifCond .ne 13, 3) := by decide +kernel
theorem dX5_learnBlock_204 : decode cX5_learnBlock 204 = .ok (.aload_n 0, 1) := by decide +kernel
theorem dX5_learnBlock_205 : decode cX5_learnBlock 205 = .ok (.getfield 96, 3) := by decide +kernel
theorem dX5_learnBlock_208 : decode cX5_learnBlock 208 = .ok (.lload 4, 2) := by decide +kernel
theorem dX5_learnBlock_210 : decode cX5_learnBlock 210 = .ok (.lcmp, 1) := by decide +kernel
theorem dX5_learnBlock_211 : decode cX5_learnBlock 211 = .ok (.ifCond .eq 7, 3) := by decide +kernel
theorem dX5_learnBlock_214 : decode cX5_learnBlock 214 = .ok (.iconst 1, 1) := by decide +kernel
theorem dX5_learnBlock_215 : decode cX5_learnBlock 215 = .ok (.goto 4, 3) := by decide +kernel
theorem dX5_learnBlock_218 : decode cX5_learnBlock 218 = .ok (.iconst 0, 1) := by decide +kernel
theorem dX5_learnBlock_219 : decode cX5_learnBlock 219 = .ok (.ireturn, 1) := by decide +kernel
theorem dX5_learnPhi_0 : decode cX5_learnPhi 0 = .ok (.iconst 0, 1) := by decide +kernel
theorem dX5_learnPhi_1 : decode cX5_learnPhi 1 = .ok (.istore 4, 2) := by decide +kernel
theorem dX5_learnPhi_3 : decode cX5_learnPhi 3 = .ok (.iconst 0, 1) := by decide +kernel
theorem dX5_learnPhi_4 : decode cX5_learnPhi 4 = .ok (.istore 5, 2) := by decide +kernel
theorem dX5_learnPhi_6 : decode cX5_learnPhi 6 = .ok (.iload 5, 2) := by decide +kernel
theorem dX5_learnPhi_8 : decode cX5_learnPhi 8 = .ok (.aload_n 1, 1) := by decide +kernel
theorem dX5_learnPhi_9 : decode cX5_learnPhi 9 = .ok (.iload_n 2, 1) := by decide +kernel
theorem dX5_learnPhi_10 : decode cX5_learnPhi 10 = .ok (.invokevirtual 134, 3) := by decide +kernel
theorem dX5_learnPhi_13 : decode cX5_learnPhi 13 = .ok (.if_icmp .ge 87, 3) := by decide +kernel
theorem dX5_learnPhi_16 : decode cX5_learnPhi 16 = .ok (.aload_n 1, 1) := by decide +kernel
theorem dX5_learnPhi_17 : decode cX5_learnPhi 17 = .ok (.iload_n 2, 1) := by decide +kernel
theorem dX5_learnPhi_18 : decode cX5_learnPhi 18 = .ok (.iload 5, 2) := by decide +kernel
theorem dX5_learnPhi_20 : decode cX5_learnPhi 20 = .ok (.invokevirtual 138, 3) := by decide +kernel
theorem dX5_learnPhi_23 : decode cX5_learnPhi 23 = .ok (.istore 6, 2) := by decide +kernel
theorem dX5_learnPhi_25 : decode cX5_learnPhi 25 = .ok (.aload_n 1, 1) := by decide +kernel
theorem dX5_learnPhi_26 : decode cX5_learnPhi 26 = .ok (.iload_n 3, 1) := by decide +kernel
theorem dX5_learnPhi_27 : decode cX5_learnPhi 27 = .ok (.iload 6, 2) := by decide +kernel
theorem dX5_learnPhi_29 : decode cX5_learnPhi 29 = .ok (.invokevirtual 142, 3) := by decide +kernel
theorem dX5_learnPhi_32 : decode cX5_learnPhi 32 = .ok (.istore 7, 2) := by decide +kernel
theorem dX5_learnPhi_34 : decode cX5_learnPhi 34 = .ok (.aload_n 0, 1) := by decide +kernel
theorem dX5_learnPhi_35 : decode cX5_learnPhi 35 = .ok (.aload_n 1, 1) := by decide +kernel
theorem dX5_learnPhi_36 : decode cX5_learnPhi 36 = .ok (.iload 6, 2) := by decide +kernel
theorem dX5_learnPhi_38 : decode cX5_learnPhi 38 = .ok (.iload_n 2, 1) := by decide +kernel
theorem dX5_learnPhi_39 : decode cX5_learnPhi 39 = .ok (.invokevirtual 128, 3) := by decide +kernel
theorem dX5_learnPhi_42 : decode cX5_learnPhi 42 = .ok (.ifCond .eq 52, 3) := by decide +kernel
theorem dX5_learnPhi_45 : decode cX5_learnPhi 45 = .ok (.aload_n 0, 1) := by decide +kernel
theorem dX5_learnPhi_46 : decode cX5_learnPhi 46 = .ok (.getfield 18, 3) := by decide +kernel
theorem dX5_learnPhi_49 : decode cX5_learnPhi 49 = .ok (.iload 7, 2) := by decide +kernel
theorem dX5_learnPhi_51 : decode cX5_learnPhi 51 = .ok (.iaload, 1) := by decide +kernel
theorem dX5_learnPhi_52 : decode cX5_learnPhi 52 = .ok (.ifCond .eq 42, 3) := by decide +kernel
theorem dX5_learnPhi_55 : decode cX5_learnPhi 55 = .ok (.aload_n 0, 1) := by decide +kernel
theorem dX5_learnPhi_56 : decode cX5_learnPhi 56 = .ok (.aload_n 1, 1) := by decide +kernel
theorem dX5_learnPhi_57 : decode cX5_learnPhi 57 = .ok (.getfield 58, 3) := by decide +kernel
theorem dX5_learnPhi_60 : decode cX5_learnPhi 60 = .ok (.iload_n 3, 1) := by decide +kernel
theorem dX5_learnPhi_61 : decode cX5_learnPhi 61 = .ok (.iaload, 1) := by decide +kernel
theorem dX5_learnPhi_62 : decode cX5_learnPhi 62 = .ok (.aload_n 0, 1) := by decide +kernel
theorem dX5_learnPhi_63 : decode cX5_learnPhi 63 = .ok (.getfield 18, 3) := by decide +kernel
theorem dX5_learnPhi_66 : decode cX5_learnPhi 66 = .ok (.iload 7, 2) := by decide +kernel
theorem dX5_learnPhi_68 : decode cX5_learnPhi 68 = .ok (.iaload, 1) := by decide +kernel
theorem dX5_learnPhi_69 : decode cX5_learnPhi 69 = .ok (.aload_n 0, 1) := by decide +kernel
theorem dX5_learnPhi_70 : decode cX5_learnPhi 70 = .ok (.getfield 21, 3) := by decide +kernel
theorem dX5_learnPhi_73 : decode cX5_learnPhi 73 = .ok (.iload 7, 2) := by decide +kernel
theorem dX5_learnPhi_75 : decode cX5_learnPhi 75 = .ok (.iaload, 1) := by decide +kernel
theorem dX5_learnPhi_76 : decode cX5_learnPhi 76 = .ok (.invokevirtual 145, 3) := by decide +kernel
theorem dX5_learnPhi_79 : decode cX5_learnPhi 79 = .ok (.ifCond .ne 8, 3) := by decide +kernel
theorem dX5_learnPhi_82 : decode cX5_learnPhi 82 = .ok (.iload 4, 2) := by decide +kernel
theorem dX5_learnPhi_84 : decode cX5_learnPhi 84 = .ok (.ifCond .eq 7, 3) := by decide +kernel
theorem dX5_learnPhi_87 : decode cX5_learnPhi 87 = .ok (.iconst 1, 1) := by decide +kernel
theorem dX5_learnPhi_88 : decode cX5_learnPhi 88 = .ok (.goto 4, 3) := by decide +kernel
theorem dX5_learnPhi_91 : decode cX5_learnPhi 91 = .ok (.iconst 0, 1) := by decide +kernel
theorem dX5_learnPhi_92 : decode cX5_learnPhi 92 = .ok (.istore 4, 2) := by decide +kernel
theorem dX5_learnPhi_94 : decode cX5_learnPhi 94 = .ok (.iinc 5 1, 3) := by decide +kernel
theorem dX5_learnPhi_97 : decode cX5_learnPhi 97 = .ok (.goto (-91), 3) := by decide +kernel
theorem dX5_learnPhi_100 : decode cX5_learnPhi 100 = .ok (.iload 4, 2) := by decide +kernel
theorem dX5_learnPhi_102 : decode cX5_learnPhi 102 = .ok (.ireturn, 1) := by decide +kernel
theorem dX5_learnStep_0 : decode cX5_learnStep 0 = .ok (.aload_n 1, 1) := by decide +kernel
theorem dX5_learnStep_1 : decode cX5_learnStep 1 = .ok (.getfield 79, 3) := by decide +kernel
theorem dX5_learnStep_4 : decode cX5_learnStep 4 = .ok (.iload_n 2, 1) := by decide +kernel
theorem dX5_learnStep_5 : decode cX5_learnStep 5 = .ok (.iaload, 1) := by decide +kernel
theorem dX5_learnStep_6 : decode cX5_learnStep 6 = .ok (.istore_n 3, 1) := by decide +kernel
theorem dX5_learnStep_7 : decode cX5_learnStep 7 = .ok (.aload_n 1, 1) := by decide +kernel
theorem dX5_learnStep_8 : decode cX5_learnStep 8 = .ok (.getfield 71, 3) := by decide +kernel
theorem dX5_learnStep_11 : decode cX5_learnStep 11 = .ok (.iload_n 2, 1) := by decide +kernel
theorem dX5_learnStep_12 : decode cX5_learnStep 12 = .ok (.iaload, 1) := by decide +kernel
theorem dX5_learnStep_13 : decode cX5_learnStep 13 = .ok (.istore 4, 2) := by decide +kernel
theorem dX5_learnStep_15 : decode cX5_learnStep 15 = .ok (.iload_n 3, 1) := by decide +kernel
theorem dX5_learnStep_16 : decode cX5_learnStep 16 = .ok (.ifCond .ne 17, 3) := by decide +kernel
theorem dX5_learnStep_19 : decode cX5_learnStep 19 = .ok (.aload_n 0, 1) := by decide +kernel
theorem dX5_learnStep_20 : decode cX5_learnStep 20 = .ok (.iload 4, 2) := by decide +kernel
theorem dX5_learnStep_22 : decode cX5_learnStep 22 = .ok (.iconst 1, 1) := by decide +kernel
theorem dX5_learnStep_23 : decode cX5_learnStep 23 = .ok (.aload_n 1, 1) := by decide +kernel
theorem dX5_learnStep_24 : decode cX5_learnStep 24 = .ok (.getfield 82, 3) := by decide +kernel
theorem dX5_learnStep_27 : decode cX5_learnStep 27 = .ok (.iload_n 2, 1) := by decide +kernel
theorem dX5_learnStep_28 : decode cX5_learnStep 28 = .ok (.iaload, 1) := by decide +kernel
theorem dX5_learnStep_29 : decode cX5_learnStep 29 = .ok (.invokevirtual 145, 3) := by decide +kernel
theorem dX5_learnStep_32 : decode cX5_learnStep 32 = .ok (.ireturn, 1) := by decide +kernel
theorem dX5_learnStep_33 : decode cX5_learnStep 33 = .ok (.iload_n 3, 1) := by decide +kernel
theorem dX5_learnStep_34 : decode cX5_learnStep 34 = .ok (.invokestatic 149, 3) := by decide +kernel
theorem dX5_learnStep_37 : decode cX5_learnStep 37 = .ok (.ifCond .ne 12, 3) := by decide +kernel
theorem dX5_learnStep_40 : decode cX5_learnStep 40 = .ok (.aload_n 0, 1) := by decide +kernel
theorem dX5_learnStep_41 : decode cX5_learnStep 41 = .ok (.iload 4, 2) := by decide +kernel
theorem dX5_learnStep_43 : decode cX5_learnStep 43 = .ok (.iconst 2, 1) := by decide +kernel
theorem dX5_learnStep_44 : decode cX5_learnStep 44 = .ok (.iconst 0, 1) := by decide +kernel
theorem dX5_learnStep_45 : decode cX5_learnStep 45 = .ok (.invokevirtual 145, 3) := by decide +kernel
theorem dX5_learnStep_48 : decode cX5_learnStep 48 = .ok (.ireturn, 1) := by decide +kernel
theorem dX5_learnStep_49 : decode cX5_learnStep 49 = .ok (.aload_n 1, 1) := by decide +kernel
theorem dX5_learnStep_50 : decode cX5_learnStep 50 = .ok (.getfield 82, 3) := by decide +kernel
theorem dX5_learnStep_53 : decode cX5_learnStep 53 = .ok (.iload_n 2, 1) := by decide +kernel
theorem dX5_learnStep_54 : decode cX5_learnStep 54 = .ok (.iaload, 1) := by decide +kernel
theorem dX5_learnStep_55 : decode cX5_learnStep 55 = .ok (.istore 5, 2) := by decide +kernel
theorem dX5_learnStep_57 : decode cX5_learnStep 57 = .ok (.aload_n 1, 1) := by decide +kernel
theorem dX5_learnStep_58 : decode cX5_learnStep 58 = .ok (.getfield 93, 3) := by decide +kernel
theorem dX5_learnStep_61 : decode cX5_learnStep 61 = .ok (.iload_n 2, 1) := by decide +kernel
theorem dX5_learnStep_62 : decode cX5_learnStep 62 = .ok (.iaload, 1) := by decide +kernel
theorem dX5_learnStep_63 : decode cX5_learnStep 63 = .ok (.istore 6, 2) := by decide +kernel
theorem dX5_learnStep_65 : decode cX5_learnStep 65 = .ok (.aload_n 0, 1) := by decide +kernel
theorem dX5_learnStep_66 : decode cX5_learnStep 66 = .ok (.getfield 18, 3) := by decide +kernel
theorem dX5_learnStep_69 : decode cX5_learnStep 69 = .ok (.iload 6, 2) := by decide +kernel
theorem dX5_learnStep_71 : decode cX5_learnStep 71 = .ok (.iaload, 1) := by decide +kernel
theorem dX5_learnStep_72 : decode cX5_learnStep 72 = .ok (.iconst 1, 1) := by decide +kernel
theorem dX5_learnStep_73 : decode cX5_learnStep 73 = .ok (.if_icmp .ne 21, 3) := by decide +kernel
theorem dX5_learnStep_76 : decode cX5_learnStep 76 = .ok (.iload_n 3, 1) := by decide +kernel
theorem dX5_learnStep_77 : decode cX5_learnStep 77 = .ok (.aload_n 0, 1) := by decide +kernel
theorem dX5_learnStep_78 : decode cX5_learnStep 78 = .ok (.getfield 21, 3) := by decide +kernel
theorem dX5_learnStep_81 : decode cX5_learnStep 81 = .ok (.iload 6, 2) := by decide +kernel
theorem dX5_learnStep_83 : decode cX5_learnStep 83 = .ok (.iaload, 1) := by decide +kernel
theorem dX5_learnStep_84 : decode cX5_learnStep 84 = .ok (.invokestatic 153, 3) := by decide +kernel
theorem dX5_learnStep_87 : decode cX5_learnStep 87 = .ok (.ifCond .eq 7, 3) := by decide +kernel
theorem dX5_learnStep_90 : decode cX5_learnStep 90 = .ok (.iconst 1, 1) := by decide +kernel
theorem dX5_learnStep_91 : decode cX5_learnStep 91 = .ok (.goto 4, 3) := by decide +kernel
theorem dX5_learnStep_94 : decode cX5_learnStep 94 = .ok (.iconst 0, 1) := by decide +kernel
theorem dX5_learnStep_95 : decode cX5_learnStep 95 = .ok (.istore 7, 2) := by decide +kernel
theorem dX5_learnStep_97 : decode cX5_learnStep 97 = .ok (.aload_n 0, 1) := by decide +kernel
theorem dX5_learnStep_98 : decode cX5_learnStep 98 = .ok (.getfield 18, 3) := by decide +kernel
theorem dX5_learnStep_101 : decode cX5_learnStep 101 = .ok (.iload 5, 2) := by decide +kernel
theorem dX5_learnStep_103 : decode cX5_learnStep 103 = .ok (.iaload, 1) := by decide +kernel
theorem dX5_learnStep_104 : decode cX5_learnStep 104 = .ok (.iconst 2, 1) := by decide +kernel
theorem dX5_learnStep_105 : decode cX5_learnStep 105 = .ok (.if_icmp .eq 19, 3) := by decide +kernel
theorem dX5_learnStep_108 : decode cX5_learnStep 108 = .ok (.aload_n 0, 1) := by decide +kernel
theorem dX5_learnStep_109 : decode cX5_learnStep 109 = .ok (.getfield 18, 3) := by decide +kernel
theorem dX5_learnStep_112 : decode cX5_learnStep 112 = .ok (.iload 6, 2) := by decide +kernel
theorem dX5_learnStep_114 : decode cX5_learnStep 114 = .ok (.iaload, 1) := by decide +kernel
theorem dX5_learnStep_115 : decode cX5_learnStep 115 = .ok (.iconst 2, 1) := by decide +kernel
theorem dX5_learnStep_116 : decode cX5_learnStep 116 = .ok (.if_icmp .eq 8, 3) := by decide +kernel
theorem dX5_learnStep_119 : decode cX5_learnStep 119 = .ok (.iload 7, 2) := by decide +kernel
theorem dX5_learnStep_121 : decode cX5_learnStep 121 = .ok (.ifCond .eq 12, 3) := by decide +kernel
theorem dX5_learnStep_124 : decode cX5_learnStep 124 = .ok (.aload_n 0, 1) := by decide +kernel
theorem dX5_learnStep_125 : decode cX5_learnStep 125 = .ok (.iload 4, 2) := by decide +kernel
theorem dX5_learnStep_127 : decode cX5_learnStep 127 = .ok (.iconst 2, 1) := by decide +kernel
theorem dX5_learnStep_128 : decode cX5_learnStep 128 = .ok (.iconst 0, 1) := by decide +kernel
theorem dX5_learnStep_129 : decode cX5_learnStep 129 = .ok (.invokevirtual 145, 3) := by decide +kernel
theorem dX5_learnStep_132 : decode cX5_learnStep 132 = .ok (.ireturn, 1) := by decide +kernel
theorem dX5_learnStep_133 : decode cX5_learnStep 133 = .ok (.aload_n 0, 1) := by decide +kernel
theorem dX5_learnStep_134 : decode cX5_learnStep 134 = .ok (.getfield 18, 3) := by decide +kernel
theorem dX5_learnStep_137 : decode cX5_learnStep 137 = .ok (.iload 5, 2) := by decide +kernel
theorem dX5_learnStep_139 : decode cX5_learnStep 139 = .ok (.iaload, 1) := by decide +kernel
theorem dX5_learnStep_140 : decode cX5_learnStep 140 = .ok (.ifCond .eq 13, 3) := by decide +kernel
theorem dX5_learnStep_143 : decode cX5_learnStep 143 = .ok (.aload_n 0, 1) := by decide +kernel
theorem dX5_learnStep_144 : decode cX5_learnStep 144 = .ok (.getfield 18, 3) := by decide +kernel
theorem dX5_learnStep_147 : decode cX5_learnStep 147 = .ok (.iload 6, 2) := by decide +kernel
theorem dX5_learnStep_149 : decode cX5_learnStep 149 = .ok (.iaload, 1) := by decide +kernel
theorem dX5_learnStep_150 : decode cX5_learnStep 150 = .ok (.ifCond .ne 5, 3) := by decide +kernel
theorem dX5_learnStep_153 : decode cX5_learnStep 153 = .ok (.iconst 0, 1) := by decide +kernel
theorem dX5_learnStep_154 : decode cX5_learnStep 154 = .ok (.ireturn, 1) := by decide +kernel
theorem dX5_learnStep_155 : decode cX5_learnStep 155 = .ok (.aload_n 0, 1) := by decide +kernel
theorem dX5_learnStep_156 : decode cX5_learnStep 156 = .ok (.iload 4, 2) := by decide +kernel
theorem dX5_learnStep_158 : decode cX5_learnStep 158 = .ok (.iconst 1, 1) := by decide +kernel
theorem dX5_learnStep_159 : decode cX5_learnStep 159 = .ok (.iload_n 3, 1) := by decide +kernel
theorem dX5_learnStep_160 : decode cX5_learnStep 160 = .ok (.aload_n 0, 1) := by decide +kernel
theorem dX5_learnStep_161 : decode cX5_learnStep 161 = .ok (.getfield 21, 3) := by decide +kernel
theorem dX5_learnStep_164 : decode cX5_learnStep 164 = .ok (.iload 5, 2) := by decide +kernel
theorem dX5_learnStep_166 : decode cX5_learnStep 166 = .ok (.iaload, 1) := by decide +kernel
theorem dX5_learnStep_167 : decode cX5_learnStep 167 = .ok (.aload_n 0, 1) := by decide +kernel
theorem dX5_learnStep_168 : decode cX5_learnStep 168 = .ok (.getfield 21, 3) := by decide +kernel
theorem dX5_learnStep_171 : decode cX5_learnStep 171 = .ok (.iload 6, 2) := by decide +kernel
theorem dX5_learnStep_173 : decode cX5_learnStep 173 = .ok (.iaload, 1) := by decide +kernel
theorem dX5_learnStep_174 : decode cX5_learnStep 174 = .ok (.invokestatic 157, 3) := by decide +kernel
theorem dX5_learnStep_177 : decode cX5_learnStep 177 = .ok (.invokevirtual 145, 3) := by decide +kernel
theorem dX5_learnStep_180 : decode cX5_learnStep 180 = .ok (.ireturn, 1) := by decide +kernel
theorem qw488 : Cond.methodLink RX5 167 yX1_takeSteps ∈ gw := mq_7 (i := 184) rfl rfl
theorem qw489 : Cond.methodLink RX5 170 yX1_takePhis ∈ gw := mq_7 (i := 188) rfl rfl
theorem qw490 : Cond.fieldLink RX5 18 "Gearbox$Passes" "state" "[I" ∈ gw := mq_2 (i := 213) rfl rfl
theorem qw491 : Cond.fieldLink RX5 21 "Gearbox$Passes" "number" "[I" ∈ gw := mq_2 (i := 214) rfl rfl
theorem qw492 : Cond.methodLink RX5 173 yX1_addStep ∈ gw := mq_7 (i := 192) rfl rfl
theorem qw493 : Cond.methodLink RX5 177 yX1_linkPhi ∈ gw := mq_7 (i := 193) rfl rfl
theorem qw494 : Cond.methodLink RX5 185 yX1_link ∈ gw := mq_7 (i := 197) rfl rfl
theorem qw495 : Cond.code yX5_becomeNumber cX5_becomeNumber 3 (Option.none : Option Jvm.ClassFile.FieldType) ∈ gw := mq_7 (i := 196) rfl rfl
theorem qw496 : Cond.methodLink RX5 181 yX5_becomeNumber ∈ gw := mq_7 (i := 194) rfl rfl
theorem qw497 : Cond.static yX5_becomeNumber ∈ gw := mq_7 (i := 195) rfl rfl
theorem qw498 : Cond.fieldLink RX5 125 "Gearbox$Flow" "first" "[I" ∈ gw := mq_2 (i := 22) rfl rfl
theorem qw499 : Cond.fieldLink RX5 131 "Gearbox$Flow" "second" "[I" ∈ gw := mq_2 (i := 30) rfl rfl
theorem qw500 : Cond.code yX5_foldEnd cX5_foldEnd 3 (Option.some Jvm.ClassFile.FieldType.int) ∈ gw := mq_7 (i := 201) rfl rfl
theorem qw501 : Cond.methodLink RX5 188 yX5_foldEnd ∈ gw := mq_7 (i := 198) rfl rfl
theorem qw502 : Cond.instanceMethod yX5_foldEnd ∈ gw := mq_7 (i := 200) rfl rfl
theorem qw503 : Cond.selects RX5 yX5_foldEnd yX5_foldEnd ∈ gw := mk_s (i := 37) rfl rfl
theorem qw504 : Cond.fieldLink RX5 96 "Gearbox$Passes" "reached" "J" ∈ gw := mq_2 (i := 217) rfl rfl
theorem qw505 : Cond.code yX5_isWay cX5_isWay 5 (Option.some Jvm.ClassFile.FieldType.boolean) ∈ gw := mq_7 (i := 164) rfl rfl
theorem qw506 : Cond.methodLink RX5 128 yX5_isWay ∈ gw := mq_7 (i := 161) rfl rfl
theorem qw507 : Cond.instanceMethod yX5_isWay ∈ gw := mq_7 (i := 163) rfl rfl
theorem qw508 : Cond.selects RX5 yX5_isWay yX5_isWay ∈ gw := mk_s (i := 38) rfl rfl
theorem qw509 : Cond.code yX5_learn cX5_learn 4 (Option.some Jvm.ClassFile.FieldType.boolean) ∈ gw := mq_7 (i := 168) rfl rfl
theorem qw510 : Cond.methodLink RX5 145 yX5_learn ∈ gw := mq_7 (i := 165) rfl rfl
theorem qw511 : Cond.instanceMethod yX5_learn ∈ gw := mq_7 (i := 167) rfl rfl
theorem qw512 : Cond.selects RX5 yX5_learn yX5_learn ∈ gw := mk_s (i := 39) rfl rfl
theorem qw513 : Cond.code yX5_learnPhi cX5_learnPhi 8 (Option.some Jvm.ClassFile.FieldType.boolean) ∈ gw := mq_7 (i := 154) rfl rfl
theorem qw514 : Cond.methodLink RX5 117 yX5_learnPhi ∈ gw := mq_7 (i := 151) rfl rfl
theorem qw515 : Cond.instanceMethod yX5_learnPhi ∈ gw := mq_7 (i := 153) rfl rfl
theorem qw516 : Cond.selects RX5 yX5_learnPhi yX5_learnPhi ∈ gw := mk_s (i := 40) rfl rfl
theorem qw517 : Cond.code yX11_isFailing cX11_isFailing 2 (Option.some Jvm.ClassFile.FieldType.boolean) ∈ gw := mq_7 (i := 176) rfl rfl
theorem qw518 : Cond.static yX11_isFailing ∈ gw := mq_7 (i := 175) rfl rfl
theorem qw519 : Cond.code yX11_compute cX11_compute 3 (Option.some Jvm.ClassFile.FieldType.int) ∈ gw := mq_7 (i := 179) rfl rfl
theorem qw520 : Cond.static yX11_compute ∈ gw := mq_7 (i := 178) rfl rfl
theorem qw521 : Cond.code yX5_learnStep cX5_learnStep 8 (Option.some Jvm.ClassFile.FieldType.boolean) ∈ gw := mq_7 (i := 172) rfl rfl
theorem qw522 : Cond.methodLink RX5 121 yX5_learnStep ∈ gw := mq_7 (i := 169) rfl rfl
theorem qw523 : Cond.instanceMethod yX5_learnStep ∈ gw := mq_7 (i := 171) rfl rfl
theorem qw524 : Cond.selects RX5 yX5_learnStep yX5_learnStep ∈ gw := mk_s (i := 41) rfl rfl
def fX5_foldEnd_J26 (p1w : ST) : Option (Int32 × ST) := some (0, p1w)
def fX5_foldEnd_J70 (p2 : Int32) (w7 : ST) (y0_70 : Int32) : Option (Int32 × ST) := (if ixb p2 60 = true then (lt9 (upw w7 10 (nn p2) y0_70) fun (w11 : ST) => (if ixb p2 60 = true then (lt9 (upw w11 11 (nn p2) (-1)) fun (w13 : ST) => (if ixb p2 60 = true then (lt9 (upw w13 9 (nn p2) (-1)) fun (w15 : ST) => some (1, w15)) else none)) else none)) else none)
def fX5_foldEnd (p0w : ST) (p1w : ST) (p2 : Int32) : Option (Int32 × ST) := (if ixb p2 60 = true then (if (p1w 8 (nn p2)) = 23 then (if ixb p2 60 = true then (if ixb (p1w 9 (nn p2)) 250 = true then (if (p0w 4 (nn (p1w 9 (nn p2)))) = 1 then (if ixb p2 60 = true then (lt9 (upw p1w 8 (nn p2) 22) fun (w7 : ST) => (if ixb p2 60 = true then (if ixb (w7 9 (nn p2)) 250 = true then (if (p0w 5 (nn (w7 9 (nn p2)))) = 0 then (if ixb p2 60 = true then (fX5_foldEnd_J70 p2 w7 (w7 11 (nn p2))) else none) else (if ixb p2 60 = true then (fX5_foldEnd_J70 p2 w7 (w7 10 (nn p2))) else none)) else none) else none)) else none) else (fX5_foldEnd_J26 p1w)) else none) else none) else (fX5_foldEnd_J26 p1w)) else none)
set_option maxHeartbeats 16000000 in
set_option maxRecDepth 100000 in
theorem kX5_foldEnd {zs : ZS} (l : Launch) (dC : Nat → ClassId) (dI : Nat → Nat → Nat) (p0a : Nat → Nat) (p0k : Nat → ClassId) (p0w : ST) (p0l : SL) (p1a : Nat → Nat) (p1k : Nat → ClassId) (p1n : Nat → Nat) (p1w : ST) (p1l : SL) (p2 : Int32) (sz : Nat) (o : Int32 × ST) (hrun : fX5_foldEnd p0w p1w p2 = some o) : Met l yX5_foldEnd (wz yX5_foldEnd cX5_foldEnd 3 (Option.some Jvm.ClassFile.FieldType.int)) ({ frames := 0, cells := 0, slots := 0, locals := 0 } : Room) (va_Pc [.ref (p0a 0), .ref (p1a 0), .int p2] (PRE zs dC dI (List.flatten ([(oX5 (p0a 0) p0a p0k p0w p0l), (oX1 (p1a 0) p1a p1k p1n p1w p1l)] : List va_W)) (List.flatten ([(tX5 p0k), (tX1 p1k)] : List (List (ClassId × FieldType)))) sz)) (va_Qi (fun (r : Int32) (_ : Unit) => r = (o.1)) (fun _ t => POST dC dI (List.flatten ([(oX5 (p0a 0) p0a p0k p0w p0l), (oX1 (p1a 0) p1a p1k p1n (o.2) p1l)] : List va_W)) (List.flatten ([(tX5 p0k), (tX1 p1k)] : List (List (ClassId × FieldType)))) (va_A (List.flatten ([(oX5 (p0a 0) p0a p0k p0w p0l), (oX1 (p1a 0) p1a p1k p1n p1w p1l)] : List va_W)) sz) t) (va_A (List.flatten ([(oX5 (p0a 0) p0a p0k p0w p0l), (oX1 (p1a 0) p1a p1k p1n p1w p1l)] : List va_W)) sz)) 0 0 (va_A (List.flatten ([(oX5 (p0a 0) p0a p0k p0w p0l), (oX1 (p1a 0) p1a p1k p1n p1w p1l)] : List va_W)) sz) := by
  refine Met.ofW (cc := cX5_foldEnd) (maxL := 3) (ret := (Option.some Jvm.ClassFile.FieldType.int)) (by decide) rfl ?_
  intro p e s m args below meth c s₁ B hml hv
  obtain ⟨rfl, hsz, hP, hK, hD0, hE⟩ := hv
  have hx := B.exec
  have hb := B.bytes
  have hr := B.returns
  have hts0 := atoms_spec (ws := wz yX5_foldEnd cX5_foldEnd 3 (Option.some Jvm.ClassFile.FieldType.int)) B.pre
  have hts : ∀ w ∈ gw, w.before _ s = true := fun w h => hts0 w (List.mem_cons_of_mem _ h)
  have hown : s.vm.findClass RX5 = some m.cls := findClass_of_methodNamed B.named
  have hlocks := B.notSynchronized
  subst hsz
  have hD := hD0.self (sz := s.heap.size)
  refine gQ9 ?_
  intro Q hQ
  generalize hAe : va_A (List.flatten ([(oX5 (p0a 0) p0a p0k p0w p0l), (oX1 (p1a 0) p1a p1k p1n p1w p1l)] : List va_W)) s.heap.size = A at hD hE hQ
  have hA : ∀ q : Nat, s.heap.size ≤ q → A q := fun q h => by rw [← hAe]; exact Or.inr h
  have hS : va_S A s.heap s.heap [] := va_S.rf
  have hP : va_P (dC, dI) cls (List.flatten ([(oX5 (p0a 0) p0a p0k p0w p0l), (oX1 (p1a 0) p1a p1k p1n p1w p1l)] : List va_W)) s.heap := hP
  have hl := lv_entry ([.ref (p0a 0), .ref (p1a 0), .int p2]) (n := 3) (Nat.le_of_ble_eq_true rfl)
  rw [lg_entry_eq]
  generalize (lg_sl ([.ref (p0a 0), .ref (p1a 0), .int p2]) ++ List.replicate (3 - (lg_sl ([.ref (p0a 0), .ref (p1a 0), .int p2])).length) Slot.unset).toArray = ls at hl ⊢
  have hl : lv_has ls 3 [(0, .ref (p0a 0)), (1, .ref (p1a 0)), (2, .int p2)] := hl
  obtain ⟨H, hHe⟩ : ∃ H, H = s.heap := ⟨_, rfl⟩
  obtain ⟨locs, hle⟩ : ∃ locs : List Loc, locs = [] := ⟨_, rfl⟩
  rw [← hHe] at hP
  have hS : va_S A s.heap H locs := by rw [hHe, hle]; exact hS
  show W p l e ({ frames := 0, cells := 0, slots := 0, locals := 0 } : Room) s m ([.ref (p0a 0), .ref (p1a 0), .int p2] : List Value).toArray below meth c s.heap [] 0 0 Q (F0 m 0 ls [])
  rw [← hle]
  refine wH9 hHe ?_
  unfold fX5_foldEnd at hrun
  refine lv_aload_n hx hb dX5_foldEnd_0 rfl (lv_at hl 1 rfl) ?_
  refine va_get (D := (dC, dI)) (ci := 4) (v := .ref (p1a 8)) (C := RX1) (T := TX1) (N := 21) hx hb hts i_X1 hown hK hP 10 rfl rfl 7 (by decide) (hts _ qw426) (fun _ h9 => h9) rfl dX5_foldEnd_1 ?_
  refine lv_iload_n hx hb dX5_foldEnd_4 rfl (lv_at hl 2 rfl) ?_
  obtain ⟨hq1, hrun⟩ := chk9 hrun
  refine va_iald hx hb hK hP 15 13 rfl rfl (ixb_in hq1) dX5_foldEnd_5 ?_
  refine lv_bipush (v := 23) hx hb dX5_foldEnd_6 (by decide) ?_
  have J26 : ∀ (H : Heap) (locs : List Loc) (ls : Array Slot), (fX5_foldEnd_J26 p1w) = some o → va_P (dC, dI) cls (List.flatten ([(oX5 (p0a 0) p0a p0k p0w p0l), (oX1 (p1a 0) p1a p1k p1n p1w p1l)] : List va_W)) H → va_D A (List.flatten ([(oX5 (p0a 0) p0a p0k p0w p0l), (oX1 (p1a 0) p1a p1k p1n p1w p1l)] : List va_W)) → va_K (dC, dI) cls (List.flatten ([(tX5 p0k), (tX1 p1k)] : List (List (ClassId × FieldType)))) s → va_S A s.heap H locs → lv_has ls 3 [] → W p l e ({ frames := 0, cells := 0, slots := 0, locals := 0 } : Room) s m ([.ref (p0a 0), .ref (p1a 0), .int p2] : List Value).toArray below meth c H locs 0 0 Q (F0 m 26 ls []) := by
    intro  H locs ls hrun hP hD hK hS hl 
    unfold fX5_foldEnd_J26 at hrun
    refine lv_iconst (v := 0) hx hb dX5_foldEnd_26 (by decide) ?_
    have ho9 : (0, p1w) = o := Option.some.inj hrun
    have hP9 : va_P (dC, dI) cls (List.flatten ([(oX5 (p0a 0) p0a p0k p0w p0l), (oX1 (p1a 0) p1a p1k p1n (o.2) p1l)] : List va_W)) H := by first | exact hP | (rw [← ho9]; exact hP)
    have hD9 : va_D A (List.flatten ([(oX5 (p0a 0) p0a p0k p0w p0l), (oX1 (p1a 0) p1a p1k p1n (o.2) p1l)] : List va_W)) := by first | exact hD | (rw [← ho9]; exact hD)
    subst hQ
    exact W.iret (v := 0) hx hb hr (fun t ht hW => ⟨⟨0, (), rfl, (by rw [← ho9]), ⟨by rw [ht]; exact hP9, va_K.moved hW.alike hK, hD9⟩⟩, hS.F ht⟩) hS.2.2 dX5_foldEnd_27
  rcases br9 hrun with ⟨hc2, hrun⟩ | ⟨hc2, hrun⟩
  · refine lv_icmp_ne (tgt := 26) hx hb dX5_foldEnd_8 (by decide) (fun c => absurd hc2 c) (fun _ => ?_)
    refine lv_aload_n hx hb dX5_foldEnd_11 rfl (lv_at hl 0 rfl) ?_
    refine va_get (D := (dC, dI)) (ci := 7) (v := .ref (p0a 4)) (C := RX5) (T := TX5) (N := 12) hx hb hts i_X5 hown hK hP 0 rfl rfl 3 (by decide) (hts _ qw490) (fun _ h9 => h9) rfl dX5_foldEnd_12 ?_
    refine lv_aload_n hx hb dX5_foldEnd_15 rfl (lv_at hl 1 rfl) ?_
    refine va_get (D := (dC, dI)) (ci := 4) (v := .ref (p1a 9)) (C := RX1) (T := TX1) (N := 21) hx hb hts i_X1 hown hK hP 10 rfl rfl 8 (by decide) (hts _ qw445) (fun _ h9 => h9) rfl dX5_foldEnd_16 ?_
    refine lv_iload_n hx hb dX5_foldEnd_19 rfl (lv_at hl 2 rfl) ?_
    obtain ⟨hq3, hrun⟩ := chk9 hrun
    refine va_iald hx hb hK hP 16 14 rfl rfl (ixb_in hq3) dX5_foldEnd_20 ?_
    obtain ⟨hq4, hrun⟩ := chk9 hrun
    refine va_iald hx hb hK hP 3 2 rfl rfl (ixb_in hq4) dX5_foldEnd_21 ?_
    refine lv_iconst (v := 1) hx hb dX5_foldEnd_22 (by decide) ?_
    rcases br9 hrun with ⟨hc5, hrun⟩ | ⟨hc5, hrun⟩
    · refine lv_icmp_eq (tgt := 28) hx hb dX5_foldEnd_23 (by decide) (fun _ => ?_) (fun c => absurd hc5 c)
      refine lv_aload_n hx hb dX5_foldEnd_28 rfl (lv_at hl 1 rfl) ?_
      refine va_get (D := (dC, dI)) (ci := 4) (v := .ref (p1a 8)) (C := RX1) (T := TX1) (N := 21) hx hb hts i_X1 hown hK hP 10 rfl rfl 7 (by decide) (hts _ qw426) (fun _ h9 => h9) rfl dX5_foldEnd_29 ?_
      refine lv_iload_n hx hb dX5_foldEnd_32 rfl (lv_at hl 2 rfl) ?_
      refine lv_bipush (v := 22) hx hb dX5_foldEnd_33 (by decide) ?_
      obtain ⟨hq6, hrun⟩ := chk9 hrun
      refine va_iast hx hb hK hP hD hS 15 13 rfl rfl (ixb_in hq6) dX5_foldEnd_35 (fun H locs hP hD hS => ?_)
      have hP : va_P (dC, dI) cls (List.flatten ([(oX5 (p0a 0) p0a p0k p0w p0l), (oX1 (p1a 0) p1a p1k p1n (upw p1w 8 (nn p2) 22) p1l)] : List va_W)) H := hP
      have hD : va_D A (List.flatten ([(oX5 (p0a 0) p0a p0k p0w p0l), (oX1 (p1a 0) p1a p1k p1n (upw p1w 8 (nn p2) 22) p1l)] : List va_W)) := hD
      obtain ⟨w7, ew7, hrun⟩ := let9 hrun
      rw [← ew7] at hP hD
      refine lv_aload_n hx hb dX5_foldEnd_36 rfl (lv_at hl 1 rfl) ?_
      refine va_get (D := (dC, dI)) (ci := 4) (v := .ref (p1a 10)) (C := RX1) (T := TX1) (N := 21) hx hb hts i_X1 hown hK hP 10 rfl rfl 9 (by decide) (hts _ qw498) (fun _ h9 => h9) rfl dX5_foldEnd_37 ?_
      refine lv_iload_n hx hb dX5_foldEnd_40 rfl (lv_at hl 2 rfl) ?_
      refine lv_aload_n hx hb dX5_foldEnd_41 rfl (lv_at hl 0 rfl) ?_
      refine va_get (D := (dC, dI)) (ci := 7) (v := .ref (p0a 5)) (C := RX5) (T := TX5) (N := 12) hx hb hts i_X5 hown hK hP 0 rfl rfl 4 (by decide) (hts _ qw491) (fun _ h9 => h9) rfl dX5_foldEnd_42 ?_
      refine lv_aload_n hx hb dX5_foldEnd_45 rfl (lv_at hl 1 rfl) ?_
      refine va_get (D := (dC, dI)) (ci := 4) (v := .ref (p1a 9)) (C := RX1) (T := TX1) (N := 21) hx hb hts i_X1 hown hK hP 10 rfl rfl 8 (by decide) (hts _ qw445) (fun _ h9 => h9) rfl dX5_foldEnd_46 ?_
      refine lv_iload_n hx hb dX5_foldEnd_49 rfl (lv_at hl 2 rfl) ?_
      obtain ⟨hq8, hrun⟩ := chk9 hrun
      refine va_iald hx hb hK hP 16 14 rfl rfl (ixb_in hq8) dX5_foldEnd_50 ?_
      obtain ⟨hq9, hrun⟩ := chk9 hrun
      refine va_iald hx hb hK hP 4 3 rfl rfl (ixb_in hq9) dX5_foldEnd_51 ?_
      have J70 : ∀ (y0_70 : Int32) (H : Heap) (locs : List Loc) (ls : Array Slot), (fX5_foldEnd_J70 p2 w7 y0_70) = some o → va_P (dC, dI) cls (List.flatten ([(oX5 (p0a 0) p0a p0k p0w p0l), (oX1 (p1a 0) p1a p1k p1n w7 p1l)] : List va_W)) H → va_D A (List.flatten ([(oX5 (p0a 0) p0a p0k p0w p0l), (oX1 (p1a 0) p1a p1k p1n w7 p1l)] : List va_W)) → va_K (dC, dI) cls (List.flatten ([(tX5 p0k), (tX1 p1k)] : List (List (ClassId × FieldType)))) s → va_S A s.heap H locs → lv_has ls 3 [(1, .ref (p1a 0)), (2, .int p2)] → W p l e ({ frames := 0, cells := 0, slots := 0, locals := 0 } : Room) s m ([.ref (p0a 0), .ref (p1a 0), .int p2] : List Value).toArray below meth c H locs 0 0 Q (F0 m 70 ls [.int y0_70, .int p2, .ref (p1a 10)]) := by
        intro y0_70 H locs ls hrun hP hD hK hS hl 
        unfold fX5_foldEnd_J70 at hrun
        obtain ⟨hq10, hrun⟩ := chk9 hrun
        refine va_iast hx hb hK hP hD hS 17 15 rfl rfl (ixb_in hq10) dX5_foldEnd_70 (fun H locs hP hD hS => ?_)
        have hP : va_P (dC, dI) cls (List.flatten ([(oX5 (p0a 0) p0a p0k p0w p0l), (oX1 (p1a 0) p1a p1k p1n (upw w7 10 (nn p2) y0_70) p1l)] : List va_W)) H := hP
        have hD : va_D A (List.flatten ([(oX5 (p0a 0) p0a p0k p0w p0l), (oX1 (p1a 0) p1a p1k p1n (upw w7 10 (nn p2) y0_70) p1l)] : List va_W)) := hD
        obtain ⟨w11, ew11, hrun⟩ := let9 hrun
        rw [← ew11] at hP hD
        refine lv_aload_n hx hb dX5_foldEnd_71 rfl (lv_at hl 0 rfl) ?_
        refine va_get (D := (dC, dI)) (ci := 4) (v := .ref (p1a 11)) (C := RX1) (T := TX1) (N := 21) hx hb hts i_X1 hown hK hP 10 rfl rfl 10 (by decide) (hts _ qw499) (fun _ h9 => h9) rfl dX5_foldEnd_72 ?_
        refine lv_iload_n hx hb dX5_foldEnd_75 rfl (lv_at hl 1 rfl) ?_
        refine lv_iconst (v := (-1)) hx hb dX5_foldEnd_76 (by decide) ?_
        obtain ⟨hq12, hrun⟩ := chk9 hrun
        refine va_iast hx hb hK hP hD hS 18 16 rfl rfl (ixb_in hq12) dX5_foldEnd_77 (fun H locs hP hD hS => ?_)
        have hP : va_P (dC, dI) cls (List.flatten ([(oX5 (p0a 0) p0a p0k p0w p0l), (oX1 (p1a 0) p1a p1k p1n (upw w11 11 (nn p2) (-1)) p1l)] : List va_W)) H := hP
        have hD : va_D A (List.flatten ([(oX5 (p0a 0) p0a p0k p0w p0l), (oX1 (p1a 0) p1a p1k p1n (upw w11 11 (nn p2) (-1)) p1l)] : List va_W)) := hD
        obtain ⟨w13, ew13, hrun⟩ := let9 hrun
        rw [← ew13] at hP hD
        refine lv_aload_n hx hb dX5_foldEnd_78 rfl (lv_at hl 0 rfl) ?_
        refine va_get (D := (dC, dI)) (ci := 4) (v := .ref (p1a 9)) (C := RX1) (T := TX1) (N := 21) hx hb hts i_X1 hown hK hP 10 rfl rfl 8 (by decide) (hts _ qw445) (fun _ h9 => h9) rfl dX5_foldEnd_79 ?_
        refine lv_iload_n hx hb dX5_foldEnd_82 rfl (lv_at hl 1 rfl) ?_
        refine lv_iconst (v := (-1)) hx hb dX5_foldEnd_83 (by decide) ?_
        obtain ⟨hq14, hrun⟩ := chk9 hrun
        refine va_iast hx hb hK hP hD hS 16 14 rfl rfl (ixb_in hq14) dX5_foldEnd_84 (fun H locs hP hD hS => ?_)
        have hP : va_P (dC, dI) cls (List.flatten ([(oX5 (p0a 0) p0a p0k p0w p0l), (oX1 (p1a 0) p1a p1k p1n (upw w13 9 (nn p2) (-1)) p1l)] : List va_W)) H := hP
        have hD : va_D A (List.flatten ([(oX5 (p0a 0) p0a p0k p0w p0l), (oX1 (p1a 0) p1a p1k p1n (upw w13 9 (nn p2) (-1)) p1l)] : List va_W)) := hD
        obtain ⟨w15, ew15, hrun⟩ := let9 hrun
        rw [← ew15] at hP hD
        refine lv_iconst (v := 1) hx hb dX5_foldEnd_85 (by decide) ?_
        have ho9 : (1, w15) = o := Option.some.inj hrun
        have hP9 : va_P (dC, dI) cls (List.flatten ([(oX5 (p0a 0) p0a p0k p0w p0l), (oX1 (p1a 0) p1a p1k p1n (o.2) p1l)] : List va_W)) H := by first | exact hP | (rw [← ho9]; exact hP)
        have hD9 : va_D A (List.flatten ([(oX5 (p0a 0) p0a p0k p0w p0l), (oX1 (p1a 0) p1a p1k p1n (o.2) p1l)] : List va_W)) := by first | exact hD | (rw [← ho9]; exact hD)
        subst hQ
        exact W.iret (v := 1) hx hb hr (fun t ht hW => ⟨⟨1, (), rfl, (by rw [← ho9]), ⟨by rw [ht]; exact hP9, va_K.moved hW.alike hK, hD9⟩⟩, hS.F ht⟩) hS.2.2 dX5_foldEnd_86
      rcases br9 hrun with ⟨hc16, hrun⟩ | ⟨hc16, hrun⟩
      · refine lv_if_eq (tgt := 64) hx hb dX5_foldEnd_52 (by decide) (fun _ => ?_) (fun c => absurd hc16 c)
        refine lv_aload_n hx hb dX5_foldEnd_64 rfl (lv_at hl 1 rfl) ?_
        refine va_get (D := (dC, dI)) (ci := 4) (v := .ref (p1a 11)) (C := RX1) (T := TX1) (N := 21) hx hb hts i_X1 hown hK hP 10 rfl rfl 10 (by decide) (hts _ qw499) (fun _ h9 => h9) rfl dX5_foldEnd_65 ?_
        refine lv_iload_n hx hb dX5_foldEnd_68 rfl (lv_at hl 2 rfl) ?_
        obtain ⟨hq17, hrun⟩ := chk9 hrun
        refine va_iald hx hb hK hP 18 16 rfl rfl (ixb_in hq17) dX5_foldEnd_69 ?_
        exact J70 (w7 11 (nn p2)) _ _ _ hrun hP hD hK hS (lv_sub hl [1, 2] rfl)
      · refine lv_if_eq (tgt := 64) hx hb dX5_foldEnd_52 (by decide) (fun c => absurd c hc16) (fun _ => ?_)
        refine lv_aload_n hx hb dX5_foldEnd_55 rfl (lv_at hl 1 rfl) ?_
        refine va_get (D := (dC, dI)) (ci := 4) (v := .ref (p1a 10)) (C := RX1) (T := TX1) (N := 21) hx hb hts i_X1 hown hK hP 10 rfl rfl 9 (by decide) (hts _ qw498) (fun _ h9 => h9) rfl dX5_foldEnd_56 ?_
        refine lv_iload_n hx hb dX5_foldEnd_59 rfl (lv_at hl 2 rfl) ?_
        obtain ⟨hq18, hrun⟩ := chk9 hrun
        refine va_iald hx hb hK hP 17 15 rfl rfl (ixb_in hq18) dX5_foldEnd_60 ?_
        refine lv_goto (tgt := 70) hx hb dX5_foldEnd_61 (by decide) ?_
        exact J70 (w7 10 (nn p2)) _ _ _ hrun hP hD hK hS (lv_sub hl [1, 2] rfl)
    · refine lv_icmp_eq (tgt := 28) hx hb dX5_foldEnd_23 (by decide) (fun c => absurd c hc5) (fun _ => ?_)
      exact J26 _ _ _ hrun hP hD hK hS (lv_sub hl [] rfl)
  · refine lv_icmp_ne (tgt := 26) hx hb dX5_foldEnd_8 (by decide) (fun _ => ?_) (fun c => absurd c hc2)
    exact J26 _ _ _ hrun hP hD hK hS (lv_sub hl [] rfl)
def fX5_foldBlock_J80 (kk16 : Int32 → Int32 → ST → ST → (Nat → Nat) → Option (Int32 × ST × ST × (Nat → Nat))) (v6_16 : Int32) (p1w_16 : ST) (v3_80 : Int32) (p1w_80 : ST) (p1_2w_80 : ST) (p1_2n_80 : Nat → Nat) : Option (Int32 × ST × ST × (Nat → Nat)) := (kk16 v3_80 (p1w_16 20 (nn v6_16)) p1w_80 p1_2w_80 p1_2n_80)
theorem mo_fX5_foldBlock_J80 {kk16 : Int32 → Int32 → ST → ST → (Nat → Nat) → Option (Int32 × ST × ST × (Nat → Nat))} {v6_16 : Int32} {p1w_16 : ST} {v3_80 : Int32} {p1w_80 : ST} {p1_2w_80 : ST} {p1_2n_80 : Nat → Nat} {o9q : Int32 × ST × ST × (Nat → Nat)} (hkk : ∀ (v3_16q : Int32) (v6_16q : Int32) (p1w_16q : ST) (p1_2w_16q : ST) (p1_2n_16q : Nat → Nat) (r9 : Int32 × ST × ST × (Nat → Nat)), kk16 v3_16q v6_16q p1w_16q p1_2w_16q p1_2n_16q = some r9 → glX9 p1_2n_16q (r9.2.2.2)) (hrun : fX5_foldBlock_J80 kk16 v6_16 p1w_16 v3_80 p1w_80 p1_2w_80 p1_2n_80 = some o9q) : glX9 p1_2n_80 (o9q.2.2.2) := by
  unfold fX5_foldBlock_J80 at hrun
  exact (hkk _ _ _ _ _ _ hrun)
def fX5_foldBlock_G66_23 (kk16 : Int32 → Int32 → ST → ST → (Nat → Nat) → Option (Int32 × ST × ST × (Nat → Nat))) (v3_16 : Int32) (v6_16 : Int32) (p1w_16 : ST) (o_11 : Int32 × ST × ST × (Nat → Nat)) : Option (Int32 × ST × ST × (Nat → Nat)) := (fX5_foldBlock_J80 kk16 v6_16 p1w_16 (v3_16 + 1) (o_11.2.1) (o_11.2.2.1) (o_11.2.2.2))
theorem mo_fX5_foldBlock_G66_23 {kk16 : Int32 → Int32 → ST → ST → (Nat → Nat) → Option (Int32 × ST × ST × (Nat → Nat))} {v3_16 : Int32} {v6_16 : Int32} {p1w_16 : ST} {o_11 : Int32 × ST × ST × (Nat → Nat)} {o9q : Int32 × ST × ST × (Nat → Nat)} (hkk : ∀ (v3_16q : Int32) (v6_16q : Int32) (p1w_16q : ST) (p1_2w_16q : ST) (p1_2n_16q : Nat → Nat) (r9 : Int32 × ST × ST × (Nat → Nat)), kk16 v3_16q v6_16q p1w_16q p1_2w_16q p1_2n_16q = some r9 → glX9 p1_2n_16q (r9.2.2.2)) (hrun : fX5_foldBlock_G66_23 kk16 v3_16 v6_16 p1w_16 o_11 = some o9q) : glX9 (o_11.2.2.2) (o9q.2.2.2) := by
  unfold fX5_foldBlock_G66_23 at hrun
  exact (mo_fX5_foldBlock_J80 hkk hrun)
def fX5_foldBlock_L16 (p0w : ST) (p1n : Nat → Nat) (p2 : Int32) : Nat → Int32 → Int32 → ST → ST → (Nat → Nat) → Option (Int32 × ST × ST × (Nat → Nat))
  | 0 => fun _ _ _ _ _ => none
  | n_16 + 1 => fun v3_16 v6_16 p1w_16 p1_2w_16 p1_2n_16 => (if v6_16 < 0 then some (v3_16, p1w_16, p1_2w_16, p1_2n_16) else (if ixb v6_16 (p1n 20) = true then (if ixb v6_16 (p1n 19) = true then (if ixb (p1w_16 19 (nn v6_16)) 250 = true then (if (p0w 4 (nn (p1w_16 19 (nn v6_16)))) = 1 then (if ixb (p1w_16 19 (nn v6_16)) 250 = true then ((fX1_addStep p1w_16 p2 0 (p1w_16 19 (nn v6_16)) (p0w 5 (nn (p1w_16 19 (nn v6_16)))) (-1) p1_2n_16 p1_2w_16).bind fun (o_11 : Int32 × ST × ST × (Nat → Nat)) => (fX5_foldBlock_G66_23 (fX5_foldBlock_L16 p0w p1n p2 n_16) v3_16 v6_16 p1w_16 o_11)) else none) else ((fX1_linkPhi p1n p1w_16 p2 v6_16).bind fun (o_24 : ST) => (fX5_foldBlock_J80 (fX5_foldBlock_L16 p0w p1n p2 n_16) v6_16 p1w_16 v3_16 o_24 p1_2w_16 p1_2n_16))) else none) else none) else none))
theorem mo_fX5_foldBlock_L16 {p0w : ST} {p1n : Nat → Nat} {p2 : Int32} : ∀ (n_16 : Nat) (v3_16 : Int32) (v6_16 : Int32) (p1w_16 : ST) (p1_2w_16 : ST) (p1_2n_16 : Nat → Nat) (o9q : Int32 × ST × ST × (Nat → Nat)), (fX5_foldBlock_L16 p0w p1n p2 n_16) v3_16 v6_16 p1w_16 p1_2w_16 p1_2n_16 = some o9q → glX9 p1_2n_16 (o9q.2.2.2) := by
  intro n_16
  induction n_16 with
  | zero => intro v3_16 v6_16 p1w_16 p1_2w_16 p1_2n_16 o9q hrun; exact (no9 rfl hrun).elim
  | succ n_16 ih9 =>
    intro v3_16 v6_16 p1w_16 p1_2w_16 p1_2n_16 o9q hrun
    unfold fX5_foldBlock_L16 at hrun
    rcases br9 hrun with ⟨hc5, hrun⟩ | ⟨hc5, hrun⟩
    · skip
      obtain rfl := (Option.some.inj hrun)
      exact (glX9_rf _)
    · skip
      obtain ⟨hq6, hrun⟩ := chk9 hrun
      obtain ⟨hq7, hrun⟩ := chk9 hrun
      obtain ⟨hq8, hrun⟩ := chk9 hrun
      rcases br9 hrun with ⟨hc9, hrun⟩ | ⟨hc9, hrun⟩
      · skip
        obtain ⟨hq10, hrun⟩ := chk9 hrun
        obtain ⟨o_11, hc_11, hrun⟩ := bnd9 hrun
        exact (glX9_tr (mo_fX1_addStep hc_11) (mo_fX5_foldBlock_G66_23 ih9 hrun))
      · skip
        obtain ⟨o_24, hc_24, hrun⟩ := bnd9 hrun
        exact (mo_fX5_foldBlock_J80 ih9 hrun)
def fX5_foldBlock_J170 (kk91 : Int32 → Int32 → ST → ST → Option (Int32 × ST × ST)) (p2 : Int32) (o16 : Int32 × ST × ST × (Nat → Nat)) (v6_91 : Int32) (p1w_91 : ST) (p1_2w_91 : ST) (v3_170 : Int32) (p1_2w_170 : ST) : Option (Int32 × ST × ST) := ((fX1_link p1w_91 p2 v6_91 (o16.2.2.2) p1_2w_170).bind fun (o_31 : ST × ST) => (kk91 v3_170 (p1_2w_91 6 (nn v6_91)) (o_31.1) (o_31.2)))
def fX5_foldBlock_L91 (p0w : ST) (p2 : Int32) (o16 : Int32 × ST × ST × (Nat → Nat)) : Nat → Int32 → Int32 → ST → ST → Option (Int32 × ST × ST)
  | 0 => fun _ _ _ _ => none
  | n_91 + 1 => fun v3_91 v6_91 p1w_91 p1_2w_91 => (if v6_91 < 0 then some (v3_91, p1w_91, p1_2w_91) else (if ixb v6_91 ((o16.2.2.2) 6) = true then (if ixb v6_91 ((o16.2.2.2) 2) = true then ((fX11_isOperator (p1_2w_91 2 (nn v6_91))).bind fun (o_29 : Int32) => (if o_29 = 0 then (fX5_foldBlock_J170 (fX5_foldBlock_L91 p0w p2 o16 n_91) p2 o16 v6_91 p1w_91 p1_2w_91 v3_91 p1_2w_91) else (if ixb v6_91 ((o16.2.2.2) 3) = true then (if ixb (p1_2w_91 3 (nn v6_91)) 250 = true then (if (p0w 4 (nn (p1_2w_91 3 (nn v6_91)))) = 1 then (if ixb v6_91 ((o16.2.2.2) 3) = true then (if ixb (p1_2w_91 3 (nn v6_91)) 250 = true then ((fX5_becomeNumber (o16.2.2.2) p1_2w_91 v6_91 (p0w 5 (nn (p1_2w_91 3 (nn v6_91))))).bind fun (o_38 : ST) => (fX5_foldBlock_J170 (fX5_foldBlock_L91 p0w p2 o16 n_91) p2 o16 v6_91 p1w_91 p1_2w_91 (v3_91 + 1) o_38)) else none) else none) else (fX5_foldBlock_J170 (fX5_foldBlock_L91 p0w p2 o16 n_91) p2 o16 v6_91 p1w_91 p1_2w_91 v3_91 p1_2w_91)) else none) else none))) else none) else none))
def fX5_foldBlock_G87_25 (p0w : ST) (p2 : Int32) (o_1 : Int32 × ST) (o16 : Int32 × ST × ST × (Nat → Nat)) : Option (Int32 × ST × ST × (Nat → Nat)) := ((fX5_foldBlock_L91 p0w p2 o16 NF (o16.1) (o_1.1) (o16.2.1) (o16.2.2.1)).bind fun (o91 : Int32 × ST × ST) => ((fX5_foldEnd p0w (o91.2.1) p2).bind fun (o_39 : Int32 × ST) => some (((o91.1) + (o_39.1)), (o_39.2), (o91.2.2), (o16.2.2.2))))
theorem mo_fX5_foldBlock_G87_25 {p0w : ST} {p2 : Int32} {o_1 : Int32 × ST} {o16 : Int32 × ST × ST × (Nat → Nat)} {o9q : Int32 × ST × ST × (Nat → Nat)} (hrun : fX5_foldBlock_G87_25 p0w p2 o_1 o16 = some o9q) : glX9 (o16.2.2.2) (o9q.2.2.2) := by
  unfold fX5_foldBlock_G87_25 at hrun
  obtain ⟨o91, hc91, hrun⟩ := bnd9 hrun
  obtain ⟨o_39, hc_39, hrun⟩ := bnd9 hrun
  obtain rfl := (Option.some.inj hrun)
  exact (glX9_rf _)
def fX5_foldBlock (p0w : ST) (p1n : Nat → Nat) (p1w : ST) (p2 : Int32) (p1_2n : Nat → Nat) (p1_2w : ST) : Option (Int32 × ST × ST × (Nat → Nat)) := ((fX1_takeSteps p1w p2).bind fun (o_1 : Int32 × ST) => ((fX1_takePhis (o_1.2) p2).bind fun (o_3 : Int32 × ST) => ((fX5_foldBlock_L16 p0w p1n p2 NF 0 (o_3.1) (o_3.2) p1_2w p1_2n).bind fun (o16 : Int32 × ST × ST × (Nat → Nat)) => (fX5_foldBlock_G87_25 p0w p2 o_1 o16))))
theorem mo_fX5_foldBlock {p0w : ST} {p1n : Nat → Nat} {p1w : ST} {p2 : Int32} {p1_2n : Nat → Nat} {p1_2w : ST} {o9q : Int32 × ST × ST × (Nat → Nat)} (hrun : fX5_foldBlock p0w p1n p1w p2 p1_2n p1_2w = some o9q) : glX9 p1_2n (o9q.2.2.2) := by
  unfold fX5_foldBlock at hrun
  obtain ⟨o_1, hc_1, hrun⟩ := bnd9 hrun
  obtain ⟨o_3, hc_3, hrun⟩ := bnd9 hrun
  obtain ⟨o16, hc16, hrun⟩ := bnd9 hrun
  exact (glX9_tr (mo_fX5_foldBlock_L16 _ _ _ _ _ _ _ hc16) (mo_fX5_foldBlock_G87_25 hrun))
set_option maxHeartbeats 16000000 in
set_option maxRecDepth 100000 in
theorem kX5_foldBlock {zs : ZS} (l : Launch) (dC : Nat → ClassId) (dI : Nat → Nat → Nat) (p0a : Nat → Nat) (p0k : Nat → ClassId) (p0w : ST) (p0l : SL) (p1a : Nat → Nat) (p1k : Nat → ClassId) (p1n : Nat → Nat) (p1w : ST) (p1l : SL) (p2 : Int32) (p1_2a : Nat → Nat) (p1_2k : Nat → ClassId) (p1_2n : Nat → Nat) (p1_2w : ST) (sz : Nat) (o : Int32 × ST × ST × (Nat → Nat)) (hrun : fX5_foldBlock p0w p1n p1w p2 p1_2n p1_2w = some o) : Met l yX5_foldBlock (wz yX5_foldBlock cX5_foldBlock 8 (Option.some Jvm.ClassFile.FieldType.int)) ({ frames := 4, cells := (hcX9 p1_2n (o.2.2.2)), slots := (3 * (gcX9 p1_2n (o.2.2.2))), locals := 113 } : Room) (va_Pc [.ref (p0a 0), .ref (p1a 0), .int p2] (PRE zs dC dI (List.flatten ([(oX5 (p0a 0) p0a p0k p0w p0l), (oX1 (p1a 0) p1a p1k p1n p1w p1l), (oX9 (p1a 3) p1_2a p1_2k p1_2n p1_2w)] : List va_W)) (List.flatten ([(tX5 p0k), (tX1 p1k), (tX9 p1_2k)] : List (List (ClassId × FieldType)))) sz)) (va_Qi (fun (r : Int32) (_ : Unit) => r = (o.1)) (fun _ t => ∃ (xp1_2_1_z : Nat), ∃ (zp1_2_1_z : ClassId), ∃ (xp1_2_2_z : Nat), ∃ (zp1_2_2_z : ClassId), ∃ (xp1_2_3_z : Nat), ∃ (zp1_2_3_z : ClassId), ∃ (xp1_2_4_z : Nat), ∃ (zp1_2_4_z : ClassId), ∃ (xp1_2_5_z : Nat), ∃ (zp1_2_5_z : ClassId), POST dC dI (List.flatten ([(oX5 (p0a 0) p0a p0k p0w p0l), (oX1 (p1a 0) p1a p1k p1n (o.2.1) p1l), (oX9 (p1a 3) (st1 (st1 (st1 (st1 (st1 p1_2a 2 xp1_2_1_z) 3 xp1_2_2_z) 4 xp1_2_3_z) 5 xp1_2_4_z) 6 xp1_2_5_z) (st1 (st1 (st1 (st1 (st1 p1_2k 2 zp1_2_1_z) 3 zp1_2_2_z) 4 zp1_2_3_z) 5 zp1_2_4_z) 6 zp1_2_5_z) (o.2.2.2) (o.2.2.1))] : List va_W)) (List.flatten ([(tX5 p0k), (tX1 p1k), (tX9 (st1 (st1 (st1 (st1 (st1 p1_2k 2 zp1_2_1_z) 3 zp1_2_2_z) 4 zp1_2_3_z) 5 zp1_2_4_z) 6 zp1_2_5_z))] : List (List (ClassId × FieldType)))) (va_A (List.flatten ([(oX5 (p0a 0) p0a p0k p0w p0l), (oX1 (p1a 0) p1a p1k p1n p1w p1l), (oX9 (p1a 3) p1_2a p1_2k p1_2n p1_2w)] : List va_W)) sz) t) (va_A (List.flatten ([(oX5 (p0a 0) p0a p0k p0w p0l), (oX1 (p1a 0) p1a p1k p1n p1w p1l), (oX9 (p1a 3) p1_2a p1_2k p1_2n p1_2w)] : List va_W)) sz)) (hcX9 p1_2n (o.2.2.2)) (3 * (gcX9 p1_2n (o.2.2.2))) (va_A (List.flatten ([(oX5 (p0a 0) p0a p0k p0w p0l), (oX1 (p1a 0) p1a p1k p1n p1w p1l), (oX9 (p1a 3) p1_2a p1_2k p1_2n p1_2w)] : List va_W)) sz) := by
  refine Met.ofW (cc := cX5_foldBlock) (maxL := 8) (ret := (Option.some Jvm.ClassFile.FieldType.int)) (by decide) rfl ?_
  intro p e s m args below meth c s₁ B hml hv
  obtain ⟨rfl, hsz, hP, hK, hD0, hE⟩ := hv
  have hx := B.exec
  have hb := B.bytes
  have hr := B.returns
  have hts0 := atoms_spec (ws := wz yX5_foldBlock cX5_foldBlock 8 (Option.some Jvm.ClassFile.FieldType.int)) B.pre
  have hts : ∀ w ∈ gw, w.before _ s = true := fun w h => hts0 w (List.mem_cons_of_mem _ h)
  have hown : s.vm.findClass RX5 = some m.cls := findClass_of_methodNamed B.named
  have hlocks := B.notSynchronized
  subst hsz
  have hD := hD0.self (sz := s.heap.size)
  refine gQ9 ?_
  intro Q hQ
  generalize hAe : va_A (List.flatten ([(oX5 (p0a 0) p0a p0k p0w p0l), (oX1 (p1a 0) p1a p1k p1n p1w p1l), (oX9 (p1a 3) p1_2a p1_2k p1_2n p1_2w)] : List va_W)) s.heap.size = A at hD hE hQ
  have hA : ∀ q : Nat, s.heap.size ≤ q → A q := fun q h => by rw [← hAe]; exact Or.inr h
  have hS : va_S A s.heap s.heap [] := va_S.rf
  have hP : va_P (dC, dI) cls (List.flatten ([(oX5 (p0a 0) p0a p0k p0w p0l), (oX1 (p1a 0) p1a p1k p1n p1w p1l), (oX9 (p1a 3) p1_2a p1_2k p1_2n p1_2w)] : List va_W)) s.heap := hP
  have hl := lv_entry ([.ref (p0a 0), .ref (p1a 0), .int p2]) (n := 8) (Nat.le_of_ble_eq_true rfl)
  rw [lg_entry_eq]
  generalize (lg_sl ([.ref (p0a 0), .ref (p1a 0), .int p2]) ++ List.replicate (8 - (lg_sl ([.ref (p0a 0), .ref (p1a 0), .int p2])).length) Slot.unset).toArray = ls at hl ⊢
  have hl : lv_has ls 8 [(0, .ref (p0a 0)), (1, .ref (p1a 0)), (2, .int p2)] := hl
  obtain ⟨H, hHe⟩ : ∃ H, H = s.heap := ⟨_, rfl⟩
  obtain ⟨locs, hle⟩ : ∃ locs : List Loc, locs = [] := ⟨_, rfl⟩
  rw [← hHe] at hP
  have hS : va_S A s.heap H locs := by rw [hHe, hle]; exact hS
  show W p l e ({ frames := 4, cells := (hcX9 p1_2n (o.2.2.2)), slots := (3 * (gcX9 p1_2n (o.2.2.2))), locals := 113 } : Room) s m ([.ref (p0a 0), .ref (p1a 0), .int p2] : List Value).toArray below meth c s.heap [] 0 0 Q (F0 m 0 ls [])
  rw [← hle]
  refine wH9 hHe ?_
  have hg_p1_2 := glX9_rf p1_2n
  have hgn_p1_2 : glX9 p1_2n (o.2.2.2) := (mo_fX5_foldBlock hrun)
  refine W.widen (k := (hcX9 p1_2n p1_2n)) (n := (3 * (gcX9 p1_2n p1_2n))) (Nat.zero_le _) (Nat.zero_le _) ?_
  unfold fX5_foldBlock at hrun
  refine lv_iconst (v := 0) hx hb dX5_foldBlock_0 (by decide) ?_
  refine lv_istore_n (lv' := [(3, .int 0), (0, .ref (p0a 0)), (1, .ref (p1a 0)), (2, .int p2)]) hx hb dX5_foldBlock_1 rfl hl (by decide) rfl (fun ls hl => ?_)
  refine lv_aload_n hx hb dX5_foldBlock_2 rfl (lv_at hl 2 rfl) ?_
  refine lv_iload_n hx hb dX5_foldBlock_3 rfl (lv_at hl 3 rfl) ?_
  obtain ⟨o_1, hc_1, hrun⟩ := bnd9 hrun
  have hPx : va_P (dC, dI) cls ((List.flatten ([(oX1 (p1a 0) p1a p1k p1n p1w p1l)] : List va_W)) ++ (List.flatten ([(oX5 (p0a 0) p0a p0k p0w p0l), (oX9 (p1a 3) p1_2a p1_2k p1_2n p1_2w)] : List va_W))) H := vP_fa (vP_perm hP (bP ((((List.Perm.refl _)).cons _).trans (List.Perm.swap _ _ _))))
  have hDx : va_D A ((List.flatten ([(oX1 (p1a 0) p1a p1k p1n p1w p1l)] : List va_W)) ++ (List.flatten ([(oX5 (p0a 0) p0a p0k p0w p0l), (oX9 (p1a 3) p1_2a p1_2k p1_2n p1_2w)] : List va_W))) := vD_fa (vD_perm hD (bP ((((List.Perm.refl _)).cons _).trans (List.Perm.swap _ _ _))))
  have hKx : va_K (dC, dI) cls ((List.flatten ([(tX1 p1k)] : List (List (ClassId × FieldType)))) ++ (List.flatten ([(tX5 p0k), (tX9 p1_2k)] : List (List (ClassId × FieldType))))) s := vK_fa (vK_perm hK (bP ((((List.Perm.refl _)).cons _).trans (List.Perm.swap _ _ _))))
  have hPc := vP_l hPx
  have hDc := vD_l hDx
  have hKc := vK_l hKx
  have hFc := vfree hDx hS hA
  refine va_calli (va_runV (As := [.int p2]) (rest := []) ⟨hx, hb, hml, hown, hts⟩ (kX1_takeSteps l dC dI (p0a := p1a) (p0k := p1k) (p0n := p1n) (p0w := p1w) (p0l := p1l) (p1 := p2) (sz := _) (o := o_1) (hrun := hc_1)) (cwV 1 hts (gi_V qw488 qw179 qw180 qw126 (gi_z qw177)) rfl rfl rfl (by decide +kernel) ⟨Nat.le_of_ble_eq_true rfl, Nat.le_of_ble_eq_true rfl⟩) ⟨PRE.blind, va_recv hKc hPc (ci := 4) (q0 := 0) rfl rfl, PRE.of hE hS hFc hPc hKc hDc⟩ rfl rfl hl.1 rfl (lv_room (Nat.le_of_ble_eq_true rfl)) dX5_foldBlock_4 ⟨(show (hcX9 p1_2n p1_2n) + 0 ≤ (hcX9 p1_2n (o.2.2.2)) from by have q0 := gmX9 hg_p1_2 hgn_p1_2; omega), (show (3 * (gcX9 p1_2n p1_2n)) + 0 ≤ (3 * (gcX9 p1_2n (o.2.2.2))) from by have q0 := gmX9 hg_p1_2 hgn_p1_2; omega)⟩) hS (fun q _ h => hFc q h) hFc (fun r2 u t H locs ht hvm hw hB hz1 hk1 hS => ?_)
  obtain ⟨b1, b2, b3⟩ := hB
  rw [ht] at b1
  obtain ⟨hP, hD, hK⟩ := JOINC (wc := (List.flatten ([(oX1 (p1a 0) p1a p1k p1n p1w p1l)] : List va_W))) (wr := (List.flatten ([(oX5 (p0a 0) p0a p0k p0w p0l), (oX9 (p1a 3) p1_2a p1_2k p1_2n p1_2w)] : List va_W))) (w1 := (List.flatten ([(oX1 (p1a 0) p1a p1k p1n (o_1.2) p1l)] : List va_W))) (t1 := (List.flatten ([(tX1 p1k)] : List (List (ClassId × FieldType))))) hPx hDx hKx hk1 hFc b1 (va_K.moved hvm.symm b2) b3
  have hP : va_P (dC, dI) cls (List.flatten ([(oX5 (p0a 0) p0a p0k p0w p0l), (oX1 (p1a 0) p1a p1k p1n (o_1.2) p1l), (oX9 (p1a 3) p1_2a p1_2k p1_2n p1_2w)] : List va_W)) H := vP_perm (vP_fb hP) (bP ((((List.Perm.refl _)).cons _).trans (List.Perm.swap _ _ _)))
  have hD : va_D A (List.flatten ([(oX5 (p0a 0) p0a p0k p0w p0l), (oX1 (p1a 0) p1a p1k p1n (o_1.2) p1l), (oX9 (p1a 3) p1_2a p1_2k p1_2n p1_2w)] : List va_W)) := vD_perm (vD_fb hD) (bP ((((List.Perm.refl _)).cons _).trans (List.Perm.swap _ _ _)))
  have hK : va_K (dC, dI) cls (List.flatten ([(tX5 p0k), (tX1 p1k), (tX9 p1_2k)] : List (List (ClassId × FieldType)))) s := vK_perm (vK_fb hK) (bP ((((List.Perm.refl _)).cons _).trans (List.Perm.swap _ _ _)))
  obtain rfl : r2 = (o_1.1) := hw
  refine lv_istore (lv' := [(5, .int (o_1.1)), (3, .int 0), (0, .ref (p0a 0)), (1, .ref (p1a 0)), (2, .int p2)]) hx hb dX5_foldBlock_7 hl (by decide) rfl (fun ls hl => ?_)
  refine lv_aload_n hx hb dX5_foldBlock_9 rfl (lv_at hl 3 rfl) ?_
  refine lv_iload_n hx hb dX5_foldBlock_10 rfl (lv_at hl 4 rfl) ?_
  obtain ⟨o_3, hc_3, hrun⟩ := bnd9 hrun
  have hPx : va_P (dC, dI) cls ((List.flatten ([(oX1 (p1a 0) p1a p1k p1n (o_1.2) p1l)] : List va_W)) ++ (List.flatten ([(oX5 (p0a 0) p0a p0k p0w p0l), (oX9 (p1a 3) p1_2a p1_2k p1_2n p1_2w)] : List va_W))) H := vP_fa (vP_perm hP (bP ((((List.Perm.refl _)).cons _).trans (List.Perm.swap _ _ _))))
  have hDx : va_D A ((List.flatten ([(oX1 (p1a 0) p1a p1k p1n (o_1.2) p1l)] : List va_W)) ++ (List.flatten ([(oX5 (p0a 0) p0a p0k p0w p0l), (oX9 (p1a 3) p1_2a p1_2k p1_2n p1_2w)] : List va_W))) := vD_fa (vD_perm hD (bP ((((List.Perm.refl _)).cons _).trans (List.Perm.swap _ _ _))))
  have hKx : va_K (dC, dI) cls ((List.flatten ([(tX1 p1k)] : List (List (ClassId × FieldType)))) ++ (List.flatten ([(tX5 p0k), (tX9 p1_2k)] : List (List (ClassId × FieldType))))) s := vK_fa (vK_perm hK (bP ((((List.Perm.refl _)).cons _).trans (List.Perm.swap _ _ _))))
  have hPc := vP_l hPx
  have hDc := vD_l hDx
  have hKc := vK_l hKx
  have hFc := vfree hDx hS hA
  refine va_calli (va_runV (As := [.int p2]) (rest := []) ⟨hx, hb, hml, hown, hts⟩ (kX1_takePhis l dC dI (p0a := p1a) (p0k := p1k) (p0n := p1n) (p0w := (o_1.2)) (p0l := p1l) (p1 := p2) (sz := _) (o := o_3) (hrun := hc_3)) (cwV 1 hts (gi_V qw489 qw175 qw176 qw126 (gi_z qw173)) rfl rfl rfl (by decide +kernel) ⟨Nat.le_of_ble_eq_true rfl, Nat.le_of_ble_eq_true rfl⟩) ⟨PRE.blind, va_recv hKc hPc (ci := 4) (q0 := 0) rfl rfl, PRE.of hE hS hFc hPc hKc hDc⟩ rfl rfl hl.1 rfl (lv_room (Nat.le_of_ble_eq_true rfl)) dX5_foldBlock_11 ⟨(show (hcX9 p1_2n p1_2n) + 0 ≤ (hcX9 p1_2n (o.2.2.2)) from by have q0 := gmX9 hg_p1_2 hgn_p1_2; omega), (show (3 * (gcX9 p1_2n p1_2n)) + 0 ≤ (3 * (gcX9 p1_2n (o.2.2.2))) from by have q0 := gmX9 hg_p1_2 hgn_p1_2; omega)⟩) hS (fun q _ h => hFc q h) hFc (fun r4 u t H locs ht hvm hw hB hz1 hk1 hS => ?_)
  obtain ⟨b1, b2, b3⟩ := hB
  rw [ht] at b1
  obtain ⟨hP, hD, hK⟩ := JOINC (wc := (List.flatten ([(oX1 (p1a 0) p1a p1k p1n (o_1.2) p1l)] : List va_W))) (wr := (List.flatten ([(oX5 (p0a 0) p0a p0k p0w p0l), (oX9 (p1a 3) p1_2a p1_2k p1_2n p1_2w)] : List va_W))) (w1 := (List.flatten ([(oX1 (p1a 0) p1a p1k p1n (o_3.2) p1l)] : List va_W))) (t1 := (List.flatten ([(tX1 p1k)] : List (List (ClassId × FieldType))))) hPx hDx hKx hk1 hFc b1 (va_K.moved hvm.symm b2) b3
  have hP : va_P (dC, dI) cls (List.flatten ([(oX5 (p0a 0) p0a p0k p0w p0l), (oX1 (p1a 0) p1a p1k p1n (o_3.2) p1l), (oX9 (p1a 3) p1_2a p1_2k p1_2n p1_2w)] : List va_W)) H := vP_perm (vP_fb hP) (bP ((((List.Perm.refl _)).cons _).trans (List.Perm.swap _ _ _)))
  have hD : va_D A (List.flatten ([(oX5 (p0a 0) p0a p0k p0w p0l), (oX1 (p1a 0) p1a p1k p1n (o_3.2) p1l), (oX9 (p1a 3) p1_2a p1_2k p1_2n p1_2w)] : List va_W)) := vD_perm (vD_fb hD) (bP ((((List.Perm.refl _)).cons _).trans (List.Perm.swap _ _ _)))
  have hK : va_K (dC, dI) cls (List.flatten ([(tX5 p0k), (tX1 p1k), (tX9 p1_2k)] : List (List (ClassId × FieldType)))) s := vK_perm (vK_fb hK) (bP ((((List.Perm.refl _)).cons _).trans (List.Perm.swap _ _ _)))
  obtain rfl : r4 = (o_3.1) := hw
  refine lv_istore (lv' := [(6, .int (o_3.1)), (5, .int (o_1.1)), (3, .int 0), (0, .ref (p0a 0)), (1, .ref (p1a 0)), (2, .int p2)]) hx hb dX5_foldBlock_14 hl (by decide) rfl (fun ls hl => ?_)
  obtain ⟨o16, hc16, hrun⟩ := bnd9 hrun
  have hgn_p1_2 : glX9 (o16.2.2.2) (o.2.2.2) := (mo_fX5_foldBlock_G87_25 hrun)
  have L16 : ∀ (n_16 : Nat) (v3_16 : Int32) (v6_16 : Int32) (p1w_16 : ST) (p1_2w_16 : ST) (p1_2n_16 : Nat → Nat) (xp1_2_1_16 : Nat) (zp1_2_1_16 : ClassId) (xp1_2_2_16 : Nat) (zp1_2_2_16 : ClassId) (xp1_2_3_16 : Nat) (zp1_2_3_16 : ClassId) (xp1_2_4_16 : Nat) (zp1_2_4_16 : ClassId) (xp1_2_5_16 : Nat) (zp1_2_5_16 : ClassId) (o16 : Int32 × ST × ST × (Nat → Nat)) (H : Heap) (locs : List Loc) (ls : Array Slot), (fX5_foldBlock_L16 p0w p1n p2 n_16) v3_16 v6_16 p1w_16 p1_2w_16 p1_2n_16 = some o16 → va_P (dC, dI) cls (List.flatten ([(oX5 (p0a 0) p0a p0k p0w p0l), (oX1 (p1a 0) p1a p1k p1n p1w_16 p1l), (oX9 (p1a 3) (st1 (st1 (st1 (st1 (st1 p1_2a 2 xp1_2_1_16) 3 xp1_2_2_16) 4 xp1_2_3_16) 5 xp1_2_4_16) 6 xp1_2_5_16) (st1 (st1 (st1 (st1 (st1 p1_2k 2 zp1_2_1_16) 3 zp1_2_2_16) 4 zp1_2_3_16) 5 zp1_2_4_16) 6 zp1_2_5_16) p1_2n_16 p1_2w_16)] : List va_W)) H → va_D A (List.flatten ([(oX5 (p0a 0) p0a p0k p0w p0l), (oX1 (p1a 0) p1a p1k p1n p1w_16 p1l), (oX9 (p1a 3) (st1 (st1 (st1 (st1 (st1 p1_2a 2 xp1_2_1_16) 3 xp1_2_2_16) 4 xp1_2_3_16) 5 xp1_2_4_16) 6 xp1_2_5_16) (st1 (st1 (st1 (st1 (st1 p1_2k 2 zp1_2_1_16) 3 zp1_2_2_16) 4 zp1_2_3_16) 5 zp1_2_4_16) 6 zp1_2_5_16) p1_2n_16 p1_2w_16)] : List va_W)) → va_K (dC, dI) cls (List.flatten ([(tX5 p0k), (tX1 p1k), (tX9 (st1 (st1 (st1 (st1 (st1 p1_2k 2 zp1_2_1_16) 3 zp1_2_2_16) 4 zp1_2_3_16) 5 zp1_2_4_16) 6 zp1_2_5_16))] : List (List (ClassId × FieldType)))) s → va_S A s.heap H locs → lv_has ls 8 [(0, .ref (p0a 0)), (1, .ref (p1a 0)), (2, .int p2), (3, .int v3_16), (5, .int (o_1.1)), (6, .int v6_16)] → glX9 p1_2n p1_2n_16 → glX9 (o16.2.2.2) (o.2.2.2) → (∀ (xp1_2_1_16x : Nat) (zp1_2_1_16x : ClassId) (xp1_2_2_16x : Nat) (zp1_2_2_16x : ClassId) (xp1_2_3_16x : Nat) (zp1_2_3_16x : ClassId) (xp1_2_4_16x : Nat) (zp1_2_4_16x : ClassId) (xp1_2_5_16x : Nat) (zp1_2_5_16x : ClassId) (H : Heap) (locs : List Loc) (ls : Array Slot), va_P (dC, dI) cls (List.flatten ([(oX5 (p0a 0) p0a p0k p0w p0l), (oX1 (p1a 0) p1a p1k p1n (o16.2.1) p1l), (oX9 (p1a 3) (st1 (st1 (st1 (st1 (st1 p1_2a 2 xp1_2_1_16x) 3 xp1_2_2_16x) 4 xp1_2_3_16x) 5 xp1_2_4_16x) 6 xp1_2_5_16x) (st1 (st1 (st1 (st1 (st1 p1_2k 2 zp1_2_1_16x) 3 zp1_2_2_16x) 4 zp1_2_3_16x) 5 zp1_2_4_16x) 6 zp1_2_5_16x) (o16.2.2.2) (o16.2.2.1))] : List va_W)) H → va_D A (List.flatten ([(oX5 (p0a 0) p0a p0k p0w p0l), (oX1 (p1a 0) p1a p1k p1n (o16.2.1) p1l), (oX9 (p1a 3) (st1 (st1 (st1 (st1 (st1 p1_2a 2 xp1_2_1_16x) 3 xp1_2_2_16x) 4 xp1_2_3_16x) 5 xp1_2_4_16x) 6 xp1_2_5_16x) (st1 (st1 (st1 (st1 (st1 p1_2k 2 zp1_2_1_16x) 3 zp1_2_2_16x) 4 zp1_2_3_16x) 5 zp1_2_4_16x) 6 zp1_2_5_16x) (o16.2.2.2) (o16.2.2.1))] : List va_W)) → va_K (dC, dI) cls (List.flatten ([(tX5 p0k), (tX1 p1k), (tX9 (st1 (st1 (st1 (st1 (st1 p1_2k 2 zp1_2_1_16x) 3 zp1_2_2_16x) 4 zp1_2_3_16x) 5 zp1_2_4_16x) 6 zp1_2_5_16x))] : List (List (ClassId × FieldType)))) s → va_S A s.heap H locs → lv_has ls 8 [(0, .ref (p0a 0)), (1, .ref (p1a 0)), (2, .int p2), (3, .int (o16.1)), (5, .int (o_1.1))] → glX9 p1_2n (o16.2.2.2) → W p l e ({ frames := 4, cells := (hcX9 p1_2n (o.2.2.2)), slots := (3 * (gcX9 p1_2n (o.2.2.2))), locals := 113 } : Room) s m ([.ref (p0a 0), .ref (p1a 0), .int p2] : List Value).toArray below meth c H locs (hcX9 p1_2n (o16.2.2.2)) (3 * (gcX9 p1_2n (o16.2.2.2))) Q (F0 m 87 ls [])) → W p l e ({ frames := 4, cells := (hcX9 p1_2n (o.2.2.2)), slots := (3 * (gcX9 p1_2n (o.2.2.2))), locals := 113 } : Room) s m ([.ref (p0a 0), .ref (p1a 0), .int p2] : List Value).toArray below meth c H locs (hcX9 p1_2n p1_2n_16) (3 * (gcX9 p1_2n p1_2n_16)) Q (F0 m 16 ls []) := by
    intro n_16
    induction n_16 with
    | zero => intro v3_16 v6_16 p1w_16 p1_2w_16 p1_2n_16 xp1_2_1_16 zp1_2_1_16 xp1_2_2_16 zp1_2_2_16 xp1_2_3_16 zp1_2_3_16 xp1_2_4_16 zp1_2_4_16 xp1_2_5_16 zp1_2_5_16 o16 H locs ls hrun; exact (no9 rfl hrun).elim
    | succ n_16 IH16 =>
      intro v3_16 v6_16 p1w_16 p1_2w_16 p1_2n_16 xp1_2_1_16 zp1_2_1_16 xp1_2_2_16 zp1_2_2_16 xp1_2_3_16 zp1_2_3_16 xp1_2_4_16 zp1_2_4_16 xp1_2_5_16 zp1_2_5_16 o16 H locs ls hrun hP hD hK hS hl hg_p1_2 hgo_p1_2 hk16
      have hgn_p1_2 : glX9 p1_2n_16 (o.2.2.2) := (glX9_tr (mo_fX5_foldBlock_L16 (n_16 + 1) _ _ _ _ _ _ hrun) hgo_p1_2)
      unfold fX5_foldBlock_L16 at hrun
      refine lv_iload hx hb dX5_foldBlock_16 (lv_at hl 5 rfl) ?_
      rcases br9 hrun with ⟨hc5, hrun⟩ | ⟨hc5, hrun⟩
      · refine lv_if_lt (tgt := 87) hx hb dX5_foldBlock_18 (by decide) (fun _ => ?_) (fun c => absurd hc5 c)
        obtain rfl := (Option.some.inj hrun)
        exact hk16 xp1_2_1_16 zp1_2_1_16 xp1_2_2_16 zp1_2_2_16 xp1_2_3_16 zp1_2_3_16 xp1_2_4_16 zp1_2_4_16 xp1_2_5_16 zp1_2_5_16 _ _ _ hP hD hK hS (lv_sub hl [0, 1, 2, 3, 4] rfl) hg_p1_2
      · refine lv_if_lt (tgt := 87) hx hb dX5_foldBlock_18 (by decide) (fun c => absurd c hc5) (fun _ => ?_)
        refine lv_aload_n hx hb dX5_foldBlock_21 rfl (lv_at hl 1 rfl) ?_
        refine va_get (D := (dC, dI)) (ci := 4) (v := .ref (p1a 20)) (C := RX1) (T := TX1) (N := 21) hx hb hts i_X1 hown hK hP 10 rfl rfl 19 (by decide) (hts _ qw433) (fun _ h9 => h9) rfl dX5_foldBlock_22 ?_
        refine lv_iload hx hb dX5_foldBlock_25 (lv_at hl 5 rfl) ?_
        obtain ⟨hq6, hrun⟩ := chk9 hrun
        refine va_iald hx hb hK hP 26 24 rfl rfl (ixb_in hq6) dX5_foldBlock_27 ?_
        refine lv_istore (lv' := [(4, .int (p1w_16 20 (nn v6_16))), (0, .ref (p0a 0)), (1, .ref (p1a 0)), (2, .int p2), (3, .int v3_16), (5, .int (o_1.1)), (6, .int v6_16)]) hx hb dX5_foldBlock_28 hl (by decide) rfl (fun ls hl => ?_)
        refine lv_aload_n hx hb dX5_foldBlock_30 rfl (lv_at hl 2 rfl) ?_
        refine va_get (D := (dC, dI)) (ci := 4) (v := .ref (p1a 19)) (C := RX1) (T := TX1) (N := 21) hx hb hts i_X1 hown hK hP 10 rfl rfl 18 (by decide) (hts _ qw432) (fun _ h9 => h9) rfl dX5_foldBlock_31 ?_
        refine lv_iload hx hb dX5_foldBlock_34 (lv_at hl 6 rfl) ?_
        obtain ⟨hq7, hrun⟩ := chk9 hrun
        refine va_iald hx hb hK hP 25 23 rfl rfl (ixb_in hq7) dX5_foldBlock_36 ?_
        refine lv_istore (lv' := [(7, .int (p1w_16 19 (nn v6_16))), (4, .int (p1w_16 20 (nn v6_16))), (0, .ref (p0a 0)), (1, .ref (p1a 0)), (2, .int p2), (3, .int v3_16), (5, .int (o_1.1)), (6, .int v6_16)]) hx hb dX5_foldBlock_37 hl (by decide) rfl (fun ls hl => ?_)
        refine lv_aload_n hx hb dX5_foldBlock_39 rfl (lv_at hl 2 rfl) ?_
        refine va_get (D := (dC, dI)) (ci := 7) (v := .ref (p0a 4)) (C := RX5) (T := TX5) (N := 12) hx hb hts i_X5 hown hK hP 0 rfl rfl 3 (by decide) (hts _ qw490) (fun _ h9 => h9) rfl dX5_foldBlock_40 ?_
        refine lv_iload hx hb dX5_foldBlock_43 (lv_at hl 0 rfl) ?_
        obtain ⟨hq8, hrun⟩ := chk9 hrun
        refine va_iald hx hb hK hP 3 2 rfl rfl (ixb_in hq8) dX5_foldBlock_45 ?_
        refine lv_iconst (v := 1) hx hb dX5_foldBlock_46 (by decide) ?_
        have J80 : ∀ (v3_80 : Int32) (p1w_80 : ST) (p1_2w_80 : ST) (p1_2n_80 : Nat → Nat) (xp1_2_1_80 : Nat) (zp1_2_1_80 : ClassId) (xp1_2_2_80 : Nat) (zp1_2_2_80 : ClassId) (xp1_2_3_80 : Nat) (zp1_2_3_80 : ClassId) (xp1_2_4_80 : Nat) (zp1_2_4_80 : ClassId) (xp1_2_5_80 : Nat) (zp1_2_5_80 : ClassId) (H : Heap) (locs : List Loc) (ls : Array Slot), (fX5_foldBlock_J80 (fX5_foldBlock_L16 p0w p1n p2 n_16) v6_16 p1w_16 v3_80 p1w_80 p1_2w_80 p1_2n_80) = some o16 → va_P (dC, dI) cls (List.flatten ([(oX5 (p0a 0) p0a p0k p0w p0l), (oX1 (p1a 0) p1a p1k p1n p1w_80 p1l), (oX9 (p1a 3) (st1 (st1 (st1 (st1 (st1 p1_2a 2 xp1_2_1_80) 3 xp1_2_2_80) 4 xp1_2_3_80) 5 xp1_2_4_80) 6 xp1_2_5_80) (st1 (st1 (st1 (st1 (st1 p1_2k 2 zp1_2_1_80) 3 zp1_2_2_80) 4 zp1_2_3_80) 5 zp1_2_4_80) 6 zp1_2_5_80) p1_2n_80 p1_2w_80)] : List va_W)) H → va_D A (List.flatten ([(oX5 (p0a 0) p0a p0k p0w p0l), (oX1 (p1a 0) p1a p1k p1n p1w_80 p1l), (oX9 (p1a 3) (st1 (st1 (st1 (st1 (st1 p1_2a 2 xp1_2_1_80) 3 xp1_2_2_80) 4 xp1_2_3_80) 5 xp1_2_4_80) 6 xp1_2_5_80) (st1 (st1 (st1 (st1 (st1 p1_2k 2 zp1_2_1_80) 3 zp1_2_2_80) 4 zp1_2_3_80) 5 zp1_2_4_80) 6 zp1_2_5_80) p1_2n_80 p1_2w_80)] : List va_W)) → va_K (dC, dI) cls (List.flatten ([(tX5 p0k), (tX1 p1k), (tX9 (st1 (st1 (st1 (st1 (st1 p1_2k 2 zp1_2_1_80) 3 zp1_2_2_80) 4 zp1_2_3_80) 5 zp1_2_4_80) 6 zp1_2_5_80))] : List (List (ClassId × FieldType)))) s → va_S A s.heap H locs → lv_has ls 8 [(0, .ref (p0a 0)), (1, .ref (p1a 0)), (2, .int p2), (3, .int v3_80), (4, .int (p1w_16 20 (nn v6_16))), (5, .int (o_1.1))] → glX9 p1_2n p1_2n_80 → W p l e ({ frames := 4, cells := (hcX9 p1_2n (o.2.2.2)), slots := (3 * (gcX9 p1_2n (o.2.2.2))), locals := 113 } : Room) s m ([.ref (p0a 0), .ref (p1a 0), .int p2] : List Value).toArray below meth c H locs (hcX9 p1_2n p1_2n_80) (3 * (gcX9 p1_2n p1_2n_80)) Q (F0 m 80 ls []) := by
          intro v3_80 p1w_80 p1_2w_80 p1_2n_80 xp1_2_1_80 zp1_2_1_80 xp1_2_2_80 zp1_2_2_80 xp1_2_3_80 zp1_2_3_80 xp1_2_4_80 zp1_2_4_80 xp1_2_5_80 zp1_2_5_80 H locs ls hrun hP hD hK hS hl hg_p1_2 
          have hgn_p1_2 : glX9 p1_2n_80 (o.2.2.2) := (glX9_tr (mo_fX5_foldBlock_J80 (mo_fX5_foldBlock_L16 n_16) hrun) hgo_p1_2)
          unfold fX5_foldBlock_J80 at hrun
          refine lv_iload hx hb dX5_foldBlock_80 (lv_at hl 4 rfl) ?_
          refine lv_istore (lv' := [(6, .int (p1w_16 20 (nn v6_16))), (0, .ref (p0a 0)), (1, .ref (p1a 0)), (2, .int p2), (3, .int v3_80), (4, .int (p1w_16 20 (nn v6_16))), (5, .int (o_1.1))]) hx hb dX5_foldBlock_82 hl (by decide) rfl (fun ls hl => ?_)
          refine lv_goto (tgt := 16) hx hb dX5_foldBlock_84 (by decide) ?_
          exact IH16 v3_80 (p1w_16 20 (nn v6_16)) p1w_80 p1_2w_80 p1_2n_80 xp1_2_1_80 zp1_2_1_80 xp1_2_2_80 zp1_2_2_80 xp1_2_3_80 zp1_2_3_80 xp1_2_4_80 zp1_2_4_80 xp1_2_5_80 zp1_2_5_80 o16 _ _ _ hrun hP hD hK hS (lv_sub hl [1, 2, 3, 4, 6, 0] rfl) hg_p1_2 hgo_p1_2 hk16
        rcases br9 hrun with ⟨hc9, hrun⟩ | ⟨hc9, hrun⟩
        · refine lv_icmp_ne (tgt := 73) hx hb dX5_foldBlock_47 (by decide) (fun c => absurd hc9 c) (fun _ => ?_)
          refine lv_aload_n hx hb dX5_foldBlock_50 rfl (lv_at hl 3 rfl) ?_
          refine lv_iload_n hx hb dX5_foldBlock_51 rfl (lv_at hl 4 rfl) ?_
          refine lv_iconst (v := 0) hx hb dX5_foldBlock_52 (by decide) ?_
          refine lv_iload hx hb dX5_foldBlock_53 (lv_at hl 0 rfl) ?_
          refine lv_aload_n hx hb dX5_foldBlock_55 rfl (lv_at hl 2 rfl) ?_
          refine va_get (D := (dC, dI)) (ci := 7) (v := .ref (p0a 5)) (C := RX5) (T := TX5) (N := 12) hx hb hts i_X5 hown hK hP 0 rfl rfl 4 (by decide) (hts _ qw491) (fun _ h9 => h9) rfl dX5_foldBlock_56 ?_
          refine lv_iload hx hb dX5_foldBlock_59 (lv_at hl 0 rfl) ?_
          obtain ⟨hq10, hrun⟩ := chk9 hrun
          refine va_iald hx hb hK hP 4 3 rfl rfl (ixb_in hq10) dX5_foldBlock_61 ?_
          refine lv_iconst (v := (-1)) hx hb dX5_foldBlock_62 (by decide) ?_
          obtain ⟨o_11, hc_11, hrun⟩ := bnd9 hrun
          have hPx : va_P (dC, dI) cls ((List.flatten ([(oX1 (p1a 0) p1a p1k p1n p1w_16 p1l), (oX9 (p1a 3) (st1 (st1 (st1 (st1 (st1 p1_2a 2 xp1_2_1_16) 3 xp1_2_2_16) 4 xp1_2_3_16) 5 xp1_2_4_16) 6 xp1_2_5_16) (st1 (st1 (st1 (st1 (st1 p1_2k 2 zp1_2_1_16) 3 zp1_2_2_16) 4 zp1_2_3_16) 5 zp1_2_4_16) 6 zp1_2_5_16) p1_2n_16 p1_2w_16)] : List va_W)) ++ (List.flatten ([(oX5 (p0a 0) p0a p0k p0w p0l)] : List va_W))) H := vP_fa (vP_perm hP (bP ((((((List.Perm.refl _)).cons _).trans (List.Perm.swap _ _ _))).trans ((((((List.Perm.refl _)).cons _).trans (List.Perm.swap _ _ _))).cons _))))
          have hDx : va_D A ((List.flatten ([(oX1 (p1a 0) p1a p1k p1n p1w_16 p1l), (oX9 (p1a 3) (st1 (st1 (st1 (st1 (st1 p1_2a 2 xp1_2_1_16) 3 xp1_2_2_16) 4 xp1_2_3_16) 5 xp1_2_4_16) 6 xp1_2_5_16) (st1 (st1 (st1 (st1 (st1 p1_2k 2 zp1_2_1_16) 3 zp1_2_2_16) 4 zp1_2_3_16) 5 zp1_2_4_16) 6 zp1_2_5_16) p1_2n_16 p1_2w_16)] : List va_W)) ++ (List.flatten ([(oX5 (p0a 0) p0a p0k p0w p0l)] : List va_W))) := vD_fa (vD_perm hD (bP ((((((List.Perm.refl _)).cons _).trans (List.Perm.swap _ _ _))).trans ((((((List.Perm.refl _)).cons _).trans (List.Perm.swap _ _ _))).cons _))))
          have hKx : va_K (dC, dI) cls ((List.flatten ([(tX1 p1k), (tX9 (st1 (st1 (st1 (st1 (st1 p1_2k 2 zp1_2_1_16) 3 zp1_2_2_16) 4 zp1_2_3_16) 5 zp1_2_4_16) 6 zp1_2_5_16))] : List (List (ClassId × FieldType)))) ++ (List.flatten ([(tX5 p0k)] : List (List (ClassId × FieldType))))) s := vK_fa (vK_perm hK (bP ((((((List.Perm.refl _)).cons _).trans (List.Perm.swap _ _ _))).trans ((((((List.Perm.refl _)).cons _).trans (List.Perm.swap _ _ _))).cons _))))
          have hPc := vP_l hPx
          have hDc := vD_l hDx
          have hKc := vK_l hKx
          have hFc := vfree hDx hS hA
          have hgn_p1_2 : glX9 (o_11.2.2.2) (o.2.2.2) := (glX9_tr (mo_fX5_foldBlock_G66_23 (mo_fX5_foldBlock_L16 n_16) hrun) hgo_p1_2)
          refine va_calli (va_runV (As := [.int p2, .int 0, .int (p1w_16 19 (nn v6_16)), .int (p0w 5 (nn (p1w_16 19 (nn v6_16)))), .int (-1)]) (rest := []) ⟨hx, hb, hml, hown, hts⟩ (kX1_addStep l dC dI (p0a := p1a) (p0k := p1k) (p0n := p1n) (p0w := p1w_16) (p0l := p1l) (p1 := p2) (p2 := 0) (p3 := (p1w_16 19 (nn v6_16))) (p4 := (p0w 5 (nn (p1w_16 19 (nn v6_16))))) (p5 := (-1)) (p0_2a := (st1 (st1 (st1 (st1 (st1 p1_2a 2 xp1_2_1_16) 3 xp1_2_2_16) 4 xp1_2_3_16) 5 xp1_2_4_16) 6 xp1_2_5_16)) (p0_2k := (st1 (st1 (st1 (st1 (st1 p1_2k 2 zp1_2_1_16) 3 zp1_2_2_16) 4 zp1_2_3_16) 5 zp1_2_4_16) 6 zp1_2_5_16)) (p0_2n := p1_2n_16) (p0_2w := p1_2w_16) (sz := _) (o := o_11) (hrun := hc_11)) (cwV 5 hts (gi_V qw492 qw165 qw166 qw126 (gi_z qw163)) rfl rfl rfl (by decide +kernel) ⟨Nat.le_of_ble_eq_true rfl, Nat.le_of_ble_eq_true rfl⟩) ⟨PRE.blind, va_recv hKc hPc (ci := 4) (q0 := 0) rfl rfl, PRE.of hE hS hFc hPc hKc hDc⟩ rfl rfl hl.1 rfl (lv_room (Nat.le_of_ble_eq_true rfl)) dX5_foldBlock_63 ⟨(show (hcX9 p1_2n p1_2n_16) + (hcX9 p1_2n_16 (o_11.2.2.2)) ≤ (hcX9 p1_2n (o.2.2.2)) from by have q0 := gsX9 hg_p1_2 (mo_fX1_addStep hc_11) hgn_p1_2; omega), (show (3 * (gcX9 p1_2n p1_2n_16)) + (3 * (gcX9 p1_2n_16 (o_11.2.2.2))) ≤ (3 * (gcX9 p1_2n (o.2.2.2))) from by have q0 := gsX9 hg_p1_2 (mo_fX1_addStep hc_11) hgn_p1_2; omega)⟩) hS (fun q _ h => hFc q h) hFc (fun r12 u t H locs ht hvm hw hB hz1 hk1 hS => ?_)
          obtain ⟨x13, z14, x15, z16, x17, z18, x19, z20, x21, z22, hB⟩ := hB
          obtain ⟨b1, b2, b3⟩ := hB
          rw [ht] at b1
          obtain ⟨hP, hD, hK⟩ := JOINC (wc := (List.flatten ([(oX1 (p1a 0) p1a p1k p1n p1w_16 p1l), (oX9 (p1a 3) (st1 (st1 (st1 (st1 (st1 p1_2a 2 xp1_2_1_16) 3 xp1_2_2_16) 4 xp1_2_3_16) 5 xp1_2_4_16) 6 xp1_2_5_16) (st1 (st1 (st1 (st1 (st1 p1_2k 2 zp1_2_1_16) 3 zp1_2_2_16) 4 zp1_2_3_16) 5 zp1_2_4_16) 6 zp1_2_5_16) p1_2n_16 p1_2w_16)] : List va_W))) (wr := (List.flatten ([(oX5 (p0a 0) p0a p0k p0w p0l)] : List va_W))) (w1 := (List.flatten ([(oX1 (p1a 0) p1a p1k p1n (o_11.2.1) p1l), (oX9 (p1a 3) (st1 (st1 (st1 (st1 (st1 p1_2a 2 x13) 3 x15) 4 x17) 5 x19) 6 x21) (st1 (st1 (st1 (st1 (st1 p1_2k 2 z14) 3 z16) 4 z18) 5 z20) 6 z22) (o_11.2.2.2) (o_11.2.2.1))] : List va_W))) (t1 := (List.flatten ([(tX1 p1k), (tX9 (st1 (st1 (st1 (st1 (st1 p1_2k 2 z14) 3 z16) 4 z18) 5 z20) 6 z22))] : List (List (ClassId × FieldType))))) hPx hDx hKx hk1 hFc b1 (va_K.moved hvm.symm b2) b3
          have hP : va_P (dC, dI) cls (List.flatten ([(oX5 (p0a 0) p0a p0k p0w p0l), (oX1 (p1a 0) p1a p1k p1n (o_11.2.1) p1l), (oX9 (p1a 3) (st1 (st1 (st1 (st1 (st1 p1_2a 2 x13) 3 x15) 4 x17) 5 x19) 6 x21) (st1 (st1 (st1 (st1 (st1 p1_2k 2 z14) 3 z16) 4 z18) 5 z20) 6 z22) (o_11.2.2.2) (o_11.2.2.1))] : List va_W)) H := vP_perm (vP_fb hP) (bP (((((((List.Perm.refl _)).cons _).trans (List.Perm.swap _ _ _))).cons _).trans (List.Perm.swap _ _ _)))
          have hD : va_D A (List.flatten ([(oX5 (p0a 0) p0a p0k p0w p0l), (oX1 (p1a 0) p1a p1k p1n (o_11.2.1) p1l), (oX9 (p1a 3) (st1 (st1 (st1 (st1 (st1 p1_2a 2 x13) 3 x15) 4 x17) 5 x19) 6 x21) (st1 (st1 (st1 (st1 (st1 p1_2k 2 z14) 3 z16) 4 z18) 5 z20) 6 z22) (o_11.2.2.2) (o_11.2.2.1))] : List va_W)) := vD_perm (vD_fb hD) (bP (((((((List.Perm.refl _)).cons _).trans (List.Perm.swap _ _ _))).cons _).trans (List.Perm.swap _ _ _)))
          have hK : va_K (dC, dI) cls (List.flatten ([(tX5 p0k), (tX1 p1k), (tX9 (st1 (st1 (st1 (st1 (st1 p1_2k 2 z14) 3 z16) 4 z18) 5 z20) 6 z22))] : List (List (ClassId × FieldType)))) s := vK_perm (vK_fb hK) (bP (((((((List.Perm.refl _)).cons _).trans (List.Perm.swap _ _ _))).cons _).trans (List.Perm.swap _ _ _)))
          obtain rfl : r12 = (o_11.1) := hw
          refine W.widen (k := (hcX9 p1_2n (o_11.2.2.2))) (n := (3 * (gcX9 p1_2n (o_11.2.2.2)))) (by have a0 := gcX9_add hg_p1_2 (mo_fX1_addStep hc_11); omega) (by have a0 := gcX9_add hg_p1_2 (mo_fX1_addStep hc_11); omega) ?_
          have hg_p1_2 : glX9 p1_2n (o_11.2.2.2) := glX9_tr hg_p1_2 (mo_fX1_addStep hc_11)
          unfold fX5_foldBlock_G66_23 at hrun
          refine lv_pop hx hb dX5_foldBlock_66 rfl ?_
          refine lv_iinc (v := (v3_16 + 1)) (lv' := [(3, .int (v3_16 + 1)), (7, .int (p1w_16 19 (nn v6_16))), (4, .int (p1w_16 20 (nn v6_16))), (0, .ref (p0a 0)), (1, .ref (p1a 0)), (2, .int p2), (5, .int (o_1.1)), (6, .int v6_16)]) hx hb dX5_foldBlock_67 hl (k := 5) rfl rfl (by decide) rfl (fun ls hl => ?_)
          refine lv_goto (tgt := 80) hx hb dX5_foldBlock_70 (by decide) ?_
          exact J80 (v3_16 + 1) (o_11.2.1) (o_11.2.2.1) (o_11.2.2.2) x13 z14 x15 z16 x17 z18 x19 z20 x21 z22 _ _ _ hrun hP hD hK hS (lv_sub hl [3, 4, 5, 0, 2, 6] rfl) hg_p1_2
        · refine lv_icmp_ne (tgt := 73) hx hb dX5_foldBlock_47 (by decide) (fun _ => ?_) (fun c => absurd c hc9)
          refine lv_aload_n hx hb dX5_foldBlock_73 rfl (lv_at hl 3 rfl) ?_
          refine lv_iload_n hx hb dX5_foldBlock_74 rfl (lv_at hl 4 rfl) ?_
          refine lv_iload hx hb dX5_foldBlock_75 (lv_at hl 7 rfl) ?_
          obtain ⟨o_24, hc_24, hrun⟩ := bnd9 hrun
          have hPx : va_P (dC, dI) cls ((List.flatten ([(oX1 (p1a 0) p1a p1k p1n p1w_16 p1l)] : List va_W)) ++ (List.flatten ([(oX5 (p0a 0) p0a p0k p0w p0l), (oX9 (p1a 3) (st1 (st1 (st1 (st1 (st1 p1_2a 2 xp1_2_1_16) 3 xp1_2_2_16) 4 xp1_2_3_16) 5 xp1_2_4_16) 6 xp1_2_5_16) (st1 (st1 (st1 (st1 (st1 p1_2k 2 zp1_2_1_16) 3 zp1_2_2_16) 4 zp1_2_3_16) 5 zp1_2_4_16) 6 zp1_2_5_16) p1_2n_16 p1_2w_16)] : List va_W))) H := vP_fa (vP_perm hP (bP ((((List.Perm.refl _)).cons _).trans (List.Perm.swap _ _ _))))
          have hDx : va_D A ((List.flatten ([(oX1 (p1a 0) p1a p1k p1n p1w_16 p1l)] : List va_W)) ++ (List.flatten ([(oX5 (p0a 0) p0a p0k p0w p0l), (oX9 (p1a 3) (st1 (st1 (st1 (st1 (st1 p1_2a 2 xp1_2_1_16) 3 xp1_2_2_16) 4 xp1_2_3_16) 5 xp1_2_4_16) 6 xp1_2_5_16) (st1 (st1 (st1 (st1 (st1 p1_2k 2 zp1_2_1_16) 3 zp1_2_2_16) 4 zp1_2_3_16) 5 zp1_2_4_16) 6 zp1_2_5_16) p1_2n_16 p1_2w_16)] : List va_W))) := vD_fa (vD_perm hD (bP ((((List.Perm.refl _)).cons _).trans (List.Perm.swap _ _ _))))
          have hKx : va_K (dC, dI) cls ((List.flatten ([(tX1 p1k)] : List (List (ClassId × FieldType)))) ++ (List.flatten ([(tX5 p0k), (tX9 (st1 (st1 (st1 (st1 (st1 p1_2k 2 zp1_2_1_16) 3 zp1_2_2_16) 4 zp1_2_3_16) 5 zp1_2_4_16) 6 zp1_2_5_16))] : List (List (ClassId × FieldType))))) s := vK_fa (vK_perm hK (bP ((((List.Perm.refl _)).cons _).trans (List.Perm.swap _ _ _))))
          have hPc := vP_l hPx
          have hDc := vD_l hDx
          have hKc := vK_l hKx
          have hFc := vfree hDx hS hA
          refine va_callv (va_runV (As := [.int p2, .int v6_16]) (rest := []) ⟨hx, hb, hml, hown, hts⟩ (kX1_linkPhi l dC dI (p0a := p1a) (p0k := p1k) (p0n := p1n) (p0w := p1w_16) (p0l := p1l) (p1 := p2) (p2 := v6_16) (sz := _) (o := o_24) (hrun := hc_24)) (cwV 2 hts (gi_V qw493 qw124 qw125 qw126 (gi_z qw122)) rfl rfl rfl (by decide +kernel) ⟨Nat.le_of_ble_eq_true rfl, Nat.le_of_ble_eq_true rfl⟩) ⟨PRE.blind, va_recv hKc hPc (ci := 4) (q0 := 0) rfl rfl, PRE.of hE hS hFc hPc hKc hDc⟩ rfl rfl hl.1 rfl (lv_room (Nat.le_of_ble_eq_true rfl)) dX5_foldBlock_77 ⟨(show (hcX9 p1_2n p1_2n_16) + 0 ≤ (hcX9 p1_2n (o.2.2.2)) from by have q0 := gmX9 hg_p1_2 hgn_p1_2; omega), (show (3 * (gcX9 p1_2n p1_2n_16)) + 0 ≤ (3 * (gcX9 p1_2n (o.2.2.2))) from by have q0 := gmX9 hg_p1_2 hgn_p1_2; omega)⟩) hS (fun q _ h => hFc q h) hFc (fun u t H locs ht hvm hw hB hz1 hk1 hS => ?_)
          obtain ⟨b1, b2, b3⟩ := hB
          rw [ht] at b1
          obtain ⟨hP, hD, hK⟩ := JOINC (wc := (List.flatten ([(oX1 (p1a 0) p1a p1k p1n p1w_16 p1l)] : List va_W))) (wr := (List.flatten ([(oX5 (p0a 0) p0a p0k p0w p0l), (oX9 (p1a 3) (st1 (st1 (st1 (st1 (st1 p1_2a 2 xp1_2_1_16) 3 xp1_2_2_16) 4 xp1_2_3_16) 5 xp1_2_4_16) 6 xp1_2_5_16) (st1 (st1 (st1 (st1 (st1 p1_2k 2 zp1_2_1_16) 3 zp1_2_2_16) 4 zp1_2_3_16) 5 zp1_2_4_16) 6 zp1_2_5_16) p1_2n_16 p1_2w_16)] : List va_W))) (w1 := (List.flatten ([(oX1 (p1a 0) p1a p1k p1n o_24 p1l)] : List va_W))) (t1 := (List.flatten ([(tX1 p1k)] : List (List (ClassId × FieldType))))) hPx hDx hKx hk1 hFc b1 (va_K.moved hvm.symm b2) b3
          have hP : va_P (dC, dI) cls (List.flatten ([(oX5 (p0a 0) p0a p0k p0w p0l), (oX1 (p1a 0) p1a p1k p1n o_24 p1l), (oX9 (p1a 3) (st1 (st1 (st1 (st1 (st1 p1_2a 2 xp1_2_1_16) 3 xp1_2_2_16) 4 xp1_2_3_16) 5 xp1_2_4_16) 6 xp1_2_5_16) (st1 (st1 (st1 (st1 (st1 p1_2k 2 zp1_2_1_16) 3 zp1_2_2_16) 4 zp1_2_3_16) 5 zp1_2_4_16) 6 zp1_2_5_16) p1_2n_16 p1_2w_16)] : List va_W)) H := vP_perm (vP_fb hP) (bP ((((List.Perm.refl _)).cons _).trans (List.Perm.swap _ _ _)))
          have hD : va_D A (List.flatten ([(oX5 (p0a 0) p0a p0k p0w p0l), (oX1 (p1a 0) p1a p1k p1n o_24 p1l), (oX9 (p1a 3) (st1 (st1 (st1 (st1 (st1 p1_2a 2 xp1_2_1_16) 3 xp1_2_2_16) 4 xp1_2_3_16) 5 xp1_2_4_16) 6 xp1_2_5_16) (st1 (st1 (st1 (st1 (st1 p1_2k 2 zp1_2_1_16) 3 zp1_2_2_16) 4 zp1_2_3_16) 5 zp1_2_4_16) 6 zp1_2_5_16) p1_2n_16 p1_2w_16)] : List va_W)) := vD_perm (vD_fb hD) (bP ((((List.Perm.refl _)).cons _).trans (List.Perm.swap _ _ _)))
          have hK : va_K (dC, dI) cls (List.flatten ([(tX5 p0k), (tX1 p1k), (tX9 (st1 (st1 (st1 (st1 (st1 p1_2k 2 zp1_2_1_16) 3 zp1_2_2_16) 4 zp1_2_3_16) 5 zp1_2_4_16) 6 zp1_2_5_16))] : List (List (ClassId × FieldType)))) s := vK_perm (vK_fb hK) (bP ((((List.Perm.refl _)).cons _).trans (List.Perm.swap _ _ _)))
          exact J80 v3_16 o_24 p1_2w_16 p1_2n_16 xp1_2_1_16 zp1_2_1_16 xp1_2_2_16 zp1_2_2_16 xp1_2_3_16 zp1_2_3_16 xp1_2_4_16 zp1_2_4_16 xp1_2_5_16 zp1_2_5_16 _ _ _ hrun hP hD hK hS (lv_sub hl [2, 3, 4, 5, 1, 6] rfl) hg_p1_2
  refine L16 NF 0 (o_3.1) (o_3.2) p1_2w p1_2n (p1_2a 2) (p1_2k 2) (p1_2a 3) (p1_2k 3) (p1_2a 4) (p1_2k 4) (p1_2a 5) (p1_2k 5) (p1_2a 6) (p1_2k 6) o16 _ _ _ hc16 hP hD hK hS (lv_sub hl [3, 4, 5, 2, 1, 0] rfl) hg_p1_2 hgn_p1_2 ?_
  intro xp1_2_1_16x zp1_2_1_16x xp1_2_2_16x zp1_2_2_16x xp1_2_3_16x zp1_2_3_16x xp1_2_4_16x zp1_2_4_16x xp1_2_5_16x zp1_2_5_16x H locs ls hP hD hK hS hl hg_p1_2
  have hl := hl
  unfold fX5_foldBlock_G87_25 at hrun
  refine lv_iload hx hb dX5_foldBlock_87 (lv_at hl 4 rfl) ?_
  refine lv_istore (lv' := [(6, .int (o_1.1)), (0, .ref (p0a 0)), (1, .ref (p1a 0)), (2, .int p2), (3, .int (o16.1)), (5, .int (o_1.1))]) hx hb dX5_foldBlock_89 hl (by decide) rfl (fun ls hl => ?_)
  have L91 : ∀ (n_91 : Nat) (v3_91 : Int32) (v6_91 : Int32) (p1w_91 : ST) (p1_2w_91 : ST) (o91 : Int32 × ST × ST) (H : Heap) (locs : List Loc) (ls : Array Slot), (fX5_foldBlock_L91 p0w p2 o16 n_91) v3_91 v6_91 p1w_91 p1_2w_91 = some o91 → va_P (dC, dI) cls (List.flatten ([(oX5 (p0a 0) p0a p0k p0w p0l), (oX1 (p1a 0) p1a p1k p1n p1w_91 p1l), (oX9 (p1a 3) (st1 (st1 (st1 (st1 (st1 p1_2a 2 xp1_2_1_16x) 3 xp1_2_2_16x) 4 xp1_2_3_16x) 5 xp1_2_4_16x) 6 xp1_2_5_16x) (st1 (st1 (st1 (st1 (st1 p1_2k 2 zp1_2_1_16x) 3 zp1_2_2_16x) 4 zp1_2_3_16x) 5 zp1_2_4_16x) 6 zp1_2_5_16x) (o16.2.2.2) p1_2w_91)] : List va_W)) H → va_D A (List.flatten ([(oX5 (p0a 0) p0a p0k p0w p0l), (oX1 (p1a 0) p1a p1k p1n p1w_91 p1l), (oX9 (p1a 3) (st1 (st1 (st1 (st1 (st1 p1_2a 2 xp1_2_1_16x) 3 xp1_2_2_16x) 4 xp1_2_3_16x) 5 xp1_2_4_16x) 6 xp1_2_5_16x) (st1 (st1 (st1 (st1 (st1 p1_2k 2 zp1_2_1_16x) 3 zp1_2_2_16x) 4 zp1_2_3_16x) 5 zp1_2_4_16x) 6 zp1_2_5_16x) (o16.2.2.2) p1_2w_91)] : List va_W)) → va_K (dC, dI) cls (List.flatten ([(tX5 p0k), (tX1 p1k), (tX9 (st1 (st1 (st1 (st1 (st1 p1_2k 2 zp1_2_1_16x) 3 zp1_2_2_16x) 4 zp1_2_3_16x) 5 zp1_2_4_16x) 6 zp1_2_5_16x))] : List (List (ClassId × FieldType)))) s → va_S A s.heap H locs → lv_has ls 8 [(0, .ref (p0a 0)), (1, .ref (p1a 0)), (2, .int p2), (3, .int v3_91), (6, .int v6_91)] → glX9 p1_2n (o16.2.2.2) → (∀ (H : Heap) (locs : List Loc) (ls : Array Slot), va_P (dC, dI) cls (List.flatten ([(oX5 (p0a 0) p0a p0k p0w p0l), (oX1 (p1a 0) p1a p1k p1n (o91.2.1) p1l), (oX9 (p1a 3) (st1 (st1 (st1 (st1 (st1 p1_2a 2 xp1_2_1_16x) 3 xp1_2_2_16x) 4 xp1_2_3_16x) 5 xp1_2_4_16x) 6 xp1_2_5_16x) (st1 (st1 (st1 (st1 (st1 p1_2k 2 zp1_2_1_16x) 3 zp1_2_2_16x) 4 zp1_2_3_16x) 5 zp1_2_4_16x) 6 zp1_2_5_16x) (o16.2.2.2) (o91.2.2))] : List va_W)) H → va_D A (List.flatten ([(oX5 (p0a 0) p0a p0k p0w p0l), (oX1 (p1a 0) p1a p1k p1n (o91.2.1) p1l), (oX9 (p1a 3) (st1 (st1 (st1 (st1 (st1 p1_2a 2 xp1_2_1_16x) 3 xp1_2_2_16x) 4 xp1_2_3_16x) 5 xp1_2_4_16x) 6 xp1_2_5_16x) (st1 (st1 (st1 (st1 (st1 p1_2k 2 zp1_2_1_16x) 3 zp1_2_2_16x) 4 zp1_2_3_16x) 5 zp1_2_4_16x) 6 zp1_2_5_16x) (o16.2.2.2) (o91.2.2))] : List va_W)) → va_K (dC, dI) cls (List.flatten ([(tX5 p0k), (tX1 p1k), (tX9 (st1 (st1 (st1 (st1 (st1 p1_2k 2 zp1_2_1_16x) 3 zp1_2_2_16x) 4 zp1_2_3_16x) 5 zp1_2_4_16x) 6 zp1_2_5_16x))] : List (List (ClassId × FieldType)))) s → va_S A s.heap H locs → lv_has ls 8 [(0, .ref (p0a 0)), (1, .ref (p1a 0)), (2, .int p2), (3, .int (o91.1))] → glX9 p1_2n (o16.2.2.2) → W p l e ({ frames := 4, cells := (hcX9 p1_2n (o.2.2.2)), slots := (3 * (gcX9 p1_2n (o.2.2.2))), locals := 113 } : Room) s m ([.ref (p0a 0), .ref (p1a 0), .int p2] : List Value).toArray below meth c H locs (hcX9 p1_2n (o16.2.2.2)) (3 * (gcX9 p1_2n (o16.2.2.2))) Q (F0 m 184 ls [])) → W p l e ({ frames := 4, cells := (hcX9 p1_2n (o.2.2.2)), slots := (3 * (gcX9 p1_2n (o.2.2.2))), locals := 113 } : Room) s m ([.ref (p0a 0), .ref (p1a 0), .int p2] : List Value).toArray below meth c H locs (hcX9 p1_2n (o16.2.2.2)) (3 * (gcX9 p1_2n (o16.2.2.2))) Q (F0 m 91 ls []) := by
    intro n_91
    induction n_91 with
    | zero => intro v3_91 v6_91 p1w_91 p1_2w_91 o91 H locs ls hrun; exact (no9 rfl hrun).elim
    | succ n_91 IH91 =>
      intro v3_91 v6_91 p1w_91 p1_2w_91 o91 H locs ls hrun hP hD hK hS hl hg_p1_2 hk91
      unfold fX5_foldBlock_L91 at hrun
      refine lv_iload hx hb dX5_foldBlock_91 (lv_at hl 4 rfl) ?_
      rcases br9 hrun with ⟨hc26, hrun⟩ | ⟨hc26, hrun⟩
      · refine lv_if_lt (tgt := 184) hx hb dX5_foldBlock_93 (by decide) (fun _ => ?_) (fun c => absurd hc26 c)
        obtain rfl := (Option.some.inj hrun)
        exact hk91 _ _ _ hP hD hK hS (lv_sub hl [0, 1, 2, 3] rfl) hg_p1_2
      · refine lv_if_lt (tgt := 184) hx hb dX5_foldBlock_93 (by decide) (fun c => absurd c hc26) (fun _ => ?_)
        refine lv_aload_n hx hb dX5_foldBlock_96 rfl (lv_at hl 1 rfl) ?_
        refine va_get (D := (dC, dI)) (ci := 4) (v := .ref (p1a 3)) (C := RX1) (T := TX1) (N := 21) hx hb hts i_X1 hown hK hP 10 rfl rfl 2 (by decide) (hts _ qw435) (fun _ h9 => h9) rfl dX5_foldBlock_97 ?_
        refine va_get (D := (dC, dI)) (ci := 3) (v := .ref xp1_2_5_16x) (C := RX9) (T := TX9) (N := 6) hx hb hts i_X9 hown hK hP 28 rfl rfl 5 (by decide) (hts _ qw437) (fun _ h9 => h9) rfl dX5_foldBlock_100 ?_
        refine lv_iload hx hb dX5_foldBlock_103 (lv_at hl 4 rfl) ?_
        obtain ⟨hq27, hrun⟩ := chk9 hrun
        refine va_iald hx hb hK hP 33 30 rfl rfl (ixb_in hq27) dX5_foldBlock_105 ?_
        refine lv_istore (lv' := [(4, .int (p1_2w_91 6 (nn v6_91))), (0, .ref (p0a 0)), (1, .ref (p1a 0)), (2, .int p2), (3, .int v3_91), (6, .int v6_91)]) hx hb dX5_foldBlock_106 hl (by decide) rfl (fun ls hl => ?_)
        refine lv_aload_n hx hb dX5_foldBlock_108 rfl (lv_at hl 2 rfl) ?_
        refine va_get (D := (dC, dI)) (ci := 4) (v := .ref (p1a 3)) (C := RX1) (T := TX1) (N := 21) hx hb hts i_X1 hown hK hP 10 rfl rfl 2 (by decide) (hts _ qw435) (fun _ h9 => h9) rfl dX5_foldBlock_109 ?_
        refine va_get (D := (dC, dI)) (ci := 3) (v := .ref xp1_2_1_16x) (C := RX9) (T := TX9) (N := 6) hx hb hts i_X9 hown hK hP 28 rfl rfl 1 (by decide) (hts _ qw420) (fun _ h9 => h9) rfl dX5_foldBlock_112 ?_
        refine lv_iload hx hb dX5_foldBlock_115 (lv_at hl 5 rfl) ?_
        obtain ⟨hq28, hrun⟩ := chk9 hrun
        refine va_iald hx hb hK hP 29 26 rfl rfl (ixb_in hq28) dX5_foldBlock_117 ?_
        obtain ⟨o_29, hc_29, hrun⟩ := bnd9 hrun
        have hPx : va_P (dC, dI) cls ((List.flatten ([] : List va_W)) ++ (List.flatten ([(oX5 (p0a 0) p0a p0k p0w p0l), (oX1 (p1a 0) p1a p1k p1n p1w_91 p1l), (oX9 (p1a 3) (st1 (st1 (st1 (st1 (st1 p1_2a 2 xp1_2_1_16x) 3 xp1_2_2_16x) 4 xp1_2_3_16x) 5 xp1_2_4_16x) 6 xp1_2_5_16x) (st1 (st1 (st1 (st1 (st1 p1_2k 2 zp1_2_1_16x) 3 zp1_2_2_16x) 4 zp1_2_3_16x) 5 zp1_2_4_16x) 6 zp1_2_5_16x) (o16.2.2.2) p1_2w_91)] : List va_W))) H := vP_fa (vP_perm hP (bP (List.Perm.refl _)))
        have hDx : va_D A ((List.flatten ([] : List va_W)) ++ (List.flatten ([(oX5 (p0a 0) p0a p0k p0w p0l), (oX1 (p1a 0) p1a p1k p1n p1w_91 p1l), (oX9 (p1a 3) (st1 (st1 (st1 (st1 (st1 p1_2a 2 xp1_2_1_16x) 3 xp1_2_2_16x) 4 xp1_2_3_16x) 5 xp1_2_4_16x) 6 xp1_2_5_16x) (st1 (st1 (st1 (st1 (st1 p1_2k 2 zp1_2_1_16x) 3 zp1_2_2_16x) 4 zp1_2_3_16x) 5 zp1_2_4_16x) 6 zp1_2_5_16x) (o16.2.2.2) p1_2w_91)] : List va_W))) := vD_fa (vD_perm hD (bP (List.Perm.refl _)))
        have hKx : va_K (dC, dI) cls ((List.flatten ([] : List (List (ClassId × FieldType)))) ++ (List.flatten ([(tX5 p0k), (tX1 p1k), (tX9 (st1 (st1 (st1 (st1 (st1 p1_2k 2 zp1_2_1_16x) 3 zp1_2_2_16x) 4 zp1_2_3_16x) 5 zp1_2_4_16x) 6 zp1_2_5_16x))] : List (List (ClassId × FieldType))))) s := vK_fa (vK_perm hK (bP (List.Perm.refl _)))
        have hPc := vP_l hPx
        have hDc := vD_l hDx
        have hKc := vK_l hKx
        have hFc := vfree hDx hS hA
        refine va_calli (va_runSN (As := [.int (p1_2w_91 2 (nn v6_91))]) (rest := []) ⟨hx, hb, hml, hown, hts⟩ (kX11_isOperator l dC dI (p0 := (p1_2w_91 2 (nn v6_91))) (sz := _) (o := o_29) (hrun := hc_29)) ⟨(va_cnB 1 hts (gi_z qw348) rfl rfl rfl (hE.nw (List.mem_append_right _ (tbl_7 (i := 173) rfl)) rfl) (hts _ qw129) (by decide +kernel) ⟨Nat.le_of_ble_eq_true rfl, Nat.le_of_ble_eq_true rfl⟩), (hts _ qw350), trivial⟩ ⟨PRE.blind, PRE.of hE hS hFc hPc hKc hDc⟩ rfl rfl hl.1 rfl (lv_room (Nat.le_of_ble_eq_true rfl)) dX5_foldBlock_118 ⟨(show (hcX9 p1_2n (o16.2.2.2)) + 0 ≤ (hcX9 p1_2n (o.2.2.2)) from by have q0 := gmX9 hg_p1_2 hgn_p1_2; omega), (show (3 * (gcX9 p1_2n (o16.2.2.2))) + 0 ≤ (3 * (gcX9 p1_2n (o.2.2.2))) from by have q0 := gmX9 hg_p1_2 hgn_p1_2; omega)⟩) hS (fun q _ h => hFc q h) hFc (fun r30 u t H locs ht hvm hw hB hz1 hk1 hS => ?_)
        obtain ⟨b1, b2, b3⟩ := hB
        rw [ht] at b1
        obtain ⟨hP, hD, hK⟩ := JOINC (wc := (List.flatten ([] : List va_W))) (wr := (List.flatten ([(oX5 (p0a 0) p0a p0k p0w p0l), (oX1 (p1a 0) p1a p1k p1n p1w_91 p1l), (oX9 (p1a 3) (st1 (st1 (st1 (st1 (st1 p1_2a 2 xp1_2_1_16x) 3 xp1_2_2_16x) 4 xp1_2_3_16x) 5 xp1_2_4_16x) 6 xp1_2_5_16x) (st1 (st1 (st1 (st1 (st1 p1_2k 2 zp1_2_1_16x) 3 zp1_2_2_16x) 4 zp1_2_3_16x) 5 zp1_2_4_16x) 6 zp1_2_5_16x) (o16.2.2.2) p1_2w_91)] : List va_W))) (w1 := (List.flatten ([] : List va_W))) (t1 := (List.flatten ([] : List (List (ClassId × FieldType))))) hPx hDx hKx hk1 hFc b1 (va_K.moved hvm.symm b2) b3
        have hP : va_P (dC, dI) cls (List.flatten ([(oX5 (p0a 0) p0a p0k p0w p0l), (oX1 (p1a 0) p1a p1k p1n p1w_91 p1l), (oX9 (p1a 3) (st1 (st1 (st1 (st1 (st1 p1_2a 2 xp1_2_1_16x) 3 xp1_2_2_16x) 4 xp1_2_3_16x) 5 xp1_2_4_16x) 6 xp1_2_5_16x) (st1 (st1 (st1 (st1 (st1 p1_2k 2 zp1_2_1_16x) 3 zp1_2_2_16x) 4 zp1_2_3_16x) 5 zp1_2_4_16x) 6 zp1_2_5_16x) (o16.2.2.2) p1_2w_91)] : List va_W)) H := vP_perm (vP_fb hP) (bP (List.Perm.refl _))
        have hD : va_D A (List.flatten ([(oX5 (p0a 0) p0a p0k p0w p0l), (oX1 (p1a 0) p1a p1k p1n p1w_91 p1l), (oX9 (p1a 3) (st1 (st1 (st1 (st1 (st1 p1_2a 2 xp1_2_1_16x) 3 xp1_2_2_16x) 4 xp1_2_3_16x) 5 xp1_2_4_16x) 6 xp1_2_5_16x) (st1 (st1 (st1 (st1 (st1 p1_2k 2 zp1_2_1_16x) 3 zp1_2_2_16x) 4 zp1_2_3_16x) 5 zp1_2_4_16x) 6 zp1_2_5_16x) (o16.2.2.2) p1_2w_91)] : List va_W)) := vD_perm (vD_fb hD) (bP (List.Perm.refl _))
        have hK : va_K (dC, dI) cls (List.flatten ([(tX5 p0k), (tX1 p1k), (tX9 (st1 (st1 (st1 (st1 (st1 p1_2k 2 zp1_2_1_16x) 3 zp1_2_2_16x) 4 zp1_2_3_16x) 5 zp1_2_4_16x) 6 zp1_2_5_16x))] : List (List (ClassId × FieldType)))) s := vK_perm (vK_fb hK) (bP (List.Perm.refl _))
        obtain rfl : o_29 = r30 := hw.symm
        have J170 : ∀ (v3_170 : Int32) (p1_2w_170 : ST) (H : Heap) (locs : List Loc) (ls : Array Slot), (fX5_foldBlock_J170 (fX5_foldBlock_L91 p0w p2 o16 n_91) p2 o16 v6_91 p1w_91 p1_2w_91 v3_170 p1_2w_170) = some o91 → va_P (dC, dI) cls (List.flatten ([(oX5 (p0a 0) p0a p0k p0w p0l), (oX1 (p1a 0) p1a p1k p1n p1w_91 p1l), (oX9 (p1a 3) (st1 (st1 (st1 (st1 (st1 p1_2a 2 xp1_2_1_16x) 3 xp1_2_2_16x) 4 xp1_2_3_16x) 5 xp1_2_4_16x) 6 xp1_2_5_16x) (st1 (st1 (st1 (st1 (st1 p1_2k 2 zp1_2_1_16x) 3 zp1_2_2_16x) 4 zp1_2_3_16x) 5 zp1_2_4_16x) 6 zp1_2_5_16x) (o16.2.2.2) p1_2w_170)] : List va_W)) H → va_D A (List.flatten ([(oX5 (p0a 0) p0a p0k p0w p0l), (oX1 (p1a 0) p1a p1k p1n p1w_91 p1l), (oX9 (p1a 3) (st1 (st1 (st1 (st1 (st1 p1_2a 2 xp1_2_1_16x) 3 xp1_2_2_16x) 4 xp1_2_3_16x) 5 xp1_2_4_16x) 6 xp1_2_5_16x) (st1 (st1 (st1 (st1 (st1 p1_2k 2 zp1_2_1_16x) 3 zp1_2_2_16x) 4 zp1_2_3_16x) 5 zp1_2_4_16x) 6 zp1_2_5_16x) (o16.2.2.2) p1_2w_170)] : List va_W)) → va_K (dC, dI) cls (List.flatten ([(tX5 p0k), (tX1 p1k), (tX9 (st1 (st1 (st1 (st1 (st1 p1_2k 2 zp1_2_1_16x) 3 zp1_2_2_16x) 4 zp1_2_3_16x) 5 zp1_2_4_16x) 6 zp1_2_5_16x))] : List (List (ClassId × FieldType)))) s → va_S A s.heap H locs → lv_has ls 8 [(0, .ref (p0a 0)), (1, .ref (p1a 0)), (2, .int p2), (3, .int v3_170), (4, .int (p1_2w_91 6 (nn v6_91))), (6, .int v6_91)] → glX9 p1_2n (o16.2.2.2) → W p l e ({ frames := 4, cells := (hcX9 p1_2n (o.2.2.2)), slots := (3 * (gcX9 p1_2n (o.2.2.2))), locals := 113 } : Room) s m ([.ref (p0a 0), .ref (p1a 0), .int p2] : List Value).toArray below meth c H locs (hcX9 p1_2n (o16.2.2.2)) (3 * (gcX9 p1_2n (o16.2.2.2))) Q (F0 m 170 ls []) := by
          intro v3_170 p1_2w_170 H locs ls hrun hP hD hK hS hl hg_p1_2 
          unfold fX5_foldBlock_J170 at hrun
          refine lv_aload_n hx hb dX5_foldBlock_170 rfl (lv_at hl 1 rfl) ?_
          refine lv_iload_n hx hb dX5_foldBlock_171 rfl (lv_at hl 2 rfl) ?_
          refine lv_iload hx hb dX5_foldBlock_172 (lv_at hl 5 rfl) ?_
          obtain ⟨o_31, hc_31, hrun⟩ := bnd9 hrun
          have hPx : va_P (dC, dI) cls ((List.flatten ([(oX1 (p1a 0) p1a p1k p1n p1w_91 p1l), (oX9 (p1a 3) (st1 (st1 (st1 (st1 (st1 p1_2a 2 xp1_2_1_16x) 3 xp1_2_2_16x) 4 xp1_2_3_16x) 5 xp1_2_4_16x) 6 xp1_2_5_16x) (st1 (st1 (st1 (st1 (st1 p1_2k 2 zp1_2_1_16x) 3 zp1_2_2_16x) 4 zp1_2_3_16x) 5 zp1_2_4_16x) 6 zp1_2_5_16x) (o16.2.2.2) p1_2w_170)] : List va_W)) ++ (List.flatten ([(oX5 (p0a 0) p0a p0k p0w p0l)] : List va_W))) H := vP_fa (vP_perm hP (bP ((((((List.Perm.refl _)).cons _).trans (List.Perm.swap _ _ _))).trans ((((((List.Perm.refl _)).cons _).trans (List.Perm.swap _ _ _))).cons _))))
          have hDx : va_D A ((List.flatten ([(oX1 (p1a 0) p1a p1k p1n p1w_91 p1l), (oX9 (p1a 3) (st1 (st1 (st1 (st1 (st1 p1_2a 2 xp1_2_1_16x) 3 xp1_2_2_16x) 4 xp1_2_3_16x) 5 xp1_2_4_16x) 6 xp1_2_5_16x) (st1 (st1 (st1 (st1 (st1 p1_2k 2 zp1_2_1_16x) 3 zp1_2_2_16x) 4 zp1_2_3_16x) 5 zp1_2_4_16x) 6 zp1_2_5_16x) (o16.2.2.2) p1_2w_170)] : List va_W)) ++ (List.flatten ([(oX5 (p0a 0) p0a p0k p0w p0l)] : List va_W))) := vD_fa (vD_perm hD (bP ((((((List.Perm.refl _)).cons _).trans (List.Perm.swap _ _ _))).trans ((((((List.Perm.refl _)).cons _).trans (List.Perm.swap _ _ _))).cons _))))
          have hKx : va_K (dC, dI) cls ((List.flatten ([(tX1 p1k), (tX9 (st1 (st1 (st1 (st1 (st1 p1_2k 2 zp1_2_1_16x) 3 zp1_2_2_16x) 4 zp1_2_3_16x) 5 zp1_2_4_16x) 6 zp1_2_5_16x))] : List (List (ClassId × FieldType)))) ++ (List.flatten ([(tX5 p0k)] : List (List (ClassId × FieldType))))) s := vK_fa (vK_perm hK (bP ((((((List.Perm.refl _)).cons _).trans (List.Perm.swap _ _ _))).trans ((((((List.Perm.refl _)).cons _).trans (List.Perm.swap _ _ _))).cons _))))
          have hPc := vP_l hPx
          have hDc := vD_l hDx
          have hKc := vK_l hKx
          have hFc := vfree hDx hS hA
          refine va_callv (va_runV (As := [.int p2, .int v6_91]) (rest := []) ⟨hx, hb, hml, hown, hts⟩ (kX1_link l dC dI (p0a := p1a) (p0k := p1k) (p0n := p1n) (p0w := p1w_91) (p0l := p1l) (p1 := p2) (p2 := v6_91) (p0_2a := (st1 (st1 (st1 (st1 (st1 p1_2a 2 xp1_2_1_16x) 3 xp1_2_2_16x) 4 xp1_2_3_16x) 5 xp1_2_4_16x) 6 xp1_2_5_16x)) (p0_2k := (st1 (st1 (st1 (st1 (st1 p1_2k 2 zp1_2_1_16x) 3 zp1_2_2_16x) 4 zp1_2_3_16x) 5 zp1_2_4_16x) 6 zp1_2_5_16x)) (p0_2n := (o16.2.2.2)) (p0_2w := p1_2w_170) (sz := _) (o := o_31) (hrun := hc_31)) (cwV 2 hts (gi_V qw494 qw141 qw142 qw126 (gi_z qw139)) rfl rfl rfl (by decide +kernel) ⟨Nat.le_of_ble_eq_true rfl, Nat.le_of_ble_eq_true rfl⟩) ⟨PRE.blind, va_recv hKc hPc (ci := 4) (q0 := 0) rfl rfl, PRE.of hE hS hFc hPc hKc hDc⟩ rfl rfl hl.1 rfl (lv_room (Nat.le_of_ble_eq_true rfl)) dX5_foldBlock_174 ⟨(show (hcX9 p1_2n (o16.2.2.2)) + 0 ≤ (hcX9 p1_2n (o.2.2.2)) from by have q0 := gmX9 hg_p1_2 hgn_p1_2; omega), (show (3 * (gcX9 p1_2n (o16.2.2.2))) + 0 ≤ (3 * (gcX9 p1_2n (o.2.2.2))) from by have q0 := gmX9 hg_p1_2 hgn_p1_2; omega)⟩) hS (fun q _ h => hFc q h) hFc (fun u t H locs ht hvm hw hB hz1 hk1 hS => ?_)
          obtain ⟨b1, b2, b3⟩ := hB
          rw [ht] at b1
          obtain ⟨hP, hD, hK⟩ := JOINC (wc := (List.flatten ([(oX1 (p1a 0) p1a p1k p1n p1w_91 p1l), (oX9 (p1a 3) (st1 (st1 (st1 (st1 (st1 p1_2a 2 xp1_2_1_16x) 3 xp1_2_2_16x) 4 xp1_2_3_16x) 5 xp1_2_4_16x) 6 xp1_2_5_16x) (st1 (st1 (st1 (st1 (st1 p1_2k 2 zp1_2_1_16x) 3 zp1_2_2_16x) 4 zp1_2_3_16x) 5 zp1_2_4_16x) 6 zp1_2_5_16x) (o16.2.2.2) p1_2w_170)] : List va_W))) (wr := (List.flatten ([(oX5 (p0a 0) p0a p0k p0w p0l)] : List va_W))) (w1 := (List.flatten ([(oX1 (p1a 0) p1a p1k p1n (o_31.1) p1l), (oX9 (p1a 3) (st1 (st1 (st1 (st1 (st1 p1_2a 2 xp1_2_1_16x) 3 xp1_2_2_16x) 4 xp1_2_3_16x) 5 xp1_2_4_16x) 6 xp1_2_5_16x) (st1 (st1 (st1 (st1 (st1 p1_2k 2 zp1_2_1_16x) 3 zp1_2_2_16x) 4 zp1_2_3_16x) 5 zp1_2_4_16x) 6 zp1_2_5_16x) (o16.2.2.2) (o_31.2))] : List va_W))) (t1 := (List.flatten ([(tX1 p1k), (tX9 (st1 (st1 (st1 (st1 (st1 p1_2k 2 zp1_2_1_16x) 3 zp1_2_2_16x) 4 zp1_2_3_16x) 5 zp1_2_4_16x) 6 zp1_2_5_16x))] : List (List (ClassId × FieldType))))) hPx hDx hKx hk1 hFc b1 (va_K.moved hvm.symm b2) b3
          have hP : va_P (dC, dI) cls (List.flatten ([(oX5 (p0a 0) p0a p0k p0w p0l), (oX1 (p1a 0) p1a p1k p1n (o_31.1) p1l), (oX9 (p1a 3) (st1 (st1 (st1 (st1 (st1 p1_2a 2 xp1_2_1_16x) 3 xp1_2_2_16x) 4 xp1_2_3_16x) 5 xp1_2_4_16x) 6 xp1_2_5_16x) (st1 (st1 (st1 (st1 (st1 p1_2k 2 zp1_2_1_16x) 3 zp1_2_2_16x) 4 zp1_2_3_16x) 5 zp1_2_4_16x) 6 zp1_2_5_16x) (o16.2.2.2) (o_31.2))] : List va_W)) H := vP_perm (vP_fb hP) (bP (((((((List.Perm.refl _)).cons _).trans (List.Perm.swap _ _ _))).cons _).trans (List.Perm.swap _ _ _)))
          have hD : va_D A (List.flatten ([(oX5 (p0a 0) p0a p0k p0w p0l), (oX1 (p1a 0) p1a p1k p1n (o_31.1) p1l), (oX9 (p1a 3) (st1 (st1 (st1 (st1 (st1 p1_2a 2 xp1_2_1_16x) 3 xp1_2_2_16x) 4 xp1_2_3_16x) 5 xp1_2_4_16x) 6 xp1_2_5_16x) (st1 (st1 (st1 (st1 (st1 p1_2k 2 zp1_2_1_16x) 3 zp1_2_2_16x) 4 zp1_2_3_16x) 5 zp1_2_4_16x) 6 zp1_2_5_16x) (o16.2.2.2) (o_31.2))] : List va_W)) := vD_perm (vD_fb hD) (bP (((((((List.Perm.refl _)).cons _).trans (List.Perm.swap _ _ _))).cons _).trans (List.Perm.swap _ _ _)))
          have hK : va_K (dC, dI) cls (List.flatten ([(tX5 p0k), (tX1 p1k), (tX9 (st1 (st1 (st1 (st1 (st1 p1_2k 2 zp1_2_1_16x) 3 zp1_2_2_16x) 4 zp1_2_3_16x) 5 zp1_2_4_16x) 6 zp1_2_5_16x))] : List (List (ClassId × FieldType)))) s := vK_perm (vK_fb hK) (bP (((((((List.Perm.refl _)).cons _).trans (List.Perm.swap _ _ _))).cons _).trans (List.Perm.swap _ _ _)))
          refine lv_iload hx hb dX5_foldBlock_177 (lv_at hl 4 rfl) ?_
          refine lv_istore (lv' := [(6, .int (p1_2w_91 6 (nn v6_91))), (0, .ref (p0a 0)), (1, .ref (p1a 0)), (2, .int p2), (3, .int v3_170), (4, .int (p1_2w_91 6 (nn v6_91)))]) hx hb dX5_foldBlock_179 hl (by decide) rfl (fun ls hl => ?_)
          refine lv_goto (tgt := 91) hx hb dX5_foldBlock_181 (by decide) ?_
          exact IH91 v3_170 (p1_2w_91 6 (nn v6_91)) (o_31.1) (o_31.2) o91 _ _ _ hrun hP hD hK hS (lv_sub hl [1, 2, 3, 4, 0] rfl) hg_p1_2 hk91
        rcases br9 hrun with ⟨hc32, hrun⟩ | ⟨hc32, hrun⟩
        · refine lv_if_eq (tgt := 170) hx hb dX5_foldBlock_121 (by decide) (fun _ => ?_) (fun c => absurd hc32 c)
          exact J170 v3_91 p1_2w_91 _ _ _ hrun hP hD hK hS (lv_sub hl [1, 2, 3, 4, 0, 5] rfl) hg_p1_2
        · refine lv_if_eq (tgt := 170) hx hb dX5_foldBlock_121 (by decide) (fun c => absurd c hc32) (fun _ => ?_)
          refine lv_aload_n hx hb dX5_foldBlock_124 rfl (lv_at hl 1 rfl) ?_
          refine va_get (D := (dC, dI)) (ci := 7) (v := .ref (p0a 4)) (C := RX5) (T := TX5) (N := 12) hx hb hts i_X5 hown hK hP 0 rfl rfl 3 (by decide) (hts _ qw490) (fun _ h9 => h9) rfl dX5_foldBlock_125 ?_
          refine lv_aload_n hx hb dX5_foldBlock_128 rfl (lv_at hl 2 rfl) ?_
          refine va_get (D := (dC, dI)) (ci := 4) (v := .ref (p1a 3)) (C := RX1) (T := TX1) (N := 21) hx hb hts i_X1 hown hK hP 10 rfl rfl 2 (by decide) (hts _ qw435) (fun _ h9 => h9) rfl dX5_foldBlock_129 ?_
          refine va_get (D := (dC, dI)) (ci := 3) (v := .ref xp1_2_2_16x) (C := RX9) (T := TX9) (N := 6) hx hb hts i_X9 hown hK hP 28 rfl rfl 2 (by decide) (hts _ qw436) (fun _ h9 => h9) rfl dX5_foldBlock_132 ?_
          refine lv_iload hx hb dX5_foldBlock_135 (lv_at hl 5 rfl) ?_
          obtain ⟨hq33, hrun⟩ := chk9 hrun
          refine va_iald hx hb hK hP 30 27 rfl rfl (ixb_in hq33) dX5_foldBlock_137 ?_
          obtain ⟨hq34, hrun⟩ := chk9 hrun
          refine va_iald hx hb hK hP 3 2 rfl rfl (ixb_in hq34) dX5_foldBlock_138 ?_
          refine lv_iconst (v := 1) hx hb dX5_foldBlock_139 (by decide) ?_
          rcases br9 hrun with ⟨hc35, hrun⟩ | ⟨hc35, hrun⟩
          · refine lv_icmp_ne (tgt := 170) hx hb dX5_foldBlock_140 (by decide) (fun c => absurd hc35 c) (fun _ => ?_)
            refine lv_aload_n hx hb dX5_foldBlock_143 rfl (lv_at hl 2 rfl) ?_
            refine va_get (D := (dC, dI)) (ci := 4) (v := .ref (p1a 3)) (C := RX1) (T := TX1) (N := 21) hx hb hts i_X1 hown hK hP 10 rfl rfl 2 (by decide) (hts _ qw435) (fun _ h9 => h9) rfl dX5_foldBlock_144 ?_
            refine lv_iload hx hb dX5_foldBlock_147 (lv_at hl 5 rfl) ?_
            refine lv_aload_n hx hb dX5_foldBlock_149 rfl (lv_at hl 1 rfl) ?_
            refine va_get (D := (dC, dI)) (ci := 7) (v := .ref (p0a 5)) (C := RX5) (T := TX5) (N := 12) hx hb hts i_X5 hown hK hP 0 rfl rfl 4 (by decide) (hts _ qw491) (fun _ h9 => h9) rfl dX5_foldBlock_150 ?_
            refine lv_aload_n hx hb dX5_foldBlock_153 rfl (lv_at hl 2 rfl) ?_
            refine va_get (D := (dC, dI)) (ci := 4) (v := .ref (p1a 3)) (C := RX1) (T := TX1) (N := 21) hx hb hts i_X1 hown hK hP 10 rfl rfl 2 (by decide) (hts _ qw435) (fun _ h9 => h9) rfl dX5_foldBlock_154 ?_
            refine va_get (D := (dC, dI)) (ci := 3) (v := .ref xp1_2_2_16x) (C := RX9) (T := TX9) (N := 6) hx hb hts i_X9 hown hK hP 28 rfl rfl 2 (by decide) (hts _ qw436) (fun _ h9 => h9) rfl dX5_foldBlock_157 ?_
            refine lv_iload hx hb dX5_foldBlock_160 (lv_at hl 5 rfl) ?_
            obtain ⟨hq36, hrun⟩ := chk9 hrun
            refine va_iald hx hb hK hP 30 27 rfl rfl (ixb_in hq36) dX5_foldBlock_162 ?_
            obtain ⟨hq37, hrun⟩ := chk9 hrun
            refine va_iald hx hb hK hP 4 3 rfl rfl (ixb_in hq37) dX5_foldBlock_163 ?_
            obtain ⟨o_38, hc_38, hrun⟩ := bnd9 hrun
            have hPx : va_P (dC, dI) cls ((List.flatten ([(oX9 (p1a 3) (st1 (st1 (st1 (st1 (st1 p1_2a 2 xp1_2_1_16x) 3 xp1_2_2_16x) 4 xp1_2_3_16x) 5 xp1_2_4_16x) 6 xp1_2_5_16x) (st1 (st1 (st1 (st1 (st1 p1_2k 2 zp1_2_1_16x) 3 zp1_2_2_16x) 4 zp1_2_3_16x) 5 zp1_2_4_16x) 6 zp1_2_5_16x) (o16.2.2.2) p1_2w_91)] : List va_W)) ++ (List.flatten ([(oX5 (p0a 0) p0a p0k p0w p0l), (oX1 (p1a 0) p1a p1k p1n p1w_91 p1l)] : List va_W))) H := vP_fa (vP_perm hP (bP (((((((List.Perm.refl _)).cons _).trans (List.Perm.swap _ _ _))).cons _).trans (List.Perm.swap _ _ _))))
            have hDx : va_D A ((List.flatten ([(oX9 (p1a 3) (st1 (st1 (st1 (st1 (st1 p1_2a 2 xp1_2_1_16x) 3 xp1_2_2_16x) 4 xp1_2_3_16x) 5 xp1_2_4_16x) 6 xp1_2_5_16x) (st1 (st1 (st1 (st1 (st1 p1_2k 2 zp1_2_1_16x) 3 zp1_2_2_16x) 4 zp1_2_3_16x) 5 zp1_2_4_16x) 6 zp1_2_5_16x) (o16.2.2.2) p1_2w_91)] : List va_W)) ++ (List.flatten ([(oX5 (p0a 0) p0a p0k p0w p0l), (oX1 (p1a 0) p1a p1k p1n p1w_91 p1l)] : List va_W))) := vD_fa (vD_perm hD (bP (((((((List.Perm.refl _)).cons _).trans (List.Perm.swap _ _ _))).cons _).trans (List.Perm.swap _ _ _))))
            have hKx : va_K (dC, dI) cls ((List.flatten ([(tX9 (st1 (st1 (st1 (st1 (st1 p1_2k 2 zp1_2_1_16x) 3 zp1_2_2_16x) 4 zp1_2_3_16x) 5 zp1_2_4_16x) 6 zp1_2_5_16x))] : List (List (ClassId × FieldType)))) ++ (List.flatten ([(tX5 p0k), (tX1 p1k)] : List (List (ClassId × FieldType))))) s := vK_fa (vK_perm hK (bP (((((((List.Perm.refl _)).cons _).trans (List.Perm.swap _ _ _))).cons _).trans (List.Perm.swap _ _ _))))
            have hPc := vP_l hPx
            have hDc := vD_l hDx
            have hKc := vK_l hKx
            have hFc := vfree hDx hS hA
            refine va_callv (va_runS (As := [.ref (p1a 3), .int v6_91, .int (p0w 5 (nn (p1_2w_91 3 (nn v6_91))))]) (rest := []) ⟨hx, hb, hml, hown, hts⟩ (kX5_becomeNumber l dC dI (p0a := (st0 (p1a 3) (st1 (st1 (st1 (st1 (st1 p1_2a 2 xp1_2_1_16x) 3 xp1_2_2_16x) 4 xp1_2_3_16x) 5 xp1_2_4_16x) 6 xp1_2_5_16x))) (p0k := (st1 (st1 (st1 (st1 (st1 p1_2k 2 zp1_2_1_16x) 3 zp1_2_2_16x) 4 zp1_2_3_16x) 5 zp1_2_4_16x) 6 zp1_2_5_16x)) (p0n := (o16.2.2.2)) (p0w := p1_2w_91) (p1 := v6_91) (p2 := (p0w 5 (nn (p1_2w_91 3 (nn v6_91))))) (sz := _) (o := o_38) (hrun := hc_38)) (va_cwS 3 hts (gi_S qw496 qw497 qw442 (gi_z qw495)) rfl rfl rfl (by decide +kernel) ⟨Nat.le_of_ble_eq_true rfl, Nat.le_of_ble_eq_true rfl⟩) ⟨PRE.blind, PRE.of hE hS hFc hPc hKc hDc⟩ rfl rfl hl.1 rfl (lv_room (Nat.le_of_ble_eq_true rfl)) dX5_foldBlock_164 ⟨(show (hcX9 p1_2n (o16.2.2.2)) + 0 ≤ (hcX9 p1_2n (o.2.2.2)) from by have q0 := gmX9 hg_p1_2 hgn_p1_2; omega), (show (3 * (gcX9 p1_2n (o16.2.2.2))) + 0 ≤ (3 * (gcX9 p1_2n (o.2.2.2))) from by have q0 := gmX9 hg_p1_2 hgn_p1_2; omega)⟩) hS (fun q _ h => hFc q h) hFc (fun u t H locs ht hvm hw hB hz1 hk1 hS => ?_)
            obtain ⟨b1, b2, b3⟩ := hB
            rw [ht] at b1
            obtain ⟨hP, hD, hK⟩ := JOINC (wc := (List.flatten ([(oX9 (p1a 3) (st1 (st1 (st1 (st1 (st1 p1_2a 2 xp1_2_1_16x) 3 xp1_2_2_16x) 4 xp1_2_3_16x) 5 xp1_2_4_16x) 6 xp1_2_5_16x) (st1 (st1 (st1 (st1 (st1 p1_2k 2 zp1_2_1_16x) 3 zp1_2_2_16x) 4 zp1_2_3_16x) 5 zp1_2_4_16x) 6 zp1_2_5_16x) (o16.2.2.2) p1_2w_91)] : List va_W))) (wr := (List.flatten ([(oX5 (p0a 0) p0a p0k p0w p0l), (oX1 (p1a 0) p1a p1k p1n p1w_91 p1l)] : List va_W))) (w1 := (List.flatten ([(oX9 (p1a 3) (st1 (st1 (st1 (st1 (st1 p1_2a 2 xp1_2_1_16x) 3 xp1_2_2_16x) 4 xp1_2_3_16x) 5 xp1_2_4_16x) 6 xp1_2_5_16x) (st1 (st1 (st1 (st1 (st1 p1_2k 2 zp1_2_1_16x) 3 zp1_2_2_16x) 4 zp1_2_3_16x) 5 zp1_2_4_16x) 6 zp1_2_5_16x) (o16.2.2.2) o_38)] : List va_W))) (t1 := (List.flatten ([(tX9 (st1 (st1 (st1 (st1 (st1 p1_2k 2 zp1_2_1_16x) 3 zp1_2_2_16x) 4 zp1_2_3_16x) 5 zp1_2_4_16x) 6 zp1_2_5_16x))] : List (List (ClassId × FieldType))))) hPx hDx hKx hk1 hFc b1 (va_K.moved hvm.symm b2) b3
            have hP : va_P (dC, dI) cls (List.flatten ([(oX5 (p0a 0) p0a p0k p0w p0l), (oX1 (p1a 0) p1a p1k p1n p1w_91 p1l), (oX9 (p1a 3) (st1 (st1 (st1 (st1 (st1 p1_2a 2 xp1_2_1_16x) 3 xp1_2_2_16x) 4 xp1_2_3_16x) 5 xp1_2_4_16x) 6 xp1_2_5_16x) (st1 (st1 (st1 (st1 (st1 p1_2k 2 zp1_2_1_16x) 3 zp1_2_2_16x) 4 zp1_2_3_16x) 5 zp1_2_4_16x) 6 zp1_2_5_16x) (o16.2.2.2) o_38)] : List va_W)) H := vP_perm (vP_fb hP) (bP ((((((List.Perm.refl _)).cons _).trans (List.Perm.swap _ _ _))).trans ((((((List.Perm.refl _)).cons _).trans (List.Perm.swap _ _ _))).cons _)))
            have hD : va_D A (List.flatten ([(oX5 (p0a 0) p0a p0k p0w p0l), (oX1 (p1a 0) p1a p1k p1n p1w_91 p1l), (oX9 (p1a 3) (st1 (st1 (st1 (st1 (st1 p1_2a 2 xp1_2_1_16x) 3 xp1_2_2_16x) 4 xp1_2_3_16x) 5 xp1_2_4_16x) 6 xp1_2_5_16x) (st1 (st1 (st1 (st1 (st1 p1_2k 2 zp1_2_1_16x) 3 zp1_2_2_16x) 4 zp1_2_3_16x) 5 zp1_2_4_16x) 6 zp1_2_5_16x) (o16.2.2.2) o_38)] : List va_W)) := vD_perm (vD_fb hD) (bP ((((((List.Perm.refl _)).cons _).trans (List.Perm.swap _ _ _))).trans ((((((List.Perm.refl _)).cons _).trans (List.Perm.swap _ _ _))).cons _)))
            have hK : va_K (dC, dI) cls (List.flatten ([(tX5 p0k), (tX1 p1k), (tX9 (st1 (st1 (st1 (st1 (st1 p1_2k 2 zp1_2_1_16x) 3 zp1_2_2_16x) 4 zp1_2_3_16x) 5 zp1_2_4_16x) 6 zp1_2_5_16x))] : List (List (ClassId × FieldType)))) s := vK_perm (vK_fb hK) (bP ((((((List.Perm.refl _)).cons _).trans (List.Perm.swap _ _ _))).trans ((((((List.Perm.refl _)).cons _).trans (List.Perm.swap _ _ _))).cons _)))
            refine lv_iinc (v := (v3_91 + 1)) (lv' := [(3, .int (v3_91 + 1)), (4, .int (p1_2w_91 6 (nn v6_91))), (0, .ref (p0a 0)), (1, .ref (p1a 0)), (2, .int p2), (6, .int v6_91)]) hx hb dX5_foldBlock_167 hl (k := 4) rfl rfl (by decide) rfl (fun ls hl => ?_)
            exact J170 (v3_91 + 1) o_38 _ _ _ hrun hP hD hK hS (lv_sub hl [2, 3, 4, 0, 1, 5] rfl) hg_p1_2
          · refine lv_icmp_ne (tgt := 170) hx hb dX5_foldBlock_140 (by decide) (fun _ => ?_) (fun c => absurd c hc35)
            exact J170 v3_91 p1_2w_91 _ _ _ hrun hP hD hK hS (lv_sub hl [1, 2, 3, 4, 0, 5] rfl) hg_p1_2
  obtain ⟨o91, hc91, hrun⟩ := bnd9 hrun
  refine L91 NF (o16.1) (o_1.1) (o16.2.1) (o16.2.2.1) o91 _ _ _ hc91 hP hD hK hS (lv_sub hl [1, 2, 3, 4, 0] rfl) hg_p1_2 ?_
  intro H locs ls hP hD hK hS hl hg_p1_2
  have hl := hl
  refine lv_iload_n hx hb dX5_foldBlock_184 rfl (lv_at hl 3 rfl) ?_
  refine lv_aload_n hx hb dX5_foldBlock_185 rfl (lv_at hl 0 rfl) ?_
  refine lv_aload_n hx hb dX5_foldBlock_186 rfl (lv_at hl 1 rfl) ?_
  refine lv_iload_n hx hb dX5_foldBlock_187 rfl (lv_at hl 2 rfl) ?_
  obtain ⟨o_39, hc_39, hrun⟩ := bnd9 hrun
  have hPx : va_P (dC, dI) cls ((List.flatten ([(oX5 (p0a 0) p0a p0k p0w p0l), (oX1 (p1a 0) p1a p1k p1n (o91.2.1) p1l)] : List va_W)) ++ (List.flatten ([(oX9 (p1a 3) (st1 (st1 (st1 (st1 (st1 p1_2a 2 xp1_2_1_16x) 3 xp1_2_2_16x) 4 xp1_2_3_16x) 5 xp1_2_4_16x) 6 xp1_2_5_16x) (st1 (st1 (st1 (st1 (st1 p1_2k 2 zp1_2_1_16x) 3 zp1_2_2_16x) 4 zp1_2_3_16x) 5 zp1_2_4_16x) 6 zp1_2_5_16x) (o16.2.2.2) (o91.2.2))] : List va_W))) H := vP_fa (vP_perm hP (bP (List.Perm.refl _)))
  have hDx : va_D A ((List.flatten ([(oX5 (p0a 0) p0a p0k p0w p0l), (oX1 (p1a 0) p1a p1k p1n (o91.2.1) p1l)] : List va_W)) ++ (List.flatten ([(oX9 (p1a 3) (st1 (st1 (st1 (st1 (st1 p1_2a 2 xp1_2_1_16x) 3 xp1_2_2_16x) 4 xp1_2_3_16x) 5 xp1_2_4_16x) 6 xp1_2_5_16x) (st1 (st1 (st1 (st1 (st1 p1_2k 2 zp1_2_1_16x) 3 zp1_2_2_16x) 4 zp1_2_3_16x) 5 zp1_2_4_16x) 6 zp1_2_5_16x) (o16.2.2.2) (o91.2.2))] : List va_W))) := vD_fa (vD_perm hD (bP (List.Perm.refl _)))
  have hKx : va_K (dC, dI) cls ((List.flatten ([(tX5 p0k), (tX1 p1k)] : List (List (ClassId × FieldType)))) ++ (List.flatten ([(tX9 (st1 (st1 (st1 (st1 (st1 p1_2k 2 zp1_2_1_16x) 3 zp1_2_2_16x) 4 zp1_2_3_16x) 5 zp1_2_4_16x) 6 zp1_2_5_16x))] : List (List (ClassId × FieldType))))) s := vK_fa (vK_perm hK (bP (List.Perm.refl _)))
  have hPc := vP_l hPx
  have hDc := vD_l hDx
  have hKc := vK_l hKx
  have hFc := vfree hDx hS hA
  refine va_calli (va_runV (As := [.ref (p1a 0), .int p2]) (rest := [.int (o91.1)]) ⟨hx, hb, hml, hown, hts⟩ (kX5_foldEnd l dC dI (p0a := p0a) (p0k := p0k) (p0w := p0w) (p0l := p0l) (p1a := p1a) (p1k := p1k) (p1n := p1n) (p1w := (o91.2.1)) (p1l := p1l) (p2 := p2) (sz := _) (o := o_39) (hrun := hc_39)) (cwV 2 hts (gi_V qw501 qw502 qw503 qw442 (gi_z qw500)) rfl rfl rfl (by decide +kernel) ⟨Nat.le_of_ble_eq_true rfl, Nat.le_of_ble_eq_true rfl⟩) ⟨PRE.blind, va_recv hKc hPc (ci := 7) (q0 := 0) rfl rfl, PRE.of hE hS hFc hPc hKc hDc⟩ rfl rfl hl.1 rfl (lv_room (Nat.le_of_ble_eq_true rfl)) dX5_foldBlock_188 ⟨(show (hcX9 p1_2n (o16.2.2.2)) + 0 ≤ (hcX9 p1_2n (o.2.2.2)) from by have q0 := gmX9 hg_p1_2 hgn_p1_2; omega), (show (3 * (gcX9 p1_2n (o16.2.2.2))) + 0 ≤ (3 * (gcX9 p1_2n (o.2.2.2))) from by have q0 := gmX9 hg_p1_2 hgn_p1_2; omega)⟩) hS (fun q _ h => hFc q h) hFc (fun r40 u t H locs ht hvm hw hB hz1 hk1 hS => ?_)
  obtain ⟨b1, b2, b3⟩ := hB
  rw [ht] at b1
  obtain ⟨hP, hD, hK⟩ := JOINC (wc := (List.flatten ([(oX5 (p0a 0) p0a p0k p0w p0l), (oX1 (p1a 0) p1a p1k p1n (o91.2.1) p1l)] : List va_W))) (wr := (List.flatten ([(oX9 (p1a 3) (st1 (st1 (st1 (st1 (st1 p1_2a 2 xp1_2_1_16x) 3 xp1_2_2_16x) 4 xp1_2_3_16x) 5 xp1_2_4_16x) 6 xp1_2_5_16x) (st1 (st1 (st1 (st1 (st1 p1_2k 2 zp1_2_1_16x) 3 zp1_2_2_16x) 4 zp1_2_3_16x) 5 zp1_2_4_16x) 6 zp1_2_5_16x) (o16.2.2.2) (o91.2.2))] : List va_W))) (w1 := (List.flatten ([(oX5 (p0a 0) p0a p0k p0w p0l), (oX1 (p1a 0) p1a p1k p1n (o_39.2) p1l)] : List va_W))) (t1 := (List.flatten ([(tX5 p0k), (tX1 p1k)] : List (List (ClassId × FieldType))))) hPx hDx hKx hk1 hFc b1 (va_K.moved hvm.symm b2) b3
  have hP : va_P (dC, dI) cls (List.flatten ([(oX5 (p0a 0) p0a p0k p0w p0l), (oX1 (p1a 0) p1a p1k p1n (o_39.2) p1l), (oX9 (p1a 3) (st1 (st1 (st1 (st1 (st1 p1_2a 2 xp1_2_1_16x) 3 xp1_2_2_16x) 4 xp1_2_3_16x) 5 xp1_2_4_16x) 6 xp1_2_5_16x) (st1 (st1 (st1 (st1 (st1 p1_2k 2 zp1_2_1_16x) 3 zp1_2_2_16x) 4 zp1_2_3_16x) 5 zp1_2_4_16x) 6 zp1_2_5_16x) (o16.2.2.2) (o91.2.2))] : List va_W)) H := vP_perm (vP_fb hP) (bP (List.Perm.refl _))
  have hD : va_D A (List.flatten ([(oX5 (p0a 0) p0a p0k p0w p0l), (oX1 (p1a 0) p1a p1k p1n (o_39.2) p1l), (oX9 (p1a 3) (st1 (st1 (st1 (st1 (st1 p1_2a 2 xp1_2_1_16x) 3 xp1_2_2_16x) 4 xp1_2_3_16x) 5 xp1_2_4_16x) 6 xp1_2_5_16x) (st1 (st1 (st1 (st1 (st1 p1_2k 2 zp1_2_1_16x) 3 zp1_2_2_16x) 4 zp1_2_3_16x) 5 zp1_2_4_16x) 6 zp1_2_5_16x) (o16.2.2.2) (o91.2.2))] : List va_W)) := vD_perm (vD_fb hD) (bP (List.Perm.refl _))
  have hK : va_K (dC, dI) cls (List.flatten ([(tX5 p0k), (tX1 p1k), (tX9 (st1 (st1 (st1 (st1 (st1 p1_2k 2 zp1_2_1_16x) 3 zp1_2_2_16x) 4 zp1_2_3_16x) 5 zp1_2_4_16x) 6 zp1_2_5_16x))] : List (List (ClassId × FieldType)))) s := vK_perm (vK_fb hK) (bP (List.Perm.refl _))
  obtain rfl : r40 = (o_39.1) := hw
  refine lv_iadd hx hb dX5_foldBlock_191 ?_
  have ho9 : (((o91.1) + (o_39.1)), (o_39.2), (o91.2.2), (o16.2.2.2)) = o := Option.some.inj hrun
  subst ho9
  subst hQ
  exact W.iret (v := ((o91.1) + (o_39.1))) hx hb hr (fun t ht hW => ⟨⟨((o91.1) + (o_39.1)), (), rfl, rfl, ⟨xp1_2_1_16x, zp1_2_1_16x, xp1_2_2_16x, zp1_2_2_16x, xp1_2_3_16x, zp1_2_3_16x, xp1_2_4_16x, zp1_2_4_16x, xp1_2_5_16x, zp1_2_5_16x, by rw [ht]; exact hP, va_K.moved hW.alike hK, hD⟩⟩, hS.F ht⟩) hS.2.2 dX5_foldBlock_192
def fX5_isWay_J96 (y0_96 : Int32) : Option Int32 := (if y0_96 = 0 ∨ y0_96 = 1 then some y0_96 else none)
def fX5_isWay_J87 (p3 : Int32) (y0_87 : Int32) : Option Int32 := (if y0_87 = p3 then (fX5_isWay_J96 1) else (fX5_isWay_J96 0))
def fX5_isWay_J61 (y0_61 : Int32) : Option Int32 := (if y0_61 = 0 ∨ y0_61 = 1 then some y0_61 else none)
def fX5_isWay (p0w : ST) (p0l : SL) (p1w : ST) (p2 : Int32) (p3 : Int32) : Option Int32 := ((fX11_holds (p0l 0 7) p2).bind fun (o_1 : Int32) => (if o_1 = 0 then some 0 else (if ixb p2 60 = true then (if (p1w 8 (nn p2)) = 23 then (if ixb p2 60 = true then (if ixb (p1w 9 (nn p2)) 250 = true then (if (p0w 4 (nn (p1w 9 (nn p2)))) = 1 then (if ixb (p1w 9 (nn p2)) 250 = true then (if (p0w 5 (nn (p1w 9 (nn p2)))) = 0 then (if ixb p2 60 = true then (fX5_isWay_J87 p3 (p1w 11 (nn p2))) else none) else (if ixb p2 60 = true then (fX5_isWay_J87 p3 (p1w 10 (nn p2))) else none)) else none) else (if ixb (p1w 9 (nn p2)) 250 = true then (if (p0w 4 (nn (p1w 9 (nn p2)))) = 2 then (fX5_isWay_J61 1) else (fX5_isWay_J61 0)) else none)) else none) else none) else some 1) else none)))
set_option maxHeartbeats 16000000 in
set_option maxRecDepth 100000 in
theorem kX5_isWay {zs : ZS} (l : Launch) (dC : Nat → ClassId) (dI : Nat → Nat → Nat) (p0a : Nat → Nat) (p0k : Nat → ClassId) (p0w : ST) (p0l : SL) (p1a : Nat → Nat) (p1k : Nat → ClassId) (p1n : Nat → Nat) (p1w : ST) (p1l : SL) (p2 : Int32) (p3 : Int32) (sz : Nat) (o : Int32) (hrun : fX5_isWay p0w p0l p1w p2 p3 = some o) : Met l yX5_isWay (wz yX5_isWay cX5_isWay 5 (Option.some Jvm.ClassFile.FieldType.boolean)) ({ frames := 1, cells := 0, slots := 0, locals := 22 } : Room) (va_Pc [.ref (p0a 0), .ref (p1a 0), .int p2, .int p3] (PRE zs dC dI (List.flatten ([(oX5 (p0a 0) p0a p0k p0w p0l), (oX1 (p1a 0) p1a p1k p1n p1w p1l)] : List va_W)) (List.flatten ([(tX5 p0k), (tX1 p1k)] : List (List (ClassId × FieldType)))) sz)) (va_Qi (fun (r : Int32) (_ : Unit) => r = o) (fun _ t => POST dC dI (List.flatten ([(oX5 (p0a 0) p0a p0k p0w p0l), (oX1 (p1a 0) p1a p1k p1n p1w p1l)] : List va_W)) (List.flatten ([(tX5 p0k), (tX1 p1k)] : List (List (ClassId × FieldType)))) (va_A (List.flatten ([(oX5 (p0a 0) p0a p0k p0w p0l), (oX1 (p1a 0) p1a p1k p1n p1w p1l)] : List va_W)) sz) t) (va_A (List.flatten ([(oX5 (p0a 0) p0a p0k p0w p0l), (oX1 (p1a 0) p1a p1k p1n p1w p1l)] : List va_W)) sz)) 0 0 (va_A (List.flatten ([(oX5 (p0a 0) p0a p0k p0w p0l), (oX1 (p1a 0) p1a p1k p1n p1w p1l)] : List va_W)) sz) := by
  refine Met.ofW (cc := cX5_isWay) (maxL := 5) (ret := (Option.some Jvm.ClassFile.FieldType.boolean)) (by decide) rfl ?_
  intro p e s m args below meth c s₁ B hml hv
  obtain ⟨rfl, hsz, hP, hK, hD0, hE⟩ := hv
  have hx := B.exec
  have hb := B.bytes
  have hr := B.returns
  have hts0 := atoms_spec (ws := wz yX5_isWay cX5_isWay 5 (Option.some Jvm.ClassFile.FieldType.boolean)) B.pre
  have hts : ∀ w ∈ gw, w.before _ s = true := fun w h => hts0 w (List.mem_cons_of_mem _ h)
  have hown : s.vm.findClass RX5 = some m.cls := findClass_of_methodNamed B.named
  have hlocks := B.notSynchronized
  subst hsz
  have hD := hD0.self (sz := s.heap.size)
  refine gQ9 ?_
  intro Q hQ
  generalize hAe : va_A (List.flatten ([(oX5 (p0a 0) p0a p0k p0w p0l), (oX1 (p1a 0) p1a p1k p1n p1w p1l)] : List va_W)) s.heap.size = A at hD hE hQ
  have hA : ∀ q : Nat, s.heap.size ≤ q → A q := fun q h => by rw [← hAe]; exact Or.inr h
  have hS : va_S A s.heap s.heap [] := va_S.rf
  have hP : va_P (dC, dI) cls (List.flatten ([(oX5 (p0a 0) p0a p0k p0w p0l), (oX1 (p1a 0) p1a p1k p1n p1w p1l)] : List va_W)) s.heap := hP
  have hl := lv_entry ([.ref (p0a 0), .ref (p1a 0), .int p2, .int p3]) (n := 5) (Nat.le_of_ble_eq_true rfl)
  rw [lg_entry_eq]
  generalize (lg_sl ([.ref (p0a 0), .ref (p1a 0), .int p2, .int p3]) ++ List.replicate (5 - (lg_sl ([.ref (p0a 0), .ref (p1a 0), .int p2, .int p3])).length) Slot.unset).toArray = ls at hl ⊢
  have hl : lv_has ls 5 [(0, .ref (p0a 0)), (1, .ref (p1a 0)), (2, .int p2), (3, .int p3)] := hl
  obtain ⟨H, hHe⟩ : ∃ H, H = s.heap := ⟨_, rfl⟩
  obtain ⟨locs, hle⟩ : ∃ locs : List Loc, locs = [] := ⟨_, rfl⟩
  rw [← hHe] at hP
  have hS : va_S A s.heap H locs := by rw [hHe, hle]; exact hS
  show W p l e ({ frames := 1, cells := 0, slots := 0, locals := 22 } : Room) s m ([.ref (p0a 0), .ref (p1a 0), .int p2, .int p3] : List Value).toArray below meth c s.heap [] 0 0 Q (F0 m 0 ls [])
  rw [← hle]
  refine wH9 hHe ?_
  unfold fX5_isWay at hrun
  refine lv_aload_n hx hb dX5_isWay_0 rfl (lv_at hl 0 rfl) ?_
  refine va_get (D := (dC, dI)) (ci := 7) (v := .long (p0l 0 7)) (C := RX5) (T := TX5) (N := 12) hx hb hts i_X5 hown hK hP 0 rfl rfl 7 (by decide) (hts _ qw504) (fun _ h9 => h9) rfl dX5_isWay_1 ?_
  refine lv_iload_n hx hb dX5_isWay_4 rfl (lv_at hl 2 rfl) ?_
  obtain ⟨o_1, hc_1, hrun⟩ := bnd9 hrun
  have hPx : va_P (dC, dI) cls ((List.flatten ([] : List va_W)) ++ (List.flatten ([(oX5 (p0a 0) p0a p0k p0w p0l), (oX1 (p1a 0) p1a p1k p1n p1w p1l)] : List va_W))) H := vP_fa (vP_perm hP (bP (List.Perm.refl _)))
  have hDx : va_D A ((List.flatten ([] : List va_W)) ++ (List.flatten ([(oX5 (p0a 0) p0a p0k p0w p0l), (oX1 (p1a 0) p1a p1k p1n p1w p1l)] : List va_W))) := vD_fa (vD_perm hD (bP (List.Perm.refl _)))
  have hKx : va_K (dC, dI) cls ((List.flatten ([] : List (List (ClassId × FieldType)))) ++ (List.flatten ([(tX5 p0k), (tX1 p1k)] : List (List (ClassId × FieldType))))) s := vK_fa (vK_perm hK (bP (List.Perm.refl _)))
  have hPc := vP_l hPx
  have hDc := vD_l hDx
  have hKc := vK_l hKx
  have hFc := vfree hDx hS hA
  refine va_calli (va_runSN (As := [.long (p0l 0 7), .int p2]) (rest := []) ⟨hx, hb, hml, hown, hts⟩ (kX11_holds l dC dI (p0 := (p0l 0 7)) (p1 := p2) (sz := _) (o := o_1) (hrun := hc_1)) ⟨(va_cnB 2 hts (gi_z qw192) rfl rfl rfl (hE.nw (List.mem_append_right _ (tbl_7 (i := 146) rfl)) rfl) (hts _ qw129) (by decide +kernel) ⟨Nat.le_of_ble_eq_true rfl, Nat.le_of_ble_eq_true rfl⟩), (hts _ qw193), trivial⟩ ⟨PRE.blind, PRE.of hE hS hFc hPc hKc hDc⟩ rfl rfl hl.1 rfl (lv_room (Nat.le_of_ble_eq_true rfl)) dX5_isWay_5 ⟨(Nat.le_of_ble_eq_true rfl), (Nat.le_of_ble_eq_true rfl)⟩) hS (fun q _ h => hFc q h) hFc (fun r2 u t H locs ht hvm hw hB hz1 hk1 hS => ?_)
  obtain ⟨b1, b2, b3⟩ := hB
  rw [ht] at b1
  obtain ⟨hP, hD, hK⟩ := JOINC (wc := (List.flatten ([] : List va_W))) (wr := (List.flatten ([(oX5 (p0a 0) p0a p0k p0w p0l), (oX1 (p1a 0) p1a p1k p1n p1w p1l)] : List va_W))) (w1 := (List.flatten ([] : List va_W))) (t1 := (List.flatten ([] : List (List (ClassId × FieldType))))) hPx hDx hKx hk1 hFc b1 (va_K.moved hvm.symm b2) b3
  have hP : va_P (dC, dI) cls (List.flatten ([(oX5 (p0a 0) p0a p0k p0w p0l), (oX1 (p1a 0) p1a p1k p1n p1w p1l)] : List va_W)) H := vP_perm (vP_fb hP) (bP (List.Perm.refl _))
  have hD : va_D A (List.flatten ([(oX5 (p0a 0) p0a p0k p0w p0l), (oX1 (p1a 0) p1a p1k p1n p1w p1l)] : List va_W)) := vD_perm (vD_fb hD) (bP (List.Perm.refl _))
  have hK : va_K (dC, dI) cls (List.flatten ([(tX5 p0k), (tX1 p1k)] : List (List (ClassId × FieldType)))) s := vK_perm (vK_fb hK) (bP (List.Perm.refl _))
  obtain rfl : o_1 = r2 := hw.symm
  rcases br9 hrun with ⟨hc3, hrun⟩ | ⟨hc3, hrun⟩
  · refine lv_if_ne (tgt := 13) hx hb dX5_isWay_8 (by decide) (fun c => absurd hc3 c) (fun _ => ?_)
    refine lv_iconst (v := 0) hx hb dX5_isWay_11 (by decide) ?_
    have ho9 : 0 = o := Option.some.inj hrun
    have hP9 : va_P (dC, dI) cls (List.flatten ([(oX5 (p0a 0) p0a p0k p0w p0l), (oX1 (p1a 0) p1a p1k p1n p1w p1l)] : List va_W)) H := by first | exact hP | (rw [← ho9]; exact hP)
    have hD9 : va_D A (List.flatten ([(oX5 (p0a 0) p0a p0k p0w p0l), (oX1 (p1a 0) p1a p1k p1n p1w p1l)] : List va_W)) := by first | exact hD | (rw [← ho9]; exact hD)
    subst hQ
    exact W.zret (v := 0) hx hb hr (by decide) (fun t ht hW => ⟨⟨0, (), rfl, (by rw [← ho9]), ⟨by rw [ht]; exact hP9, va_K.moved hW.alike hK, hD9⟩⟩, hS.F ht⟩) hS.2.2 dX5_isWay_12
  · refine lv_if_ne (tgt := 13) hx hb dX5_isWay_8 (by decide) (fun _ => ?_) (fun c => absurd c hc3)
    refine lv_aload_n hx hb dX5_isWay_13 rfl (lv_at hl 1 rfl) ?_
    refine va_get (D := (dC, dI)) (ci := 4) (v := .ref (p1a 8)) (C := RX1) (T := TX1) (N := 21) hx hb hts i_X1 hown hK hP 10 rfl rfl 7 (by decide) (hts _ qw426) (fun _ h9 => h9) rfl dX5_isWay_14 ?_
    refine lv_iload_n hx hb dX5_isWay_17 rfl (lv_at hl 2 rfl) ?_
    obtain ⟨hq4, hrun⟩ := chk9 hrun
    refine va_iald hx hb hK hP 15 13 rfl rfl (ixb_in hq4) dX5_isWay_18 ?_
    refine lv_bipush (v := 23) hx hb dX5_isWay_19 (by decide) ?_
    rcases br9 hrun with ⟨hc5, hrun⟩ | ⟨hc5, hrun⟩
    · refine lv_icmp_eq (tgt := 26) hx hb dX5_isWay_21 (by decide) (fun _ => ?_) (fun c => absurd hc5 c)
      refine lv_aload_n hx hb dX5_isWay_26 rfl (lv_at hl 1 rfl) ?_
      refine va_get (D := (dC, dI)) (ci := 4) (v := .ref (p1a 9)) (C := RX1) (T := TX1) (N := 21) hx hb hts i_X1 hown hK hP 10 rfl rfl 8 (by decide) (hts _ qw445) (fun _ h9 => h9) rfl dX5_isWay_27 ?_
      refine lv_iload_n hx hb dX5_isWay_30 rfl (lv_at hl 2 rfl) ?_
      obtain ⟨hq6, hrun⟩ := chk9 hrun
      refine va_iald hx hb hK hP 16 14 rfl rfl (ixb_in hq6) dX5_isWay_31 ?_
      refine lv_istore (lv' := [(4, .int (p1w 9 (nn p2))), (0, .ref (p0a 0)), (1, .ref (p1a 0)), (2, .int p2), (3, .int p3)]) hx hb dX5_isWay_32 hl (by decide) rfl (fun ls hl => ?_)
      refine lv_aload_n hx hb dX5_isWay_34 rfl (lv_at hl 1 rfl) ?_
      refine va_get (D := (dC, dI)) (ci := 7) (v := .ref (p0a 4)) (C := RX5) (T := TX5) (N := 12) hx hb hts i_X5 hown hK hP 0 rfl rfl 3 (by decide) (hts _ qw490) (fun _ h9 => h9) rfl dX5_isWay_35 ?_
      refine lv_iload hx hb dX5_isWay_38 (lv_at hl 0 rfl) ?_
      obtain ⟨hq7, hrun⟩ := chk9 hrun
      refine va_iald hx hb hK hP 3 2 rfl rfl (ixb_in hq7) dX5_isWay_40 ?_
      refine lv_iconst (v := 1) hx hb dX5_isWay_41 (by decide) ?_
      rcases br9 hrun with ⟨hc8, hrun⟩ | ⟨hc8, hrun⟩
      · refine lv_icmp_eq (tgt := 62) hx hb dX5_isWay_42 (by decide) (fun _ => ?_) (fun c => absurd hc8 c)
        refine lv_aload_n hx hb dX5_isWay_62 rfl (lv_at hl 1 rfl) ?_
        refine va_get (D := (dC, dI)) (ci := 7) (v := .ref (p0a 5)) (C := RX5) (T := TX5) (N := 12) hx hb hts i_X5 hown hK hP 0 rfl rfl 4 (by decide) (hts _ qw491) (fun _ h9 => h9) rfl dX5_isWay_63 ?_
        refine lv_iload hx hb dX5_isWay_66 (lv_at hl 0 rfl) ?_
        obtain ⟨hq9, hrun⟩ := chk9 hrun
        refine va_iald hx hb hK hP 4 3 rfl rfl (ixb_in hq9) dX5_isWay_68 ?_
        have J87 : ∀ (y0_87 : Int32) (H : Heap) (locs : List Loc) (ls : Array Slot), (fX5_isWay_J87 p3 y0_87) = some o → va_P (dC, dI) cls (List.flatten ([(oX5 (p0a 0) p0a p0k p0w p0l), (oX1 (p1a 0) p1a p1k p1n p1w p1l)] : List va_W)) H → va_D A (List.flatten ([(oX5 (p0a 0) p0a p0k p0w p0l), (oX1 (p1a 0) p1a p1k p1n p1w p1l)] : List va_W)) → va_K (dC, dI) cls (List.flatten ([(tX5 p0k), (tX1 p1k)] : List (List (ClassId × FieldType)))) s → va_S A s.heap H locs → lv_has ls 5 [(3, .int p3)] → W p l e ({ frames := 1, cells := 0, slots := 0, locals := 22 } : Room) s m ([.ref (p0a 0), .ref (p1a 0), .int p2, .int p3] : List Value).toArray below meth c H locs 0 0 Q (F0 m 87 ls [.int y0_87]) := by
          intro y0_87 H locs ls hrun hP hD hK hS hl 
          unfold fX5_isWay_J87 at hrun
          refine lv_iload_n hx hb dX5_isWay_87 rfl (lv_at hl 0 rfl) ?_
          have J96 : ∀ (y0_96 : Int32) (H : Heap) (locs : List Loc) (ls : Array Slot), (fX5_isWay_J96 y0_96) = some o → va_P (dC, dI) cls (List.flatten ([(oX5 (p0a 0) p0a p0k p0w p0l), (oX1 (p1a 0) p1a p1k p1n p1w p1l)] : List va_W)) H → va_D A (List.flatten ([(oX5 (p0a 0) p0a p0k p0w p0l), (oX1 (p1a 0) p1a p1k p1n p1w p1l)] : List va_W)) → va_K (dC, dI) cls (List.flatten ([(tX5 p0k), (tX1 p1k)] : List (List (ClassId × FieldType)))) s → va_S A s.heap H locs → lv_has ls 5 [] → W p l e ({ frames := 1, cells := 0, slots := 0, locals := 22 } : Room) s m ([.ref (p0a 0), .ref (p1a 0), .int p2, .int p3] : List Value).toArray below meth c H locs 0 0 Q (F0 m 96 ls [.int y0_96]) := by
            intro y0_96 H locs ls hrun hP hD hK hS hl 
            unfold fX5_isWay_J96 at hrun
            obtain ⟨hz9, hrun⟩ := chk9 hrun
            have ho9 : y0_96 = o := Option.some.inj hrun
            have hP9 : va_P (dC, dI) cls (List.flatten ([(oX5 (p0a 0) p0a p0k p0w p0l), (oX1 (p1a 0) p1a p1k p1n p1w p1l)] : List va_W)) H := by first | exact hP | (rw [← ho9]; exact hP)
            have hD9 : va_D A (List.flatten ([(oX5 (p0a 0) p0a p0k p0w p0l), (oX1 (p1a 0) p1a p1k p1n p1w p1l)] : List va_W)) := by first | exact hD | (rw [← ho9]; exact hD)
            subst hQ
            exact W.zret (v := y0_96) hx hb hr (bz9 hz9) (fun t ht hW => ⟨⟨y0_96, (), rfl, (by rw [← ho9]), ⟨by rw [ht]; exact hP9, va_K.moved hW.alike hK, hD9⟩⟩, hS.F ht⟩) hS.2.2 dX5_isWay_96
          rcases br9 hrun with ⟨hc10, hrun⟩ | ⟨hc10, hrun⟩
          · refine lv_icmp_ne (tgt := 95) hx hb dX5_isWay_88 (by decide) (fun c => absurd hc10 c) (fun _ => ?_)
            refine lv_iconst (v := 1) hx hb dX5_isWay_91 (by decide) ?_
            refine lv_goto (tgt := 96) hx hb dX5_isWay_92 (by decide) ?_
            exact J96 1 _ _ _ hrun hP hD hK hS (lv_sub hl [] rfl)
          · refine lv_icmp_ne (tgt := 95) hx hb dX5_isWay_88 (by decide) (fun _ => ?_) (fun c => absurd c hc10)
            refine lv_iconst (v := 0) hx hb dX5_isWay_95 (by decide) ?_
            exact J96 0 _ _ _ hrun hP hD hK hS (lv_sub hl [] rfl)
        rcases br9 hrun with ⟨hc11, hrun⟩ | ⟨hc11, hrun⟩
        · refine lv_if_eq (tgt := 81) hx hb dX5_isWay_69 (by decide) (fun _ => ?_) (fun c => absurd hc11 c)
          refine lv_aload_n hx hb dX5_isWay_81 rfl (lv_at hl 2 rfl) ?_
          refine va_get (D := (dC, dI)) (ci := 4) (v := .ref (p1a 11)) (C := RX1) (T := TX1) (N := 21) hx hb hts i_X1 hown hK hP 10 rfl rfl 10 (by decide) (hts _ qw499) (fun _ h9 => h9) rfl dX5_isWay_82 ?_
          refine lv_iload_n hx hb dX5_isWay_85 rfl (lv_at hl 3 rfl) ?_
          obtain ⟨hq12, hrun⟩ := chk9 hrun
          refine va_iald hx hb hK hP 18 16 rfl rfl (ixb_in hq12) dX5_isWay_86 ?_
          exact J87 (p1w 11 (nn p2)) _ _ _ hrun hP hD hK hS (lv_sub hl [4] rfl)
        · refine lv_if_eq (tgt := 81) hx hb dX5_isWay_69 (by decide) (fun c => absurd c hc11) (fun _ => ?_)
          refine lv_aload_n hx hb dX5_isWay_72 rfl (lv_at hl 2 rfl) ?_
          refine va_get (D := (dC, dI)) (ci := 4) (v := .ref (p1a 10)) (C := RX1) (T := TX1) (N := 21) hx hb hts i_X1 hown hK hP 10 rfl rfl 9 (by decide) (hts _ qw498) (fun _ h9 => h9) rfl dX5_isWay_73 ?_
          refine lv_iload_n hx hb dX5_isWay_76 rfl (lv_at hl 3 rfl) ?_
          obtain ⟨hq13, hrun⟩ := chk9 hrun
          refine va_iald hx hb hK hP 17 15 rfl rfl (ixb_in hq13) dX5_isWay_77 ?_
          refine lv_goto (tgt := 87) hx hb dX5_isWay_78 (by decide) ?_
          exact J87 (p1w 10 (nn p2)) _ _ _ hrun hP hD hK hS (lv_sub hl [4] rfl)
      · refine lv_icmp_eq (tgt := 62) hx hb dX5_isWay_42 (by decide) (fun c => absurd c hc8) (fun _ => ?_)
        refine lv_aload_n hx hb dX5_isWay_45 rfl (lv_at hl 1 rfl) ?_
        refine va_get (D := (dC, dI)) (ci := 7) (v := .ref (p0a 4)) (C := RX5) (T := TX5) (N := 12) hx hb hts i_X5 hown hK hP 0 rfl rfl 3 (by decide) (hts _ qw490) (fun _ h9 => h9) rfl dX5_isWay_46 ?_
        refine lv_iload hx hb dX5_isWay_49 (lv_at hl 0 rfl) ?_
        obtain ⟨hq14, hrun⟩ := chk9 hrun
        refine va_iald hx hb hK hP 3 2 rfl rfl (ixb_in hq14) dX5_isWay_51 ?_
        refine lv_iconst (v := 2) hx hb dX5_isWay_52 (by decide) ?_
        have J61 : ∀ (y0_61 : Int32) (H : Heap) (locs : List Loc) (ls : Array Slot), (fX5_isWay_J61 y0_61) = some o → va_P (dC, dI) cls (List.flatten ([(oX5 (p0a 0) p0a p0k p0w p0l), (oX1 (p1a 0) p1a p1k p1n p1w p1l)] : List va_W)) H → va_D A (List.flatten ([(oX5 (p0a 0) p0a p0k p0w p0l), (oX1 (p1a 0) p1a p1k p1n p1w p1l)] : List va_W)) → va_K (dC, dI) cls (List.flatten ([(tX5 p0k), (tX1 p1k)] : List (List (ClassId × FieldType)))) s → va_S A s.heap H locs → lv_has ls 5 [] → W p l e ({ frames := 1, cells := 0, slots := 0, locals := 22 } : Room) s m ([.ref (p0a 0), .ref (p1a 0), .int p2, .int p3] : List Value).toArray below meth c H locs 0 0 Q (F0 m 61 ls [.int y0_61]) := by
          intro y0_61 H locs ls hrun hP hD hK hS hl 
          unfold fX5_isWay_J61 at hrun
          obtain ⟨hz9, hrun⟩ := chk9 hrun
          have ho9 : y0_61 = o := Option.some.inj hrun
          have hP9 : va_P (dC, dI) cls (List.flatten ([(oX5 (p0a 0) p0a p0k p0w p0l), (oX1 (p1a 0) p1a p1k p1n p1w p1l)] : List va_W)) H := by first | exact hP | (rw [← ho9]; exact hP)
          have hD9 : va_D A (List.flatten ([(oX5 (p0a 0) p0a p0k p0w p0l), (oX1 (p1a 0) p1a p1k p1n p1w p1l)] : List va_W)) := by first | exact hD | (rw [← ho9]; exact hD)
          subst hQ
          exact W.zret (v := y0_61) hx hb hr (bz9 hz9) (fun t ht hW => ⟨⟨y0_61, (), rfl, (by rw [← ho9]), ⟨by rw [ht]; exact hP9, va_K.moved hW.alike hK, hD9⟩⟩, hS.F ht⟩) hS.2.2 dX5_isWay_61
        rcases br9 hrun with ⟨hc15, hrun⟩ | ⟨hc15, hrun⟩
        · refine lv_icmp_ne (tgt := 60) hx hb dX5_isWay_53 (by decide) (fun c => absurd hc15 c) (fun _ => ?_)
          refine lv_iconst (v := 1) hx hb dX5_isWay_56 (by decide) ?_
          refine lv_goto (tgt := 61) hx hb dX5_isWay_57 (by decide) ?_
          exact J61 1 _ _ _ hrun hP hD hK hS (lv_sub hl [] rfl)
        · refine lv_icmp_ne (tgt := 60) hx hb dX5_isWay_53 (by decide) (fun _ => ?_) (fun c => absurd c hc15)
          refine lv_iconst (v := 0) hx hb dX5_isWay_60 (by decide) ?_
          exact J61 0 _ _ _ hrun hP hD hK hS (lv_sub hl [] rfl)
    · refine lv_icmp_eq (tgt := 26) hx hb dX5_isWay_21 (by decide) (fun c => absurd c hc5) (fun _ => ?_)
      refine lv_iconst (v := 1) hx hb dX5_isWay_24 (by decide) ?_
      have ho9 : 1 = o := Option.some.inj hrun
      have hP9 : va_P (dC, dI) cls (List.flatten ([(oX5 (p0a 0) p0a p0k p0w p0l), (oX1 (p1a 0) p1a p1k p1n p1w p1l)] : List va_W)) H := by first | exact hP | (rw [← ho9]; exact hP)
      have hD9 : va_D A (List.flatten ([(oX5 (p0a 0) p0a p0k p0w p0l), (oX1 (p1a 0) p1a p1k p1n p1w p1l)] : List va_W)) := by first | exact hD | (rw [← ho9]; exact hD)
      subst hQ
      exact W.zret (v := 1) hx hb hr (by decide) (fun t ht hW => ⟨⟨1, (), rfl, (by rw [← ho9]), ⟨by rw [ht]; exact hP9, va_K.moved hW.alike hK, hD9⟩⟩, hS.F ht⟩) hS.2.2 dX5_isWay_25
def fX5_learn_J54 (p0w : ST) (p1 : Int32) : Option (Int32 × ST) := (if ixb p1 250 = true then (lt9 (upw p0w 4 (nn p1) 2) fun (w10 : ST) => some (1, w10)) else none)
def fX5_learn (p0w : ST) (p1 : Int32) (p2 : Int32) (p3 : Int32) : Option (Int32 × ST) := (if ixb p1 250 = true then (if (p0w 4 (nn p1)) = 2 then some (0, p0w) else (if ixb p1 250 = true then (if (p0w 4 (nn p1)) = 0 then (if ixb p1 250 = true then (lt9 (upw p0w 4 (nn p1) p2) fun (w6 : ST) => (if ixb p1 250 = true then (lt9 (upw w6 5 (nn p1) p3) fun (w8 : ST) => some (1, w8)) else none)) else none) else (if p2 = 1 then (if ixb p1 250 = true then (if (p0w 5 (nn p1)) = p3 then some (0, p0w) else (fX5_learn_J54 p0w p1)) else none) else (fX5_learn_J54 p0w p1))) else none)) else none)
set_option maxHeartbeats 16000000 in
set_option maxRecDepth 100000 in
theorem kX5_learn {zs : ZS} (l : Launch) (dC : Nat → ClassId) (dI : Nat → Nat → Nat) (p0a : Nat → Nat) (p0k : Nat → ClassId) (p0w : ST) (p0l : SL) (p1 : Int32) (p2 : Int32) (p3 : Int32) (sz : Nat) (o : Int32 × ST) (hrun : fX5_learn p0w p1 p2 p3 = some o) : Met l yX5_learn (wz yX5_learn cX5_learn 4 (Option.some Jvm.ClassFile.FieldType.boolean)) ({ frames := 0, cells := 0, slots := 0, locals := 0 } : Room) (va_Pc [.ref (p0a 0), .int p1, .int p2, .int p3] (PRE zs dC dI (List.flatten ([(oX5 (p0a 0) p0a p0k p0w p0l)] : List va_W)) (List.flatten ([(tX5 p0k)] : List (List (ClassId × FieldType)))) sz)) (va_Qi (fun (r : Int32) (_ : Unit) => r = (o.1)) (fun _ t => POST dC dI (List.flatten ([(oX5 (p0a 0) p0a p0k (o.2) p0l)] : List va_W)) (List.flatten ([(tX5 p0k)] : List (List (ClassId × FieldType)))) (va_A (List.flatten ([(oX5 (p0a 0) p0a p0k p0w p0l)] : List va_W)) sz) t) (va_A (List.flatten ([(oX5 (p0a 0) p0a p0k p0w p0l)] : List va_W)) sz)) 0 0 (va_A (List.flatten ([(oX5 (p0a 0) p0a p0k p0w p0l)] : List va_W)) sz) := by
  refine Met.ofW (cc := cX5_learn) (maxL := 4) (ret := (Option.some Jvm.ClassFile.FieldType.boolean)) (by decide) rfl ?_
  intro p e s m args below meth c s₁ B hml hv
  obtain ⟨rfl, hsz, hP, hK, hD0, hE⟩ := hv
  have hx := B.exec
  have hb := B.bytes
  have hr := B.returns
  have hts0 := atoms_spec (ws := wz yX5_learn cX5_learn 4 (Option.some Jvm.ClassFile.FieldType.boolean)) B.pre
  have hts : ∀ w ∈ gw, w.before _ s = true := fun w h => hts0 w (List.mem_cons_of_mem _ h)
  have hown : s.vm.findClass RX5 = some m.cls := findClass_of_methodNamed B.named
  have hlocks := B.notSynchronized
  subst hsz
  have hD := hD0.self (sz := s.heap.size)
  refine gQ9 ?_
  intro Q hQ
  generalize hAe : va_A (List.flatten ([(oX5 (p0a 0) p0a p0k p0w p0l)] : List va_W)) s.heap.size = A at hD hE hQ
  have hA : ∀ q : Nat, s.heap.size ≤ q → A q := fun q h => by rw [← hAe]; exact Or.inr h
  have hS : va_S A s.heap s.heap [] := va_S.rf
  have hP : va_P (dC, dI) cls (List.flatten ([(oX5 (p0a 0) p0a p0k p0w p0l)] : List va_W)) s.heap := hP
  have hl := lv_entry ([.ref (p0a 0), .int p1, .int p2, .int p3]) (n := 4) (Nat.le_of_ble_eq_true rfl)
  rw [lg_entry_eq]
  generalize (lg_sl ([.ref (p0a 0), .int p1, .int p2, .int p3]) ++ List.replicate (4 - (lg_sl ([.ref (p0a 0), .int p1, .int p2, .int p3])).length) Slot.unset).toArray = ls at hl ⊢
  have hl : lv_has ls 4 [(0, .ref (p0a 0)), (1, .int p1), (2, .int p2), (3, .int p3)] := hl
  obtain ⟨H, hHe⟩ : ∃ H, H = s.heap := ⟨_, rfl⟩
  obtain ⟨locs, hle⟩ : ∃ locs : List Loc, locs = [] := ⟨_, rfl⟩
  rw [← hHe] at hP
  have hS : va_S A s.heap H locs := by rw [hHe, hle]; exact hS
  show W p l e ({ frames := 0, cells := 0, slots := 0, locals := 0 } : Room) s m ([.ref (p0a 0), .int p1, .int p2, .int p3] : List Value).toArray below meth c s.heap [] 0 0 Q (F0 m 0 ls [])
  rw [← hle]
  refine wH9 hHe ?_
  unfold fX5_learn at hrun
  refine lv_aload_n hx hb dX5_learn_0 rfl (lv_at hl 0 rfl) ?_
  refine va_get (D := (dC, dI)) (ci := 7) (v := .ref (p0a 4)) (C := RX5) (T := TX5) (N := 12) hx hb hts i_X5 hown hK hP 0 rfl rfl 3 (by decide) (hts _ qw490) (fun _ h9 => h9) rfl dX5_learn_1 ?_
  refine lv_iload_n hx hb dX5_learn_4 rfl (lv_at hl 1 rfl) ?_
  obtain ⟨hq1, hrun⟩ := chk9 hrun
  refine va_iald hx hb hK hP 3 2 rfl rfl (ixb_in hq1) dX5_learn_5 ?_
  refine lv_iconst (v := 2) hx hb dX5_learn_6 (by decide) ?_
  rcases br9 hrun with ⟨hc2, hrun⟩ | ⟨hc2, hrun⟩
  · refine lv_icmp_ne (tgt := 12) hx hb dX5_learn_7 (by decide) (fun c => absurd hc2 c) (fun _ => ?_)
    refine lv_iconst (v := 0) hx hb dX5_learn_10 (by decide) ?_
    have ho9 : (0, p0w) = o := Option.some.inj hrun
    have hP9 : va_P (dC, dI) cls (List.flatten ([(oX5 (p0a 0) p0a p0k (o.2) p0l)] : List va_W)) H := by first | exact hP | (rw [← ho9]; exact hP)
    have hD9 : va_D A (List.flatten ([(oX5 (p0a 0) p0a p0k (o.2) p0l)] : List va_W)) := by first | exact hD | (rw [← ho9]; exact hD)
    subst hQ
    exact W.zret (v := 0) hx hb hr (by decide) (fun t ht hW => ⟨⟨0, (), rfl, (by rw [← ho9]), ⟨by rw [ht]; exact hP9, va_K.moved hW.alike hK, hD9⟩⟩, hS.F ht⟩) hS.2.2 dX5_learn_11
  · refine lv_icmp_ne (tgt := 12) hx hb dX5_learn_7 (by decide) (fun _ => ?_) (fun c => absurd c hc2)
    refine lv_aload_n hx hb dX5_learn_12 rfl (lv_at hl 0 rfl) ?_
    refine va_get (D := (dC, dI)) (ci := 7) (v := .ref (p0a 4)) (C := RX5) (T := TX5) (N := 12) hx hb hts i_X5 hown hK hP 0 rfl rfl 3 (by decide) (hts _ qw490) (fun _ h9 => h9) rfl dX5_learn_13 ?_
    refine lv_iload_n hx hb dX5_learn_16 rfl (lv_at hl 1 rfl) ?_
    obtain ⟨hq3, hrun⟩ := chk9 hrun
    refine va_iald hx hb hK hP 3 2 rfl rfl (ixb_in hq3) dX5_learn_17 ?_
    rcases br9 hrun with ⟨hc4, hrun⟩ | ⟨hc4, hrun⟩
    · refine lv_if_ne (tgt := 37) hx hb dX5_learn_18 (by decide) (fun c => absurd hc4 c) (fun _ => ?_)
      refine lv_aload_n hx hb dX5_learn_21 rfl (lv_at hl 0 rfl) ?_
      refine va_get (D := (dC, dI)) (ci := 7) (v := .ref (p0a 4)) (C := RX5) (T := TX5) (N := 12) hx hb hts i_X5 hown hK hP 0 rfl rfl 3 (by decide) (hts _ qw490) (fun _ h9 => h9) rfl dX5_learn_22 ?_
      refine lv_iload_n hx hb dX5_learn_25 rfl (lv_at hl 1 rfl) ?_
      refine lv_iload_n hx hb dX5_learn_26 rfl (lv_at hl 2 rfl) ?_
      obtain ⟨hq5, hrun⟩ := chk9 hrun
      refine va_iast hx hb hK hP hD hS 3 2 rfl rfl (ixb_in hq5) dX5_learn_27 (fun H locs hP hD hS => ?_)
      have hP : va_P (dC, dI) cls (List.flatten ([(oX5 (p0a 0) p0a p0k (upw p0w 4 (nn p1) p2) p0l)] : List va_W)) H := hP
      have hD : va_D A (List.flatten ([(oX5 (p0a 0) p0a p0k (upw p0w 4 (nn p1) p2) p0l)] : List va_W)) := hD
      obtain ⟨w6, ew6, hrun⟩ := let9 hrun
      rw [← ew6] at hP hD
      refine lv_aload_n hx hb dX5_learn_28 rfl (lv_at hl 0 rfl) ?_
      refine va_get (D := (dC, dI)) (ci := 7) (v := .ref (p0a 5)) (C := RX5) (T := TX5) (N := 12) hx hb hts i_X5 hown hK hP 0 rfl rfl 4 (by decide) (hts _ qw491) (fun _ h9 => h9) rfl dX5_learn_29 ?_
      refine lv_iload_n hx hb dX5_learn_32 rfl (lv_at hl 1 rfl) ?_
      refine lv_iload_n hx hb dX5_learn_33 rfl (lv_at hl 3 rfl) ?_
      obtain ⟨hq7, hrun⟩ := chk9 hrun
      refine va_iast hx hb hK hP hD hS 4 3 rfl rfl (ixb_in hq7) dX5_learn_34 (fun H locs hP hD hS => ?_)
      have hP : va_P (dC, dI) cls (List.flatten ([(oX5 (p0a 0) p0a p0k (upw w6 5 (nn p1) p3) p0l)] : List va_W)) H := hP
      have hD : va_D A (List.flatten ([(oX5 (p0a 0) p0a p0k (upw w6 5 (nn p1) p3) p0l)] : List va_W)) := hD
      obtain ⟨w8, ew8, hrun⟩ := let9 hrun
      rw [← ew8] at hP hD
      refine lv_iconst (v := 1) hx hb dX5_learn_35 (by decide) ?_
      have ho9 : (1, w8) = o := Option.some.inj hrun
      have hP9 : va_P (dC, dI) cls (List.flatten ([(oX5 (p0a 0) p0a p0k (o.2) p0l)] : List va_W)) H := by first | exact hP | (rw [← ho9]; exact hP)
      have hD9 : va_D A (List.flatten ([(oX5 (p0a 0) p0a p0k (o.2) p0l)] : List va_W)) := by first | exact hD | (rw [← ho9]; exact hD)
      subst hQ
      exact W.zret (v := 1) hx hb hr (by decide) (fun t ht hW => ⟨⟨1, (), rfl, (by rw [← ho9]), ⟨by rw [ht]; exact hP9, va_K.moved hW.alike hK, hD9⟩⟩, hS.F ht⟩) hS.2.2 dX5_learn_36
    · refine lv_if_ne (tgt := 37) hx hb dX5_learn_18 (by decide) (fun _ => ?_) (fun c => absurd c hc4)
      refine lv_iload_n hx hb dX5_learn_37 rfl (lv_at hl 2 rfl) ?_
      refine lv_iconst (v := 1) hx hb dX5_learn_38 (by decide) ?_
      have J54 : ∀ (H : Heap) (locs : List Loc) (ls : Array Slot), (fX5_learn_J54 p0w p1) = some o → va_P (dC, dI) cls (List.flatten ([(oX5 (p0a 0) p0a p0k p0w p0l)] : List va_W)) H → va_D A (List.flatten ([(oX5 (p0a 0) p0a p0k p0w p0l)] : List va_W)) → va_K (dC, dI) cls (List.flatten ([(tX5 p0k)] : List (List (ClassId × FieldType)))) s → va_S A s.heap H locs → lv_has ls 4 [(0, .ref (p0a 0)), (1, .int p1)] → W p l e ({ frames := 0, cells := 0, slots := 0, locals := 0 } : Room) s m ([.ref (p0a 0), .int p1, .int p2, .int p3] : List Value).toArray below meth c H locs 0 0 Q (F0 m 54 ls []) := by
        intro  H locs ls hrun hP hD hK hS hl 
        unfold fX5_learn_J54 at hrun
        refine lv_aload_n hx hb dX5_learn_54 rfl (lv_at hl 0 rfl) ?_
        refine va_get (D := (dC, dI)) (ci := 7) (v := .ref (p0a 4)) (C := RX5) (T := TX5) (N := 12) hx hb hts i_X5 hown hK hP 0 rfl rfl 3 (by decide) (hts _ qw490) (fun _ h9 => h9) rfl dX5_learn_55 ?_
        refine lv_iload_n hx hb dX5_learn_58 rfl (lv_at hl 1 rfl) ?_
        refine lv_iconst (v := 2) hx hb dX5_learn_59 (by decide) ?_
        obtain ⟨hq9, hrun⟩ := chk9 hrun
        refine va_iast hx hb hK hP hD hS 3 2 rfl rfl (ixb_in hq9) dX5_learn_60 (fun H locs hP hD hS => ?_)
        have hP : va_P (dC, dI) cls (List.flatten ([(oX5 (p0a 0) p0a p0k (upw p0w 4 (nn p1) 2) p0l)] : List va_W)) H := hP
        have hD : va_D A (List.flatten ([(oX5 (p0a 0) p0a p0k (upw p0w 4 (nn p1) 2) p0l)] : List va_W)) := hD
        obtain ⟨w10, ew10, hrun⟩ := let9 hrun
        rw [← ew10] at hP hD
        refine lv_iconst (v := 1) hx hb dX5_learn_61 (by decide) ?_
        have ho9 : (1, w10) = o := Option.some.inj hrun
        have hP9 : va_P (dC, dI) cls (List.flatten ([(oX5 (p0a 0) p0a p0k (o.2) p0l)] : List va_W)) H := by first | exact hP | (rw [← ho9]; exact hP)
        have hD9 : va_D A (List.flatten ([(oX5 (p0a 0) p0a p0k (o.2) p0l)] : List va_W)) := by first | exact hD | (rw [← ho9]; exact hD)
        subst hQ
        exact W.zret (v := 1) hx hb hr (by decide) (fun t ht hW => ⟨⟨1, (), rfl, (by rw [← ho9]), ⟨by rw [ht]; exact hP9, va_K.moved hW.alike hK, hD9⟩⟩, hS.F ht⟩) hS.2.2 dX5_learn_62
      rcases br9 hrun with ⟨hc11, hrun⟩ | ⟨hc11, hrun⟩
      · refine lv_icmp_ne (tgt := 54) hx hb dX5_learn_39 (by decide) (fun c => absurd hc11 c) (fun _ => ?_)
        refine lv_aload_n hx hb dX5_learn_42 rfl (lv_at hl 0 rfl) ?_
        refine va_get (D := (dC, dI)) (ci := 7) (v := .ref (p0a 5)) (C := RX5) (T := TX5) (N := 12) hx hb hts i_X5 hown hK hP 0 rfl rfl 4 (by decide) (hts _ qw491) (fun _ h9 => h9) rfl dX5_learn_43 ?_
        refine lv_iload_n hx hb dX5_learn_46 rfl (lv_at hl 1 rfl) ?_
        obtain ⟨hq12, hrun⟩ := chk9 hrun
        refine va_iald hx hb hK hP 4 3 rfl rfl (ixb_in hq12) dX5_learn_47 ?_
        refine lv_iload_n hx hb dX5_learn_48 rfl (lv_at hl 3 rfl) ?_
        rcases br9 hrun with ⟨hc13, hrun⟩ | ⟨hc13, hrun⟩
        · refine lv_icmp_ne (tgt := 54) hx hb dX5_learn_49 (by decide) (fun c => absurd hc13 c) (fun _ => ?_)
          refine lv_iconst (v := 0) hx hb dX5_learn_52 (by decide) ?_
          have ho9 : (0, p0w) = o := Option.some.inj hrun
          have hP9 : va_P (dC, dI) cls (List.flatten ([(oX5 (p0a 0) p0a p0k (o.2) p0l)] : List va_W)) H := by first | exact hP | (rw [← ho9]; exact hP)
          have hD9 : va_D A (List.flatten ([(oX5 (p0a 0) p0a p0k (o.2) p0l)] : List va_W)) := by first | exact hD | (rw [← ho9]; exact hD)
          subst hQ
          exact W.zret (v := 0) hx hb hr (by decide) (fun t ht hW => ⟨⟨0, (), rfl, (by rw [← ho9]), ⟨by rw [ht]; exact hP9, va_K.moved hW.alike hK, hD9⟩⟩, hS.F ht⟩) hS.2.2 dX5_learn_53
        · refine lv_icmp_ne (tgt := 54) hx hb dX5_learn_49 (by decide) (fun _ => ?_) (fun c => absurd c hc13)
          exact J54 _ _ _ hrun hP hD hK hS (lv_sub hl [0, 1] rfl)
      · refine lv_icmp_ne (tgt := 54) hx hb dX5_learn_39 (by decide) (fun _ => ?_) (fun c => absurd c hc11)
        exact J54 _ _ _ hrun hP hD hK hS (lv_sub hl [0, 1] rfl)
def fX5_learnPhi_J94 (kk6 : Int32 → Int32 → ST → Option (Int32 × ST)) (v5_6 : Int32) (v4_94 : Int32) (p0w_94 : ST) : Option (Int32 × ST) := (kk6 v4_94 (v5_6 + 1) p0w_94)
def fX5_learnPhi_J92 (kk6 : Int32 → Int32 → ST → Option (Int32 × ST)) (v5_6 : Int32) (o_16 : Int32 × ST) (y0_92 : Int32) : Option (Int32 × ST) := (fX5_learnPhi_J94 kk6 v5_6 y0_92 (o_16.2))
def fX5_learnPhi_J87 (kk6 : Int32 → Int32 → ST → Option (Int32 × ST)) (v5_6 : Int32) (o_16 : Int32 × ST) : Option (Int32 × ST) := (fX5_learnPhi_J92 kk6 v5_6 o_16 1)
def fX5_learnPhi_L6 (p0l : SL) (p1n : Nat → Nat) (p1w : ST) (p2 : Int32) (p3 : Int32) : Nat → Int32 → Int32 → ST → Option (Int32 × ST)
  | 0 => fun _ _ _ => none
  | n_6 + 1 => fun v4_6 v5_6 p0w_6 => ((fX1_waysTo p1w p2).bind fun (o_1 : Int32) => (if o_1 ≤ v5_6 then some (v4_6, p0w_6) else ((fX1_wayFrom p1w p2 v5_6).bind fun (o_4 : Int32) => ((fX1_take p1n p1w p3 o_4).bind fun (o_6 : Int32) => ((fX5_isWay p0w_6 p0l p1w o_4 p2).bind fun (o_8 : Int32) => (if o_8 = 0 then (fX5_learnPhi_J94 (fX5_learnPhi_L6 p0l p1n p1w p2 p3 n_6) v5_6 v4_6 p0w_6) else (if ixb o_6 250 = true then (if (p0w_6 4 (nn o_6)) = 0 then (fX5_learnPhi_J94 (fX5_learnPhi_L6 p0l p1n p1w p2 p3 n_6) v5_6 v4_6 p0w_6) else (if ixb p3 (p1n 19) = true then (if ixb o_6 250 = true then (if ixb o_6 250 = true then ((fX5_learn p0w_6 (p1w 19 (nn p3)) (p0w_6 4 (nn o_6)) (p0w_6 5 (nn o_6))).bind fun (o_16 : Int32 × ST) => (if (o_16.1) = 0 then (if v4_6 = 0 then (fX5_learnPhi_J92 (fX5_learnPhi_L6 p0l p1n p1w p2 p3 n_6) v5_6 o_16 0) else (fX5_learnPhi_J87 (fX5_learnPhi_L6 p0l p1n p1w p2 p3 n_6) v5_6 o_16)) else (fX5_learnPhi_J87 (fX5_learnPhi_L6 p0l p1n p1w p2 p3 n_6) v5_6 o_16))) else none) else none) else none)) else none)))))))
def fX5_learnPhi (p0w : ST) (p0l : SL) (p1n : Nat → Nat) (p1w : ST) (p2 : Int32) (p3 : Int32) : Option (Int32 × ST) := ((fX5_learnPhi_L6 p0l p1n p1w p2 p3 NF 0 0 p0w).bind fun (o6 : Int32 × ST) => (if (o6.1) = 0 ∨ (o6.1) = 1 then some ((o6.1), (o6.2)) else none))
set_option maxHeartbeats 16000000 in
set_option maxRecDepth 100000 in
theorem kX5_learnPhi {zs : ZS} (l : Launch) (dC : Nat → ClassId) (dI : Nat → Nat → Nat) (p0a : Nat → Nat) (p0k : Nat → ClassId) (p0w : ST) (p0l : SL) (p1a : Nat → Nat) (p1k : Nat → ClassId) (p1n : Nat → Nat) (p1w : ST) (p1l : SL) (p2 : Int32) (p3 : Int32) (sz : Nat) (o : Int32 × ST) (hrun : fX5_learnPhi p0w p0l p1n p1w p2 p3 = some o) : Met l yX5_learnPhi (wz yX5_learnPhi cX5_learnPhi 8 (Option.some Jvm.ClassFile.FieldType.boolean)) ({ frames := 2, cells := 0, slots := 0, locals := 46 } : Room) (va_Pc [.ref (p0a 0), .ref (p1a 0), .int p2, .int p3] (PRE zs dC dI (List.flatten ([(oX5 (p0a 0) p0a p0k p0w p0l), (oX1 (p1a 0) p1a p1k p1n p1w p1l)] : List va_W)) (List.flatten ([(tX5 p0k), (tX1 p1k)] : List (List (ClassId × FieldType)))) sz)) (va_Qi (fun (r : Int32) (_ : Unit) => r = (o.1)) (fun _ t => POST dC dI (List.flatten ([(oX5 (p0a 0) p0a p0k (o.2) p0l), (oX1 (p1a 0) p1a p1k p1n p1w p1l)] : List va_W)) (List.flatten ([(tX5 p0k), (tX1 p1k)] : List (List (ClassId × FieldType)))) (va_A (List.flatten ([(oX5 (p0a 0) p0a p0k p0w p0l), (oX1 (p1a 0) p1a p1k p1n p1w p1l)] : List va_W)) sz) t) (va_A (List.flatten ([(oX5 (p0a 0) p0a p0k p0w p0l), (oX1 (p1a 0) p1a p1k p1n p1w p1l)] : List va_W)) sz)) 0 0 (va_A (List.flatten ([(oX5 (p0a 0) p0a p0k p0w p0l), (oX1 (p1a 0) p1a p1k p1n p1w p1l)] : List va_W)) sz) := by
  refine Met.ofW (cc := cX5_learnPhi) (maxL := 8) (ret := (Option.some Jvm.ClassFile.FieldType.boolean)) (by decide) rfl ?_
  intro p e s m args below meth c s₁ B hml hv
  obtain ⟨rfl, hsz, hP, hK, hD0, hE⟩ := hv
  have hx := B.exec
  have hb := B.bytes
  have hr := B.returns
  have hts0 := atoms_spec (ws := wz yX5_learnPhi cX5_learnPhi 8 (Option.some Jvm.ClassFile.FieldType.boolean)) B.pre
  have hts : ∀ w ∈ gw, w.before _ s = true := fun w h => hts0 w (List.mem_cons_of_mem _ h)
  have hown : s.vm.findClass RX5 = some m.cls := findClass_of_methodNamed B.named
  have hlocks := B.notSynchronized
  subst hsz
  have hD := hD0.self (sz := s.heap.size)
  refine gQ9 ?_
  intro Q hQ
  generalize hAe : va_A (List.flatten ([(oX5 (p0a 0) p0a p0k p0w p0l), (oX1 (p1a 0) p1a p1k p1n p1w p1l)] : List va_W)) s.heap.size = A at hD hE hQ
  have hA : ∀ q : Nat, s.heap.size ≤ q → A q := fun q h => by rw [← hAe]; exact Or.inr h
  have hS : va_S A s.heap s.heap [] := va_S.rf
  have hP : va_P (dC, dI) cls (List.flatten ([(oX5 (p0a 0) p0a p0k p0w p0l), (oX1 (p1a 0) p1a p1k p1n p1w p1l)] : List va_W)) s.heap := hP
  have hl := lv_entry ([.ref (p0a 0), .ref (p1a 0), .int p2, .int p3]) (n := 8) (Nat.le_of_ble_eq_true rfl)
  rw [lg_entry_eq]
  generalize (lg_sl ([.ref (p0a 0), .ref (p1a 0), .int p2, .int p3]) ++ List.replicate (8 - (lg_sl ([.ref (p0a 0), .ref (p1a 0), .int p2, .int p3])).length) Slot.unset).toArray = ls at hl ⊢
  have hl : lv_has ls 8 [(0, .ref (p0a 0)), (1, .ref (p1a 0)), (2, .int p2), (3, .int p3)] := hl
  obtain ⟨H, hHe⟩ : ∃ H, H = s.heap := ⟨_, rfl⟩
  obtain ⟨locs, hle⟩ : ∃ locs : List Loc, locs = [] := ⟨_, rfl⟩
  rw [← hHe] at hP
  have hS : va_S A s.heap H locs := by rw [hHe, hle]; exact hS
  show W p l e ({ frames := 2, cells := 0, slots := 0, locals := 46 } : Room) s m ([.ref (p0a 0), .ref (p1a 0), .int p2, .int p3] : List Value).toArray below meth c s.heap [] 0 0 Q (F0 m 0 ls [])
  rw [← hle]
  refine wH9 hHe ?_
  unfold fX5_learnPhi at hrun
  refine lv_iconst (v := 0) hx hb dX5_learnPhi_0 (by decide) ?_
  refine lv_istore (lv' := [(4, .int 0), (0, .ref (p0a 0)), (1, .ref (p1a 0)), (2, .int p2), (3, .int p3)]) hx hb dX5_learnPhi_1 hl (by decide) rfl (fun ls hl => ?_)
  refine lv_iconst (v := 0) hx hb dX5_learnPhi_3 (by decide) ?_
  refine lv_istore (lv' := [(5, .int 0), (4, .int 0), (0, .ref (p0a 0)), (1, .ref (p1a 0)), (2, .int p2), (3, .int p3)]) hx hb dX5_learnPhi_4 hl (by decide) rfl (fun ls hl => ?_)
  have L6 : ∀ (n_6 : Nat) (v4_6 : Int32) (v5_6 : Int32) (p0w_6 : ST) (o6 : Int32 × ST) (H : Heap) (locs : List Loc) (ls : Array Slot), (fX5_learnPhi_L6 p0l p1n p1w p2 p3 n_6) v4_6 v5_6 p0w_6 = some o6 → va_P (dC, dI) cls (List.flatten ([(oX5 (p0a 0) p0a p0k p0w_6 p0l), (oX1 (p1a 0) p1a p1k p1n p1w p1l)] : List va_W)) H → va_D A (List.flatten ([(oX5 (p0a 0) p0a p0k p0w_6 p0l), (oX1 (p1a 0) p1a p1k p1n p1w p1l)] : List va_W)) → va_K (dC, dI) cls (List.flatten ([(tX5 p0k), (tX1 p1k)] : List (List (ClassId × FieldType)))) s → va_S A s.heap H locs → lv_has ls 8 [(0, .ref (p0a 0)), (1, .ref (p1a 0)), (2, .int p2), (3, .int p3), (4, .int v4_6), (5, .int v5_6)] → (∀ (H : Heap) (locs : List Loc) (ls : Array Slot), va_P (dC, dI) cls (List.flatten ([(oX5 (p0a 0) p0a p0k (o6.2) p0l), (oX1 (p1a 0) p1a p1k p1n p1w p1l)] : List va_W)) H → va_D A (List.flatten ([(oX5 (p0a 0) p0a p0k (o6.2) p0l), (oX1 (p1a 0) p1a p1k p1n p1w p1l)] : List va_W)) → va_K (dC, dI) cls (List.flatten ([(tX5 p0k), (tX1 p1k)] : List (List (ClassId × FieldType)))) s → va_S A s.heap H locs → lv_has ls 8 [(4, .int (o6.1))] → W p l e ({ frames := 2, cells := 0, slots := 0, locals := 46 } : Room) s m ([.ref (p0a 0), .ref (p1a 0), .int p2, .int p3] : List Value).toArray below meth c H locs 0 0 Q (F0 m 100 ls [])) → W p l e ({ frames := 2, cells := 0, slots := 0, locals := 46 } : Room) s m ([.ref (p0a 0), .ref (p1a 0), .int p2, .int p3] : List Value).toArray below meth c H locs 0 0 Q (F0 m 6 ls []) := by
    intro n_6
    induction n_6 with
    | zero => intro v4_6 v5_6 p0w_6 o6 H locs ls hrun; exact (no9 rfl hrun).elim
    | succ n_6 IH6 =>
      intro v4_6 v5_6 p0w_6 o6 H locs ls hrun hP hD hK hS hl hk6
      unfold fX5_learnPhi_L6 at hrun
      refine lv_iload hx hb dX5_learnPhi_6 (lv_at hl 5 rfl) ?_
      refine lv_aload_n hx hb dX5_learnPhi_8 rfl (lv_at hl 1 rfl) ?_
      refine lv_iload_n hx hb dX5_learnPhi_9 rfl (lv_at hl 2 rfl) ?_
      obtain ⟨o_1, hc_1, hrun⟩ := bnd9 hrun
      have hPx : va_P (dC, dI) cls ((List.flatten ([(oX1 (p1a 0) p1a p1k p1n p1w p1l)] : List va_W)) ++ (List.flatten ([(oX5 (p0a 0) p0a p0k p0w_6 p0l)] : List va_W))) H := vP_fa (vP_perm hP (bP ((((List.Perm.refl _)).cons _).trans (List.Perm.swap _ _ _))))
      have hDx : va_D A ((List.flatten ([(oX1 (p1a 0) p1a p1k p1n p1w p1l)] : List va_W)) ++ (List.flatten ([(oX5 (p0a 0) p0a p0k p0w_6 p0l)] : List va_W))) := vD_fa (vD_perm hD (bP ((((List.Perm.refl _)).cons _).trans (List.Perm.swap _ _ _))))
      have hKx : va_K (dC, dI) cls ((List.flatten ([(tX1 p1k)] : List (List (ClassId × FieldType)))) ++ (List.flatten ([(tX5 p0k)] : List (List (ClassId × FieldType))))) s := vK_fa (vK_perm hK (bP ((((List.Perm.refl _)).cons _).trans (List.Perm.swap _ _ _))))
      have hPc := vP_l hPx
      have hDc := vD_l hDx
      have hKc := vK_l hKx
      have hFc := vfree hDx hS hA
      refine va_calli (va_runV (As := [.int p2]) (rest := [.int v5_6]) ⟨hx, hb, hml, hown, hts⟩ (kX1_waysTo l dC dI (p0a := p1a) (p0k := p1k) (p0n := p1n) (p0w := p1w) (p0l := p1l) (p1 := p2) (sz := _) (o := o_1) (hrun := hc_1)) (cwV 1 hts (gi_V qw423 qw185 qw186 qw126 (gi_z qw183)) rfl rfl rfl (by decide +kernel) ⟨Nat.le_of_ble_eq_true rfl, Nat.le_of_ble_eq_true rfl⟩) ⟨PRE.blind, va_recv hKc hPc (ci := 4) (q0 := 0) rfl rfl, PRE.of hE hS hFc hPc hKc hDc⟩ rfl rfl hl.1 rfl (lv_room (Nat.le_of_ble_eq_true rfl)) dX5_learnPhi_10 ⟨(Nat.le_of_ble_eq_true rfl), (Nat.le_of_ble_eq_true rfl)⟩) hS (fun q _ h => hFc q h) hFc (fun r2 u t H locs ht hvm hw hB hz1 hk1 hS => ?_)
      obtain ⟨b1, b2, b3⟩ := hB
      rw [ht] at b1
      obtain ⟨hP, hD, hK⟩ := JOINC (wc := (List.flatten ([(oX1 (p1a 0) p1a p1k p1n p1w p1l)] : List va_W))) (wr := (List.flatten ([(oX5 (p0a 0) p0a p0k p0w_6 p0l)] : List va_W))) (w1 := (List.flatten ([(oX1 (p1a 0) p1a p1k p1n p1w p1l)] : List va_W))) (t1 := (List.flatten ([(tX1 p1k)] : List (List (ClassId × FieldType))))) hPx hDx hKx hk1 hFc b1 (va_K.moved hvm.symm b2) b3
      have hP : va_P (dC, dI) cls (List.flatten ([(oX5 (p0a 0) p0a p0k p0w_6 p0l), (oX1 (p1a 0) p1a p1k p1n p1w p1l)] : List va_W)) H := vP_perm (vP_fb hP) (bP ((((List.Perm.refl _)).cons _).trans (List.Perm.swap _ _ _)))
      have hD : va_D A (List.flatten ([(oX5 (p0a 0) p0a p0k p0w_6 p0l), (oX1 (p1a 0) p1a p1k p1n p1w p1l)] : List va_W)) := vD_perm (vD_fb hD) (bP ((((List.Perm.refl _)).cons _).trans (List.Perm.swap _ _ _)))
      have hK : va_K (dC, dI) cls (List.flatten ([(tX5 p0k), (tX1 p1k)] : List (List (ClassId × FieldType)))) s := vK_perm (vK_fb hK) (bP ((((List.Perm.refl _)).cons _).trans (List.Perm.swap _ _ _)))
      obtain rfl : o_1 = r2 := hw.symm
      rcases br9 hrun with ⟨hc3, hrun⟩ | ⟨hc3, hrun⟩
      · refine lv_icmp_ge (tgt := 100) hx hb dX5_learnPhi_13 (by decide) (fun _ => ?_) (fun c => absurd hc3 c)
        obtain rfl := (Option.some.inj hrun)
        exact hk6 _ _ _ hP hD hK hS (lv_sub hl [4] rfl)
      · refine lv_icmp_ge (tgt := 100) hx hb dX5_learnPhi_13 (by decide) (fun c => absurd c hc3) (fun _ => ?_)
        refine lv_aload_n hx hb dX5_learnPhi_16 rfl (lv_at hl 1 rfl) ?_
        refine lv_iload_n hx hb dX5_learnPhi_17 rfl (lv_at hl 2 rfl) ?_
        refine lv_iload hx hb dX5_learnPhi_18 (lv_at hl 5 rfl) ?_
        obtain ⟨o_4, hc_4, hrun⟩ := bnd9 hrun
        have hPx : va_P (dC, dI) cls ((List.flatten ([(oX1 (p1a 0) p1a p1k p1n p1w p1l)] : List va_W)) ++ (List.flatten ([(oX5 (p0a 0) p0a p0k p0w_6 p0l)] : List va_W))) H := vP_fa (vP_perm hP (bP ((((List.Perm.refl _)).cons _).trans (List.Perm.swap _ _ _))))
        have hDx : va_D A ((List.flatten ([(oX1 (p1a 0) p1a p1k p1n p1w p1l)] : List va_W)) ++ (List.flatten ([(oX5 (p0a 0) p0a p0k p0w_6 p0l)] : List va_W))) := vD_fa (vD_perm hD (bP ((((List.Perm.refl _)).cons _).trans (List.Perm.swap _ _ _))))
        have hKx : va_K (dC, dI) cls ((List.flatten ([(tX1 p1k)] : List (List (ClassId × FieldType)))) ++ (List.flatten ([(tX5 p0k)] : List (List (ClassId × FieldType))))) s := vK_fa (vK_perm hK (bP ((((List.Perm.refl _)).cons _).trans (List.Perm.swap _ _ _))))
        have hPc := vP_l hPx
        have hDc := vD_l hDx
        have hKc := vK_l hKx
        have hFc := vfree hDx hS hA
        refine va_calli (va_runV (As := [.int p2, .int v5_6]) (rest := []) ⟨hx, hb, hml, hown, hts⟩ (kX1_wayFrom l dC dI (p0a := p1a) (p0k := p1k) (p0n := p1n) (p0w := p1w) (p0l := p1l) (p1 := p2) (p2 := v5_6) (sz := _) (o := o_4) (hrun := hc_4)) (cwV 2 hts (gi_V qw424 qw189 qw190 qw126 (gi_z qw187)) rfl rfl rfl (by decide +kernel) ⟨Nat.le_of_ble_eq_true rfl, Nat.le_of_ble_eq_true rfl⟩) ⟨PRE.blind, va_recv hKc hPc (ci := 4) (q0 := 0) rfl rfl, PRE.of hE hS hFc hPc hKc hDc⟩ rfl rfl hl.1 rfl (lv_room (Nat.le_of_ble_eq_true rfl)) dX5_learnPhi_20 ⟨(Nat.le_of_ble_eq_true rfl), (Nat.le_of_ble_eq_true rfl)⟩) hS (fun q _ h => hFc q h) hFc (fun r5 u t H locs ht hvm hw hB hz1 hk1 hS => ?_)
        obtain ⟨b1, b2, b3⟩ := hB
        rw [ht] at b1
        obtain ⟨hP, hD, hK⟩ := JOINC (wc := (List.flatten ([(oX1 (p1a 0) p1a p1k p1n p1w p1l)] : List va_W))) (wr := (List.flatten ([(oX5 (p0a 0) p0a p0k p0w_6 p0l)] : List va_W))) (w1 := (List.flatten ([(oX1 (p1a 0) p1a p1k p1n p1w p1l)] : List va_W))) (t1 := (List.flatten ([(tX1 p1k)] : List (List (ClassId × FieldType))))) hPx hDx hKx hk1 hFc b1 (va_K.moved hvm.symm b2) b3
        have hP : va_P (dC, dI) cls (List.flatten ([(oX5 (p0a 0) p0a p0k p0w_6 p0l), (oX1 (p1a 0) p1a p1k p1n p1w p1l)] : List va_W)) H := vP_perm (vP_fb hP) (bP ((((List.Perm.refl _)).cons _).trans (List.Perm.swap _ _ _)))
        have hD : va_D A (List.flatten ([(oX5 (p0a 0) p0a p0k p0w_6 p0l), (oX1 (p1a 0) p1a p1k p1n p1w p1l)] : List va_W)) := vD_perm (vD_fb hD) (bP ((((List.Perm.refl _)).cons _).trans (List.Perm.swap _ _ _)))
        have hK : va_K (dC, dI) cls (List.flatten ([(tX5 p0k), (tX1 p1k)] : List (List (ClassId × FieldType)))) s := vK_perm (vK_fb hK) (bP ((((List.Perm.refl _)).cons _).trans (List.Perm.swap _ _ _)))
        obtain rfl : o_4 = r5 := hw.symm
        refine lv_istore (lv' := [(6, .int o_4), (0, .ref (p0a 0)), (1, .ref (p1a 0)), (2, .int p2), (3, .int p3), (4, .int v4_6), (5, .int v5_6)]) hx hb dX5_learnPhi_23 hl (by decide) rfl (fun ls hl => ?_)
        refine lv_aload_n hx hb dX5_learnPhi_25 rfl (lv_at hl 2 rfl) ?_
        refine lv_iload_n hx hb dX5_learnPhi_26 rfl (lv_at hl 4 rfl) ?_
        refine lv_iload hx hb dX5_learnPhi_27 (lv_at hl 0 rfl) ?_
        obtain ⟨o_6, hc_6, hrun⟩ := bnd9 hrun
        have hPx : va_P (dC, dI) cls ((List.flatten ([(oX1 (p1a 0) p1a p1k p1n p1w p1l)] : List va_W)) ++ (List.flatten ([(oX5 (p0a 0) p0a p0k p0w_6 p0l)] : List va_W))) H := vP_fa (vP_perm hP (bP ((((List.Perm.refl _)).cons _).trans (List.Perm.swap _ _ _))))
        have hDx : va_D A ((List.flatten ([(oX1 (p1a 0) p1a p1k p1n p1w p1l)] : List va_W)) ++ (List.flatten ([(oX5 (p0a 0) p0a p0k p0w_6 p0l)] : List va_W))) := vD_fa (vD_perm hD (bP ((((List.Perm.refl _)).cons _).trans (List.Perm.swap _ _ _))))
        have hKx : va_K (dC, dI) cls ((List.flatten ([(tX1 p1k)] : List (List (ClassId × FieldType)))) ++ (List.flatten ([(tX5 p0k)] : List (List (ClassId × FieldType))))) s := vK_fa (vK_perm hK (bP ((((List.Perm.refl _)).cons _).trans (List.Perm.swap _ _ _))))
        have hPc := vP_l hPx
        have hDc := vD_l hDx
        have hKc := vK_l hKx
        have hFc := vfree hDx hS hA
        refine va_calli (va_runV (As := [.int p3, .int o_4]) (rest := []) ⟨hx, hb, hml, hown, hts⟩ (kX1_take l dC dI (p0a := p1a) (p0k := p1k) (p0n := p1n) (p0w := p1w) (p0l := p1l) (p1 := p3) (p2 := o_4) (sz := _) (o := o_6) (hrun := hc_6)) (cwV 2 hts (gi_V qw469 qw470 qw471 qw126 (gi_z qw468)) rfl rfl rfl (by decide +kernel) ⟨Nat.le_of_ble_eq_true rfl, Nat.le_of_ble_eq_true rfl⟩) ⟨PRE.blind, va_recv hKc hPc (ci := 4) (q0 := 0) rfl rfl, PRE.of hE hS hFc hPc hKc hDc⟩ rfl rfl hl.1 rfl (lv_room (Nat.le_of_ble_eq_true rfl)) dX5_learnPhi_29 ⟨(Nat.le_of_ble_eq_true rfl), (Nat.le_of_ble_eq_true rfl)⟩) hS (fun q _ h => hFc q h) hFc (fun r7 u t H locs ht hvm hw hB hz1 hk1 hS => ?_)
        obtain ⟨b1, b2, b3⟩ := hB
        rw [ht] at b1
        obtain ⟨hP, hD, hK⟩ := JOINC (wc := (List.flatten ([(oX1 (p1a 0) p1a p1k p1n p1w p1l)] : List va_W))) (wr := (List.flatten ([(oX5 (p0a 0) p0a p0k p0w_6 p0l)] : List va_W))) (w1 := (List.flatten ([(oX1 (p1a 0) p1a p1k p1n p1w p1l)] : List va_W))) (t1 := (List.flatten ([(tX1 p1k)] : List (List (ClassId × FieldType))))) hPx hDx hKx hk1 hFc b1 (va_K.moved hvm.symm b2) b3
        have hP : va_P (dC, dI) cls (List.flatten ([(oX5 (p0a 0) p0a p0k p0w_6 p0l), (oX1 (p1a 0) p1a p1k p1n p1w p1l)] : List va_W)) H := vP_perm (vP_fb hP) (bP ((((List.Perm.refl _)).cons _).trans (List.Perm.swap _ _ _)))
        have hD : va_D A (List.flatten ([(oX5 (p0a 0) p0a p0k p0w_6 p0l), (oX1 (p1a 0) p1a p1k p1n p1w p1l)] : List va_W)) := vD_perm (vD_fb hD) (bP ((((List.Perm.refl _)).cons _).trans (List.Perm.swap _ _ _)))
        have hK : va_K (dC, dI) cls (List.flatten ([(tX5 p0k), (tX1 p1k)] : List (List (ClassId × FieldType)))) s := vK_perm (vK_fb hK) (bP ((((List.Perm.refl _)).cons _).trans (List.Perm.swap _ _ _)))
        obtain rfl : o_6 = r7 := hw.symm
        refine lv_istore (lv' := [(7, .int o_6), (6, .int o_4), (0, .ref (p0a 0)), (1, .ref (p1a 0)), (2, .int p2), (3, .int p3), (4, .int v4_6), (5, .int v5_6)]) hx hb dX5_learnPhi_32 hl (by decide) rfl (fun ls hl => ?_)
        refine lv_aload_n hx hb dX5_learnPhi_34 rfl (lv_at hl 2 rfl) ?_
        refine lv_aload_n hx hb dX5_learnPhi_35 rfl (lv_at hl 3 rfl) ?_
        refine lv_iload hx hb dX5_learnPhi_36 (lv_at hl 1 rfl) ?_
        refine lv_iload_n hx hb dX5_learnPhi_38 rfl (lv_at hl 4 rfl) ?_
        obtain ⟨o_8, hc_8, hrun⟩ := bnd9 hrun
        have hPx : va_P (dC, dI) cls ((List.flatten ([(oX5 (p0a 0) p0a p0k p0w_6 p0l), (oX1 (p1a 0) p1a p1k p1n p1w p1l)] : List va_W)) ++ (List.flatten ([] : List va_W))) H := vP_fa (vP_perm hP (bP (List.Perm.refl _)))
        have hDx : va_D A ((List.flatten ([(oX5 (p0a 0) p0a p0k p0w_6 p0l), (oX1 (p1a 0) p1a p1k p1n p1w p1l)] : List va_W)) ++ (List.flatten ([] : List va_W))) := vD_fa (vD_perm hD (bP (List.Perm.refl _)))
        have hKx : va_K (dC, dI) cls ((List.flatten ([(tX5 p0k), (tX1 p1k)] : List (List (ClassId × FieldType)))) ++ (List.flatten ([] : List (List (ClassId × FieldType))))) s := vK_fa (vK_perm hK (bP (List.Perm.refl _)))
        have hPc := vP_l hPx
        have hDc := vD_l hDx
        have hKc := vK_l hKx
        have hFc := vfree hDx hS hA
        refine va_calli (va_runV (As := [.ref (p1a 0), .int o_4, .int p2]) (rest := []) ⟨hx, hb, hml, hown, hts⟩ (kX5_isWay l dC dI (p0a := p0a) (p0k := p0k) (p0w := p0w_6) (p0l := p0l) (p1a := p1a) (p1k := p1k) (p1n := p1n) (p1w := p1w) (p1l := p1l) (p2 := o_4) (p3 := p2) (sz := _) (o := o_8) (hrun := hc_8)) (cwV 3 hts (gi_V qw506 qw507 qw508 qw442 (gi_z qw505)) rfl rfl rfl (by decide +kernel) ⟨Nat.le_of_ble_eq_true rfl, Nat.le_of_ble_eq_true rfl⟩) ⟨PRE.blind, va_recv hKc hPc (ci := 7) (q0 := 0) rfl rfl, PRE.of hE hS hFc hPc hKc hDc⟩ rfl rfl hl.1 rfl (lv_room (Nat.le_of_ble_eq_true rfl)) dX5_learnPhi_39 ⟨(Nat.le_of_ble_eq_true rfl), (Nat.le_of_ble_eq_true rfl)⟩) hS (fun q _ h => hFc q h) hFc (fun r9 u t H locs ht hvm hw hB hz1 hk1 hS => ?_)
        obtain ⟨b1, b2, b3⟩ := hB
        rw [ht] at b1
        obtain ⟨hP, hD, hK⟩ := JOINC (wc := (List.flatten ([(oX5 (p0a 0) p0a p0k p0w_6 p0l), (oX1 (p1a 0) p1a p1k p1n p1w p1l)] : List va_W))) (wr := (List.flatten ([] : List va_W))) (w1 := (List.flatten ([(oX5 (p0a 0) p0a p0k p0w_6 p0l), (oX1 (p1a 0) p1a p1k p1n p1w p1l)] : List va_W))) (t1 := (List.flatten ([(tX5 p0k), (tX1 p1k)] : List (List (ClassId × FieldType))))) hPx hDx hKx hk1 hFc b1 (va_K.moved hvm.symm b2) b3
        have hP : va_P (dC, dI) cls (List.flatten ([(oX5 (p0a 0) p0a p0k p0w_6 p0l), (oX1 (p1a 0) p1a p1k p1n p1w p1l)] : List va_W)) H := vP_perm (vP_fb hP) (bP (List.Perm.refl _))
        have hD : va_D A (List.flatten ([(oX5 (p0a 0) p0a p0k p0w_6 p0l), (oX1 (p1a 0) p1a p1k p1n p1w p1l)] : List va_W)) := vD_perm (vD_fb hD) (bP (List.Perm.refl _))
        have hK : va_K (dC, dI) cls (List.flatten ([(tX5 p0k), (tX1 p1k)] : List (List (ClassId × FieldType)))) s := vK_perm (vK_fb hK) (bP (List.Perm.refl _))
        obtain rfl : o_8 = r9 := hw.symm
        have J94 : ∀ (v4_94 : Int32) (p0w_94 : ST) (H : Heap) (locs : List Loc) (ls : Array Slot), (fX5_learnPhi_J94 (fX5_learnPhi_L6 p0l p1n p1w p2 p3 n_6) v5_6 v4_94 p0w_94) = some o6 → va_P (dC, dI) cls (List.flatten ([(oX5 (p0a 0) p0a p0k p0w_94 p0l), (oX1 (p1a 0) p1a p1k p1n p1w p1l)] : List va_W)) H → va_D A (List.flatten ([(oX5 (p0a 0) p0a p0k p0w_94 p0l), (oX1 (p1a 0) p1a p1k p1n p1w p1l)] : List va_W)) → va_K (dC, dI) cls (List.flatten ([(tX5 p0k), (tX1 p1k)] : List (List (ClassId × FieldType)))) s → va_S A s.heap H locs → lv_has ls 8 [(0, .ref (p0a 0)), (1, .ref (p1a 0)), (2, .int p2), (3, .int p3), (4, .int v4_94), (5, .int v5_6)] → W p l e ({ frames := 2, cells := 0, slots := 0, locals := 46 } : Room) s m ([.ref (p0a 0), .ref (p1a 0), .int p2, .int p3] : List Value).toArray below meth c H locs 0 0 Q (F0 m 94 ls []) := by
          intro v4_94 p0w_94 H locs ls hrun hP hD hK hS hl 
          unfold fX5_learnPhi_J94 at hrun
          refine lv_iinc (v := (v5_6 + 1)) (lv' := [(5, .int (v5_6 + 1)), (0, .ref (p0a 0)), (1, .ref (p1a 0)), (2, .int p2), (3, .int p3), (4, .int v4_94)]) hx hb dX5_learnPhi_94 hl (k := 5) rfl rfl (by decide) rfl (fun ls hl => ?_)
          refine lv_goto (tgt := 6) hx hb dX5_learnPhi_97 (by decide) ?_
          exact IH6 v4_94 (v5_6 + 1) p0w_94 o6 _ _ _ hrun hP hD hK hS (lv_sub hl [1, 2, 3, 4, 5, 0] rfl) hk6
        rcases br9 hrun with ⟨hc10, hrun⟩ | ⟨hc10, hrun⟩
        · refine lv_if_eq (tgt := 94) hx hb dX5_learnPhi_42 (by decide) (fun _ => ?_) (fun c => absurd hc10 c)
          exact J94 v4_6 p0w_6 _ _ _ hrun hP hD hK hS (lv_sub hl [2, 3, 4, 5, 6, 7] rfl)
        · refine lv_if_eq (tgt := 94) hx hb dX5_learnPhi_42 (by decide) (fun c => absurd c hc10) (fun _ => ?_)
          refine lv_aload_n hx hb dX5_learnPhi_45 rfl (lv_at hl 2 rfl) ?_
          refine va_get (D := (dC, dI)) (ci := 7) (v := .ref (p0a 4)) (C := RX5) (T := TX5) (N := 12) hx hb hts i_X5 hown hK hP 0 rfl rfl 3 (by decide) (hts _ qw490) (fun _ h9 => h9) rfl dX5_learnPhi_46 ?_
          refine lv_iload hx hb dX5_learnPhi_49 (lv_at hl 0 rfl) ?_
          obtain ⟨hq11, hrun⟩ := chk9 hrun
          refine va_iald hx hb hK hP 3 2 rfl rfl (ixb_in hq11) dX5_learnPhi_51 ?_
          rcases br9 hrun with ⟨hc12, hrun⟩ | ⟨hc12, hrun⟩
          · refine lv_if_eq (tgt := 94) hx hb dX5_learnPhi_52 (by decide) (fun _ => ?_) (fun c => absurd hc12 c)
            exact J94 v4_6 p0w_6 _ _ _ hrun hP hD hK hS (lv_sub hl [2, 3, 4, 5, 6, 7] rfl)
          · refine lv_if_eq (tgt := 94) hx hb dX5_learnPhi_52 (by decide) (fun c => absurd c hc12) (fun _ => ?_)
            refine lv_aload_n hx hb dX5_learnPhi_55 rfl (lv_at hl 2 rfl) ?_
            refine lv_aload_n hx hb dX5_learnPhi_56 rfl (lv_at hl 3 rfl) ?_
            refine va_get (D := (dC, dI)) (ci := 4) (v := .ref (p1a 19)) (C := RX1) (T := TX1) (N := 21) hx hb hts i_X1 hown hK hP 10 rfl rfl 18 (by decide) (hts _ qw432) (fun _ h9 => h9) rfl dX5_learnPhi_57 ?_
            refine lv_iload_n hx hb dX5_learnPhi_60 rfl (lv_at hl 5 rfl) ?_
            obtain ⟨hq13, hrun⟩ := chk9 hrun
            refine va_iald hx hb hK hP 25 23 rfl rfl (ixb_in hq13) dX5_learnPhi_61 ?_
            refine lv_aload_n hx hb dX5_learnPhi_62 rfl (lv_at hl 2 rfl) ?_
            refine va_get (D := (dC, dI)) (ci := 7) (v := .ref (p0a 4)) (C := RX5) (T := TX5) (N := 12) hx hb hts i_X5 hown hK hP 0 rfl rfl 3 (by decide) (hts _ qw490) (fun _ h9 => h9) rfl dX5_learnPhi_63 ?_
            refine lv_iload hx hb dX5_learnPhi_66 (lv_at hl 0 rfl) ?_
            obtain ⟨hq14, hrun⟩ := chk9 hrun
            refine va_iald hx hb hK hP 3 2 rfl rfl (ixb_in hq14) dX5_learnPhi_68 ?_
            refine lv_aload_n hx hb dX5_learnPhi_69 rfl (lv_at hl 2 rfl) ?_
            refine va_get (D := (dC, dI)) (ci := 7) (v := .ref (p0a 5)) (C := RX5) (T := TX5) (N := 12) hx hb hts i_X5 hown hK hP 0 rfl rfl 4 (by decide) (hts _ qw491) (fun _ h9 => h9) rfl dX5_learnPhi_70 ?_
            refine lv_iload hx hb dX5_learnPhi_73 (lv_at hl 0 rfl) ?_
            obtain ⟨hq15, hrun⟩ := chk9 hrun
            refine va_iald hx hb hK hP 4 3 rfl rfl (ixb_in hq15) dX5_learnPhi_75 ?_
            obtain ⟨o_16, hc_16, hrun⟩ := bnd9 hrun
            have hPx : va_P (dC, dI) cls ((List.flatten ([(oX5 (p0a 0) p0a p0k p0w_6 p0l)] : List va_W)) ++ (List.flatten ([(oX1 (p1a 0) p1a p1k p1n p1w p1l)] : List va_W))) H := vP_fa (vP_perm hP (bP (List.Perm.refl _)))
            have hDx : va_D A ((List.flatten ([(oX5 (p0a 0) p0a p0k p0w_6 p0l)] : List va_W)) ++ (List.flatten ([(oX1 (p1a 0) p1a p1k p1n p1w p1l)] : List va_W))) := vD_fa (vD_perm hD (bP (List.Perm.refl _)))
            have hKx : va_K (dC, dI) cls ((List.flatten ([(tX5 p0k)] : List (List (ClassId × FieldType)))) ++ (List.flatten ([(tX1 p1k)] : List (List (ClassId × FieldType))))) s := vK_fa (vK_perm hK (bP (List.Perm.refl _)))
            have hPc := vP_l hPx
            have hDc := vD_l hDx
            have hKc := vK_l hKx
            have hFc := vfree hDx hS hA
            refine va_calli (va_runV (As := [.int (p1w 19 (nn p3)), .int (p0w_6 4 (nn o_6)), .int (p0w_6 5 (nn o_6))]) (rest := []) ⟨hx, hb, hml, hown, hts⟩ (kX5_learn l dC dI (p0a := p0a) (p0k := p0k) (p0w := p0w_6) (p0l := p0l) (p1 := (p1w 19 (nn p3))) (p2 := (p0w_6 4 (nn o_6))) (p3 := (p0w_6 5 (nn o_6))) (sz := _) (o := o_16) (hrun := hc_16)) (cwV 3 hts (gi_V qw510 qw511 qw512 qw442 (gi_z qw509)) rfl rfl rfl (by decide +kernel) ⟨Nat.le_of_ble_eq_true rfl, Nat.le_of_ble_eq_true rfl⟩) ⟨PRE.blind, va_recv hKc hPc (ci := 7) (q0 := 0) rfl rfl, PRE.of hE hS hFc hPc hKc hDc⟩ rfl rfl hl.1 rfl (lv_room (Nat.le_of_ble_eq_true rfl)) dX5_learnPhi_76 ⟨(Nat.le_of_ble_eq_true rfl), (Nat.le_of_ble_eq_true rfl)⟩) hS (fun q _ h => hFc q h) hFc (fun r17 u t H locs ht hvm hw hB hz1 hk1 hS => ?_)
            obtain ⟨b1, b2, b3⟩ := hB
            rw [ht] at b1
            obtain ⟨hP, hD, hK⟩ := JOINC (wc := (List.flatten ([(oX5 (p0a 0) p0a p0k p0w_6 p0l)] : List va_W))) (wr := (List.flatten ([(oX1 (p1a 0) p1a p1k p1n p1w p1l)] : List va_W))) (w1 := (List.flatten ([(oX5 (p0a 0) p0a p0k (o_16.2) p0l)] : List va_W))) (t1 := (List.flatten ([(tX5 p0k)] : List (List (ClassId × FieldType))))) hPx hDx hKx hk1 hFc b1 (va_K.moved hvm.symm b2) b3
            have hP : va_P (dC, dI) cls (List.flatten ([(oX5 (p0a 0) p0a p0k (o_16.2) p0l), (oX1 (p1a 0) p1a p1k p1n p1w p1l)] : List va_W)) H := vP_perm (vP_fb hP) (bP (List.Perm.refl _))
            have hD : va_D A (List.flatten ([(oX5 (p0a 0) p0a p0k (o_16.2) p0l), (oX1 (p1a 0) p1a p1k p1n p1w p1l)] : List va_W)) := vD_perm (vD_fb hD) (bP (List.Perm.refl _))
            have hK : va_K (dC, dI) cls (List.flatten ([(tX5 p0k), (tX1 p1k)] : List (List (ClassId × FieldType)))) s := vK_perm (vK_fb hK) (bP (List.Perm.refl _))
            obtain rfl : r17 = (o_16.1) := hw
            have J92 : ∀ (y0_92 : Int32) (H : Heap) (locs : List Loc) (ls : Array Slot), (fX5_learnPhi_J92 (fX5_learnPhi_L6 p0l p1n p1w p2 p3 n_6) v5_6 o_16 y0_92) = some o6 → va_P (dC, dI) cls (List.flatten ([(oX5 (p0a 0) p0a p0k (o_16.2) p0l), (oX1 (p1a 0) p1a p1k p1n p1w p1l)] : List va_W)) H → va_D A (List.flatten ([(oX5 (p0a 0) p0a p0k (o_16.2) p0l), (oX1 (p1a 0) p1a p1k p1n p1w p1l)] : List va_W)) → va_K (dC, dI) cls (List.flatten ([(tX5 p0k), (tX1 p1k)] : List (List (ClassId × FieldType)))) s → va_S A s.heap H locs → lv_has ls 8 [(0, .ref (p0a 0)), (1, .ref (p1a 0)), (2, .int p2), (3, .int p3), (5, .int v5_6)] → W p l e ({ frames := 2, cells := 0, slots := 0, locals := 46 } : Room) s m ([.ref (p0a 0), .ref (p1a 0), .int p2, .int p3] : List Value).toArray below meth c H locs 0 0 Q (F0 m 92 ls [.int y0_92]) := by
              intro y0_92 H locs ls hrun hP hD hK hS hl 
              unfold fX5_learnPhi_J92 at hrun
              refine lv_istore (lv' := [(4, .int y0_92), (0, .ref (p0a 0)), (1, .ref (p1a 0)), (2, .int p2), (3, .int p3), (5, .int v5_6)]) hx hb dX5_learnPhi_92 hl (by decide) rfl (fun ls hl => ?_)
              exact J94 y0_92 (o_16.2) _ _ _ hrun hP hD hK hS (lv_sub hl [1, 2, 3, 4, 0, 5] rfl)
            have J87 : ∀ (H : Heap) (locs : List Loc) (ls : Array Slot), (fX5_learnPhi_J87 (fX5_learnPhi_L6 p0l p1n p1w p2 p3 n_6) v5_6 o_16) = some o6 → va_P (dC, dI) cls (List.flatten ([(oX5 (p0a 0) p0a p0k (o_16.2) p0l), (oX1 (p1a 0) p1a p1k p1n p1w p1l)] : List va_W)) H → va_D A (List.flatten ([(oX5 (p0a 0) p0a p0k (o_16.2) p0l), (oX1 (p1a 0) p1a p1k p1n p1w p1l)] : List va_W)) → va_K (dC, dI) cls (List.flatten ([(tX5 p0k), (tX1 p1k)] : List (List (ClassId × FieldType)))) s → va_S A s.heap H locs → lv_has ls 8 [(0, .ref (p0a 0)), (1, .ref (p1a 0)), (2, .int p2), (3, .int p3), (5, .int v5_6)] → W p l e ({ frames := 2, cells := 0, slots := 0, locals := 46 } : Room) s m ([.ref (p0a 0), .ref (p1a 0), .int p2, .int p3] : List Value).toArray below meth c H locs 0 0 Q (F0 m 87 ls []) := by
              intro  H locs ls hrun hP hD hK hS hl 
              unfold fX5_learnPhi_J87 at hrun
              refine lv_iconst (v := 1) hx hb dX5_learnPhi_87 (by decide) ?_
              refine lv_goto (tgt := 92) hx hb dX5_learnPhi_88 (by decide) ?_
              exact J92 1 _ _ _ hrun hP hD hK hS (lv_sub hl [0, 1, 2, 3, 4] rfl)
            rcases br9 hrun with ⟨hc18, hrun⟩ | ⟨hc18, hrun⟩
            · refine lv_if_ne (tgt := 87) hx hb dX5_learnPhi_79 (by decide) (fun c => absurd hc18 c) (fun _ => ?_)
              refine lv_iload hx hb dX5_learnPhi_82 (lv_at hl 6 rfl) ?_
              rcases br9 hrun with ⟨hc19, hrun⟩ | ⟨hc19, hrun⟩
              · refine lv_if_eq (tgt := 91) hx hb dX5_learnPhi_84 (by decide) (fun _ => ?_) (fun c => absurd hc19 c)
                refine lv_iconst (v := 0) hx hb dX5_learnPhi_91 (by decide) ?_
                exact J92 0 _ _ _ hrun hP hD hK hS (lv_sub hl [2, 3, 4, 5, 7] rfl)
              · refine lv_if_eq (tgt := 91) hx hb dX5_learnPhi_84 (by decide) (fun c => absurd c hc19) (fun _ => ?_)
                exact J87 _ _ _ hrun hP hD hK hS (lv_sub hl [2, 3, 4, 5, 7] rfl)
            · refine lv_if_ne (tgt := 87) hx hb dX5_learnPhi_79 (by decide) (fun _ => ?_) (fun c => absurd c hc18)
              exact J87 _ _ _ hrun hP hD hK hS (lv_sub hl [2, 3, 4, 5, 7] rfl)
  obtain ⟨o6, hc6, hrun⟩ := bnd9 hrun
  refine L6 NF 0 0 p0w o6 _ _ _ hc6 hP hD hK hS (lv_sub hl [2, 3, 4, 5, 1, 0] rfl) ?_
  intro H locs ls hP hD hK hS hl
  have hl := hl
  refine lv_iload hx hb dX5_learnPhi_100 (lv_at hl 0 rfl) ?_
  obtain ⟨hz9, hrun⟩ := chk9 hrun
  have ho9 : ((o6.1), (o6.2)) = o := Option.some.inj hrun
  have hP9 : va_P (dC, dI) cls (List.flatten ([(oX5 (p0a 0) p0a p0k (o.2) p0l), (oX1 (p1a 0) p1a p1k p1n p1w p1l)] : List va_W)) H := by first | exact hP | (rw [← ho9]; exact hP)
  have hD9 : va_D A (List.flatten ([(oX5 (p0a 0) p0a p0k (o.2) p0l), (oX1 (p1a 0) p1a p1k p1n p1w p1l)] : List va_W)) := by first | exact hD | (rw [← ho9]; exact hD)
  subst hQ
  exact W.zret (v := (o6.1)) hx hb hr (bz9 hz9) (fun t ht hW => ⟨⟨(o6.1), (), rfl, (by rw [← ho9]), ⟨by rw [ht]; exact hP9, va_K.moved hW.alike hK, hD9⟩⟩, hS.F ht⟩) hS.2.2 dX5_learnPhi_102
def fX11_isFailing_J19 (y0_19 : Int32) : Option Int32 := (if y0_19 = 0 ∨ y0_19 = 1 then some y0_19 else none)
def fX11_isFailing_J18  : Option Int32 := (fX11_isFailing_J19 0)
def fX11_isFailing_J10 (p1 : Int32) : Option Int32 := (if p1 = 0 then (fX11_isFailing_J19 1) else (fX11_isFailing_J18))
def fX11_isFailing (p0 : Int32) (p1 : Int32) : Option Int32 := (if p0 = 4 then (fX11_isFailing_J10 p1) else (if p0 = 5 then (fX11_isFailing_J10 p1) else (fX11_isFailing_J18)))
set_option maxHeartbeats 16000000 in
set_option maxRecDepth 100000 in
theorem kX11_isFailing {zs : ZS} (l : Launch) (dC : Nat → ClassId) (dI : Nat → Nat → Nat) (p0 : Int32) (p1 : Int32) (sz : Nat) (o : Int32) (hrun : fX11_isFailing p0 p1 = some o) : Met l yX11_isFailing (wz yX11_isFailing cX11_isFailing 2 (Option.some Jvm.ClassFile.FieldType.boolean)) ({ frames := 0, cells := 0, slots := 0, locals := 0 } : Room) (va_Pc [.int p0, .int p1] (PRE zs dC dI (List.flatten ([] : List va_W)) (List.flatten ([] : List (List (ClassId × FieldType)))) sz)) (va_Qi (fun (r : Int32) (_ : Unit) => r = o) (fun _ t => POST dC dI (List.flatten ([] : List va_W)) (List.flatten ([] : List (List (ClassId × FieldType)))) (va_A (List.flatten ([] : List va_W)) sz) t) (va_A (List.flatten ([] : List va_W)) sz)) 0 0 (va_A (List.flatten ([] : List va_W)) sz) := by
  refine Met.ofW (cc := cX11_isFailing) (maxL := 2) (ret := (Option.some Jvm.ClassFile.FieldType.boolean)) (by decide) rfl ?_
  intro p e s m args below meth c s₁ B hml hv
  obtain ⟨rfl, hsz, hP, hK, hD0, hE⟩ := hv
  have hx := B.exec
  have hb := B.bytes
  have hr := B.returns
  have hts0 := atoms_spec (ws := wz yX11_isFailing cX11_isFailing 2 (Option.some Jvm.ClassFile.FieldType.boolean)) B.pre
  have hts : ∀ w ∈ gw, w.before _ s = true := fun w h => hts0 w (List.mem_cons_of_mem _ h)
  have hown : s.vm.findClass RX11 = some m.cls := findClass_of_methodNamed B.named
  have hlocks := B.notSynchronized
  subst hsz
  have hD := hD0.self (sz := s.heap.size)
  refine gQ9 ?_
  intro Q hQ
  generalize hAe : va_A (List.flatten ([] : List va_W)) s.heap.size = A at hD hE hQ
  have hA : ∀ q : Nat, s.heap.size ≤ q → A q := fun q h => by rw [← hAe]; exact Or.inr h
  have hS : va_S A s.heap s.heap [] := va_S.rf
  have hP : va_P (dC, dI) cls (List.flatten ([] : List va_W)) s.heap := hP
  have hl := lv_entry ([.int p0, .int p1]) (n := 2) (Nat.le_of_ble_eq_true rfl)
  rw [lg_entry_eq]
  generalize (lg_sl ([.int p0, .int p1]) ++ List.replicate (2 - (lg_sl ([.int p0, .int p1])).length) Slot.unset).toArray = ls at hl ⊢
  have hl : lv_has ls 2 [(0, .int p0), (1, .int p1)] := hl
  obtain ⟨H, hHe⟩ : ∃ H, H = s.heap := ⟨_, rfl⟩
  obtain ⟨locs, hle⟩ : ∃ locs : List Loc, locs = [] := ⟨_, rfl⟩
  rw [← hHe] at hP
  have hS : va_S A s.heap H locs := by rw [hHe, hle]; exact hS
  show W p l e ({ frames := 0, cells := 0, slots := 0, locals := 0 } : Room) s m ([.int p0, .int p1] : List Value).toArray below meth c s.heap [] 0 0 Q (F0 m 0 ls [])
  rw [← hle]
  refine wH9 hHe ?_
  unfold fX11_isFailing at hrun
  refine lv_iload_n hx hb dX11_isFailing_0 rfl (lv_at hl 0 rfl) ?_
  refine lv_iconst (v := 4) hx hb dX11_isFailing_1 (by decide) ?_
  have J19 : ∀ (y0_19 : Int32) (H : Heap) (locs : List Loc) (ls : Array Slot), (fX11_isFailing_J19 y0_19) = some o → va_P (dC, dI) cls (List.flatten ([] : List va_W)) H → va_D A (List.flatten ([] : List va_W)) → va_K (dC, dI) cls (List.flatten ([] : List (List (ClassId × FieldType)))) s → va_S A s.heap H locs → lv_has ls 2 [] → W p l e ({ frames := 0, cells := 0, slots := 0, locals := 0 } : Room) s m ([.int p0, .int p1] : List Value).toArray below meth c H locs 0 0 Q (F0 m 19 ls [.int y0_19]) := by
    intro y0_19 H locs ls hrun hP hD hK hS hl 
    unfold fX11_isFailing_J19 at hrun
    obtain ⟨hz9, hrun⟩ := chk9 hrun
    have ho9 : y0_19 = o := Option.some.inj hrun
    have hP9 : va_P (dC, dI) cls (List.flatten ([] : List va_W)) H := by first | exact hP | (rw [← ho9]; exact hP)
    have hD9 : va_D A (List.flatten ([] : List va_W)) := by first | exact hD | (rw [← ho9]; exact hD)
    subst hQ
    exact W.zret (v := y0_19) hx hb hr (bz9 hz9) (fun t ht hW => ⟨⟨y0_19, (), rfl, (by rw [← ho9]), ⟨by rw [ht]; exact hP9, va_K.moved hW.alike hK, hD9⟩⟩, hS.F ht⟩) hS.2.2 dX11_isFailing_19
  have J18 : ∀ (H : Heap) (locs : List Loc) (ls : Array Slot), (fX11_isFailing_J18) = some o → va_P (dC, dI) cls (List.flatten ([] : List va_W)) H → va_D A (List.flatten ([] : List va_W)) → va_K (dC, dI) cls (List.flatten ([] : List (List (ClassId × FieldType)))) s → va_S A s.heap H locs → lv_has ls 2 [] → W p l e ({ frames := 0, cells := 0, slots := 0, locals := 0 } : Room) s m ([.int p0, .int p1] : List Value).toArray below meth c H locs 0 0 Q (F0 m 18 ls []) := by
    intro  H locs ls hrun hP hD hK hS hl 
    unfold fX11_isFailing_J18 at hrun
    refine lv_iconst (v := 0) hx hb dX11_isFailing_18 (by decide) ?_
    exact J19 0 _ _ _ hrun hP hD hK hS (lv_sub hl [] rfl)
  have J10 : ∀ (H : Heap) (locs : List Loc) (ls : Array Slot), (fX11_isFailing_J10 p1) = some o → va_P (dC, dI) cls (List.flatten ([] : List va_W)) H → va_D A (List.flatten ([] : List va_W)) → va_K (dC, dI) cls (List.flatten ([] : List (List (ClassId × FieldType)))) s → va_S A s.heap H locs → lv_has ls 2 [(1, .int p1)] → W p l e ({ frames := 0, cells := 0, slots := 0, locals := 0 } : Room) s m ([.int p0, .int p1] : List Value).toArray below meth c H locs 0 0 Q (F0 m 10 ls []) := by
    intro  H locs ls hrun hP hD hK hS hl 
    unfold fX11_isFailing_J10 at hrun
    refine lv_iload_n hx hb dX11_isFailing_10 rfl (lv_at hl 0 rfl) ?_
    rcases br9 hrun with ⟨hc1, hrun⟩ | ⟨hc1, hrun⟩
    · refine lv_if_ne (tgt := 18) hx hb dX11_isFailing_11 (by decide) (fun c => absurd hc1 c) (fun _ => ?_)
      refine lv_iconst (v := 1) hx hb dX11_isFailing_14 (by decide) ?_
      refine lv_goto (tgt := 19) hx hb dX11_isFailing_15 (by decide) ?_
      exact J19 1 _ _ _ hrun hP hD hK hS (lv_sub hl [] rfl)
    · refine lv_if_ne (tgt := 18) hx hb dX11_isFailing_11 (by decide) (fun _ => ?_) (fun c => absurd c hc1)
      exact J18 _ _ _ hrun hP hD hK hS (lv_sub hl [] rfl)
  rcases br9 hrun with ⟨hc2, hrun⟩ | ⟨hc2, hrun⟩
  · refine lv_icmp_eq (tgt := 10) hx hb dX11_isFailing_2 (by decide) (fun _ => ?_) (fun c => absurd hc2 c)
    exact J10 _ _ _ hrun hP hD hK hS (lv_sub hl [1] rfl)
  · refine lv_icmp_eq (tgt := 10) hx hb dX11_isFailing_2 (by decide) (fun c => absurd c hc2) (fun _ => ?_)
    refine lv_iload_n hx hb dX11_isFailing_5 rfl (lv_at hl 0 rfl) ?_
    refine lv_iconst (v := 5) hx hb dX11_isFailing_6 (by decide) ?_
    rcases br9 hrun with ⟨hc3, hrun⟩ | ⟨hc3, hrun⟩
    · refine lv_icmp_ne (tgt := 18) hx hb dX11_isFailing_7 (by decide) (fun c => absurd hc3 c) (fun _ => ?_)
      exact J10 _ _ _ hrun hP hD hK hS (lv_sub hl [1] rfl)
    · refine lv_icmp_ne (tgt := 18) hx hb dX11_isFailing_7 (by decide) (fun _ => ?_) (fun c => absurd c hc3)
      exact J18 _ _ _ hrun hP hD hK hS (lv_sub hl [] rfl)
def fX11_compute_J99 (y0_99 : Int32) : Option Int32 := some y0_99
def fX11_compute_J111 (y0_111 : Int32) : Option Int32 := some y0_111
def fX11_compute_J148 (y0_148 : Int32) : Option Int32 := some y0_148
def fX11_compute_J159 (y0_159 : Int32) : Option Int32 := some y0_159
def fX11_compute_J170 (y0_170 : Int32) : Option Int32 := some y0_170
def fX11_compute_J181 (y0_181 : Int32) : Option Int32 := some y0_181
def fX11_compute_J192 (y0_192 : Int32) : Option Int32 := some y0_192
def fX11_compute_J203 (y0_203 : Int32) : Option Int32 := some y0_203
def fX11_compute (p0 : Int32) (p1 : Int32) (p2 : Int32) : Option Int32 := (if p0 = 1 then some (p1 + p2) else (if p0 = 2 then some (p1 - p2) else (if p0 = 3 then some (p1 * p2) else (if p0 = 4 then (if p2 = 0 then (fX11_compute_J99 0) else (if ¬ p2 = 0 then (fX11_compute_J99 (p1 / p2)) else none)) else (if p0 = 5 then (if p2 = 0 then (fX11_compute_J111 0) else (if ¬ p2 = 0 then (fX11_compute_J111 (p1 - p1 / p2 * p2)) else none)) else (if p0 = 6 then some (p1 &&& p2) else (if p0 = 7 then some (p1 ||| p2) else (if p0 = 8 then some (p1 ^^^ p2) else (if p0 = 9 then some (p1 <<< ((p2 &&& 31) &&& 31)) else (if p0 = 10 then some (p1 >>> ((p2 &&& 31) &&& 31)) else (if p0 = 11 then (if p2 ≤ p1 then (fX11_compute_J148 0) else (fX11_compute_J148 1)) else (if p0 = 12 then (if p2 < p1 then (fX11_compute_J159 0) else (fX11_compute_J159 1)) else (if p0 = 13 then (if p1 ≤ p2 then (fX11_compute_J170 0) else (fX11_compute_J170 1)) else (if p0 = 14 then (if p1 < p2 then (fX11_compute_J181 0) else (fX11_compute_J181 1)) else (if p0 = 15 then (if p1 = p2 then (fX11_compute_J192 1) else (fX11_compute_J192 0)) else (if p1 = p2 then (fX11_compute_J203 0) else (fX11_compute_J203 1)))))))))))))))))
set_option maxHeartbeats 16000000 in
set_option maxRecDepth 100000 in
theorem kX11_compute {zs : ZS} (l : Launch) (dC : Nat → ClassId) (dI : Nat → Nat → Nat) (p0 : Int32) (p1 : Int32) (p2 : Int32) (sz : Nat) (o : Int32) (hrun : fX11_compute p0 p1 p2 = some o) : Met l yX11_compute (wz yX11_compute cX11_compute 3 (Option.some Jvm.ClassFile.FieldType.int)) ({ frames := 0, cells := 0, slots := 0, locals := 0 } : Room) (va_Pc [.int p0, .int p1, .int p2] (PRE zs dC dI (List.flatten ([] : List va_W)) (List.flatten ([] : List (List (ClassId × FieldType)))) sz)) (va_Qi (fun (r : Int32) (_ : Unit) => r = o) (fun _ t => POST dC dI (List.flatten ([] : List va_W)) (List.flatten ([] : List (List (ClassId × FieldType)))) (va_A (List.flatten ([] : List va_W)) sz) t) (va_A (List.flatten ([] : List va_W)) sz)) 0 0 (va_A (List.flatten ([] : List va_W)) sz) := by
  refine Met.ofW (cc := cX11_compute) (maxL := 3) (ret := (Option.some Jvm.ClassFile.FieldType.int)) (by decide) rfl ?_
  intro p e s m args below meth c s₁ B hml hv
  obtain ⟨rfl, hsz, hP, hK, hD0, hE⟩ := hv
  have hx := B.exec
  have hb := B.bytes
  have hr := B.returns
  have hts0 := atoms_spec (ws := wz yX11_compute cX11_compute 3 (Option.some Jvm.ClassFile.FieldType.int)) B.pre
  have hts : ∀ w ∈ gw, w.before _ s = true := fun w h => hts0 w (List.mem_cons_of_mem _ h)
  have hown : s.vm.findClass RX11 = some m.cls := findClass_of_methodNamed B.named
  have hlocks := B.notSynchronized
  subst hsz
  have hD := hD0.self (sz := s.heap.size)
  refine gQ9 ?_
  intro Q hQ
  generalize hAe : va_A (List.flatten ([] : List va_W)) s.heap.size = A at hD hE hQ
  have hA : ∀ q : Nat, s.heap.size ≤ q → A q := fun q h => by rw [← hAe]; exact Or.inr h
  have hS : va_S A s.heap s.heap [] := va_S.rf
  have hP : va_P (dC, dI) cls (List.flatten ([] : List va_W)) s.heap := hP
  have hl := lv_entry ([.int p0, .int p1, .int p2]) (n := 3) (Nat.le_of_ble_eq_true rfl)
  rw [lg_entry_eq]
  generalize (lg_sl ([.int p0, .int p1, .int p2]) ++ List.replicate (3 - (lg_sl ([.int p0, .int p1, .int p2])).length) Slot.unset).toArray = ls at hl ⊢
  have hl : lv_has ls 3 [(0, .int p0), (1, .int p1), (2, .int p2)] := hl
  obtain ⟨H, hHe⟩ : ∃ H, H = s.heap := ⟨_, rfl⟩
  obtain ⟨locs, hle⟩ : ∃ locs : List Loc, locs = [] := ⟨_, rfl⟩
  rw [← hHe] at hP
  have hS : va_S A s.heap H locs := by rw [hHe, hle]; exact hS
  show W p l e ({ frames := 0, cells := 0, slots := 0, locals := 0 } : Room) s m ([.int p0, .int p1, .int p2] : List Value).toArray below meth c s.heap [] 0 0 Q (F0 m 0 ls [])
  rw [← hle]
  refine wH9 hHe ?_
  unfold fX11_compute at hrun
  refine lv_iload_n hx hb dX11_compute_0 rfl (lv_at hl 0 rfl) ?_
  rcases br9 hrun with ⟨hc1, hrun⟩ | ⟨hc1, hrun⟩
  · refine lv_tableIn (off := 75) (tgt := 76) hx hb dX11_compute_1 (by rw [hc1]; decide) (by rw [hc1]; decide) (by rw [hc1]; rfl) (by decide) ?_
    refine lv_iload_n hx hb dX11_compute_76 rfl (lv_at hl 1 rfl) ?_
    refine lv_iload_n hx hb dX11_compute_77 rfl (lv_at hl 2 rfl) ?_
    refine lv_iadd hx hb dX11_compute_78 ?_
    have ho9 : (p1 + p2) = o := Option.some.inj hrun
    have hP9 : va_P (dC, dI) cls (List.flatten ([] : List va_W)) H := by first | exact hP | (rw [← ho9]; exact hP)
    have hD9 : va_D A (List.flatten ([] : List va_W)) := by first | exact hD | (rw [← ho9]; exact hD)
    subst hQ
    exact W.iret (v := (p1 + p2)) hx hb hr (fun t ht hW => ⟨⟨(p1 + p2), (), rfl, (by rw [← ho9]), ⟨by rw [ht]; exact hP9, va_K.moved hW.alike hK, hD9⟩⟩, hS.F ht⟩) hS.2.2 dX11_compute_79
  rcases br9 hrun with ⟨hc2, hrun⟩ | ⟨hc2, hrun⟩
  · refine lv_tableIn (off := 79) (tgt := 80) hx hb dX11_compute_1 (by rw [hc2]; decide) (by rw [hc2]; decide) (by rw [hc2]; rfl) (by decide) ?_
    refine lv_iload_n hx hb dX11_compute_80 rfl (lv_at hl 1 rfl) ?_
    refine lv_iload_n hx hb dX11_compute_81 rfl (lv_at hl 2 rfl) ?_
    refine lv_isub hx hb dX11_compute_82 ?_
    have ho9 : (p1 - p2) = o := Option.some.inj hrun
    have hP9 : va_P (dC, dI) cls (List.flatten ([] : List va_W)) H := by first | exact hP | (rw [← ho9]; exact hP)
    have hD9 : va_D A (List.flatten ([] : List va_W)) := by first | exact hD | (rw [← ho9]; exact hD)
    subst hQ
    exact W.iret (v := (p1 - p2)) hx hb hr (fun t ht hW => ⟨⟨(p1 - p2), (), rfl, (by rw [← ho9]), ⟨by rw [ht]; exact hP9, va_K.moved hW.alike hK, hD9⟩⟩, hS.F ht⟩) hS.2.2 dX11_compute_83
  rcases br9 hrun with ⟨hc3, hrun⟩ | ⟨hc3, hrun⟩
  · refine lv_tableIn (off := 83) (tgt := 84) hx hb dX11_compute_1 (by rw [hc3]; decide) (by rw [hc3]; decide) (by rw [hc3]; rfl) (by decide) ?_
    refine lv_iload_n hx hb dX11_compute_84 rfl (lv_at hl 1 rfl) ?_
    refine lv_iload_n hx hb dX11_compute_85 rfl (lv_at hl 2 rfl) ?_
    refine lv_imul hx hb dX11_compute_86 ?_
    have ho9 : (p1 * p2) = o := Option.some.inj hrun
    have hP9 : va_P (dC, dI) cls (List.flatten ([] : List va_W)) H := by first | exact hP | (rw [← ho9]; exact hP)
    have hD9 : va_D A (List.flatten ([] : List va_W)) := by first | exact hD | (rw [← ho9]; exact hD)
    subst hQ
    exact W.iret (v := (p1 * p2)) hx hb hr (fun t ht hW => ⟨⟨(p1 * p2), (), rfl, (by rw [← ho9]), ⟨by rw [ht]; exact hP9, va_K.moved hW.alike hK, hD9⟩⟩, hS.F ht⟩) hS.2.2 dX11_compute_87
  rcases br9 hrun with ⟨hc4, hrun⟩ | ⟨hc4, hrun⟩
  · refine lv_tableIn (off := 87) (tgt := 88) hx hb dX11_compute_1 (by rw [hc4]; decide) (by rw [hc4]; decide) (by rw [hc4]; rfl) (by decide) ?_
    refine lv_iload_n hx hb dX11_compute_88 rfl (lv_at hl 2 rfl) ?_
    have J99 : ∀ (y0_99 : Int32) (H : Heap) (locs : List Loc) (ls : Array Slot), (fX11_compute_J99 y0_99) = some o → va_P (dC, dI) cls (List.flatten ([] : List va_W)) H → va_D A (List.flatten ([] : List va_W)) → va_K (dC, dI) cls (List.flatten ([] : List (List (ClassId × FieldType)))) s → va_S A s.heap H locs → lv_has ls 3 [] → W p l e ({ frames := 0, cells := 0, slots := 0, locals := 0 } : Room) s m ([.int p0, .int p1, .int p2] : List Value).toArray below meth c H locs 0 0 Q (F0 m 99 ls [.int y0_99]) := by
      intro y0_99 H locs ls hrun hP hD hK hS hl 
      unfold fX11_compute_J99 at hrun
      have ho9 : y0_99 = o := Option.some.inj hrun
      have hP9 : va_P (dC, dI) cls (List.flatten ([] : List va_W)) H := by first | exact hP | (rw [← ho9]; exact hP)
      have hD9 : va_D A (List.flatten ([] : List va_W)) := by first | exact hD | (rw [← ho9]; exact hD)
      subst hQ
      exact W.iret (v := y0_99) hx hb hr (fun t ht hW => ⟨⟨y0_99, (), rfl, (by rw [← ho9]), ⟨by rw [ht]; exact hP9, va_K.moved hW.alike hK, hD9⟩⟩, hS.F ht⟩) hS.2.2 dX11_compute_99
    rcases br9 hrun with ⟨hc5, hrun⟩ | ⟨hc5, hrun⟩
    · refine lv_if_ne (tgt := 96) hx hb dX11_compute_89 (by decide) (fun c => absurd hc5 c) (fun _ => ?_)
      refine lv_iconst (v := 0) hx hb dX11_compute_92 (by decide) ?_
      refine lv_goto (tgt := 99) hx hb dX11_compute_93 (by decide) ?_
      exact J99 0 _ _ _ hrun hP hD hK hS (lv_sub hl [] rfl)
    · refine lv_if_ne (tgt := 96) hx hb dX11_compute_89 (by decide) (fun _ => ?_) (fun c => absurd c hc5)
      refine lv_iload_n hx hb dX11_compute_96 rfl (lv_at hl 1 rfl) ?_
      refine lv_iload_n hx hb dX11_compute_97 rfl (lv_at hl 2 rfl) ?_
      obtain ⟨hq6, hrun⟩ := chk9 hrun
      refine lv_idiv hx hb dX11_compute_98 hq6 ?_
      exact J99 (p1 / p2) _ _ _ hrun hP hD hK hS (lv_sub hl [] rfl)
  rcases br9 hrun with ⟨hc7, hrun⟩ | ⟨hc7, hrun⟩
  · refine lv_tableIn (off := 99) (tgt := 100) hx hb dX11_compute_1 (by rw [hc7]; decide) (by rw [hc7]; decide) (by rw [hc7]; rfl) (by decide) ?_
    refine lv_iload_n hx hb dX11_compute_100 rfl (lv_at hl 2 rfl) ?_
    have J111 : ∀ (y0_111 : Int32) (H : Heap) (locs : List Loc) (ls : Array Slot), (fX11_compute_J111 y0_111) = some o → va_P (dC, dI) cls (List.flatten ([] : List va_W)) H → va_D A (List.flatten ([] : List va_W)) → va_K (dC, dI) cls (List.flatten ([] : List (List (ClassId × FieldType)))) s → va_S A s.heap H locs → lv_has ls 3 [] → W p l e ({ frames := 0, cells := 0, slots := 0, locals := 0 } : Room) s m ([.int p0, .int p1, .int p2] : List Value).toArray below meth c H locs 0 0 Q (F0 m 111 ls [.int y0_111]) := by
      intro y0_111 H locs ls hrun hP hD hK hS hl 
      unfold fX11_compute_J111 at hrun
      have ho9 : y0_111 = o := Option.some.inj hrun
      have hP9 : va_P (dC, dI) cls (List.flatten ([] : List va_W)) H := by first | exact hP | (rw [← ho9]; exact hP)
      have hD9 : va_D A (List.flatten ([] : List va_W)) := by first | exact hD | (rw [← ho9]; exact hD)
      subst hQ
      exact W.iret (v := y0_111) hx hb hr (fun t ht hW => ⟨⟨y0_111, (), rfl, (by rw [← ho9]), ⟨by rw [ht]; exact hP9, va_K.moved hW.alike hK, hD9⟩⟩, hS.F ht⟩) hS.2.2 dX11_compute_111
    rcases br9 hrun with ⟨hc8, hrun⟩ | ⟨hc8, hrun⟩
    · refine lv_if_ne (tgt := 108) hx hb dX11_compute_101 (by decide) (fun c => absurd hc8 c) (fun _ => ?_)
      refine lv_iconst (v := 0) hx hb dX11_compute_104 (by decide) ?_
      refine lv_goto (tgt := 111) hx hb dX11_compute_105 (by decide) ?_
      exact J111 0 _ _ _ hrun hP hD hK hS (lv_sub hl [] rfl)
    · refine lv_if_ne (tgt := 108) hx hb dX11_compute_101 (by decide) (fun _ => ?_) (fun c => absurd c hc8)
      refine lv_iload_n hx hb dX11_compute_108 rfl (lv_at hl 1 rfl) ?_
      refine lv_iload_n hx hb dX11_compute_109 rfl (lv_at hl 2 rfl) ?_
      obtain ⟨hq9, hrun⟩ := chk9 hrun
      refine lv_irem hx hb dX11_compute_110 hq9 ?_
      exact J111 (p1 - p1 / p2 * p2) _ _ _ hrun hP hD hK hS (lv_sub hl [] rfl)
  rcases br9 hrun with ⟨hc10, hrun⟩ | ⟨hc10, hrun⟩
  · refine lv_tableIn (off := 111) (tgt := 112) hx hb dX11_compute_1 (by rw [hc10]; decide) (by rw [hc10]; decide) (by rw [hc10]; rfl) (by decide) ?_
    refine lv_iload_n hx hb dX11_compute_112 rfl (lv_at hl 1 rfl) ?_
    refine lv_iload_n hx hb dX11_compute_113 rfl (lv_at hl 2 rfl) ?_
    refine lv_iand hx hb dX11_compute_114 ?_
    have ho9 : (p1 &&& p2) = o := Option.some.inj hrun
    have hP9 : va_P (dC, dI) cls (List.flatten ([] : List va_W)) H := by first | exact hP | (rw [← ho9]; exact hP)
    have hD9 : va_D A (List.flatten ([] : List va_W)) := by first | exact hD | (rw [← ho9]; exact hD)
    subst hQ
    exact W.iret (v := (p1 &&& p2)) hx hb hr (fun t ht hW => ⟨⟨(p1 &&& p2), (), rfl, (by rw [← ho9]), ⟨by rw [ht]; exact hP9, va_K.moved hW.alike hK, hD9⟩⟩, hS.F ht⟩) hS.2.2 dX11_compute_115
  rcases br9 hrun with ⟨hc11, hrun⟩ | ⟨hc11, hrun⟩
  · refine lv_tableIn (off := 115) (tgt := 116) hx hb dX11_compute_1 (by rw [hc11]; decide) (by rw [hc11]; decide) (by rw [hc11]; rfl) (by decide) ?_
    refine lv_iload_n hx hb dX11_compute_116 rfl (lv_at hl 1 rfl) ?_
    refine lv_iload_n hx hb dX11_compute_117 rfl (lv_at hl 2 rfl) ?_
    refine lv_ior hx hb dX11_compute_118 ?_
    have ho9 : (p1 ||| p2) = o := Option.some.inj hrun
    have hP9 : va_P (dC, dI) cls (List.flatten ([] : List va_W)) H := by first | exact hP | (rw [← ho9]; exact hP)
    have hD9 : va_D A (List.flatten ([] : List va_W)) := by first | exact hD | (rw [← ho9]; exact hD)
    subst hQ
    exact W.iret (v := (p1 ||| p2)) hx hb hr (fun t ht hW => ⟨⟨(p1 ||| p2), (), rfl, (by rw [← ho9]), ⟨by rw [ht]; exact hP9, va_K.moved hW.alike hK, hD9⟩⟩, hS.F ht⟩) hS.2.2 dX11_compute_119
  rcases br9 hrun with ⟨hc12, hrun⟩ | ⟨hc12, hrun⟩
  · refine lv_tableIn (off := 119) (tgt := 120) hx hb dX11_compute_1 (by rw [hc12]; decide) (by rw [hc12]; decide) (by rw [hc12]; rfl) (by decide) ?_
    refine lv_iload_n hx hb dX11_compute_120 rfl (lv_at hl 1 rfl) ?_
    refine lv_iload_n hx hb dX11_compute_121 rfl (lv_at hl 2 rfl) ?_
    refine lv_ixor hx hb dX11_compute_122 ?_
    have ho9 : (p1 ^^^ p2) = o := Option.some.inj hrun
    have hP9 : va_P (dC, dI) cls (List.flatten ([] : List va_W)) H := by first | exact hP | (rw [← ho9]; exact hP)
    have hD9 : va_D A (List.flatten ([] : List va_W)) := by first | exact hD | (rw [← ho9]; exact hD)
    subst hQ
    exact W.iret (v := (p1 ^^^ p2)) hx hb hr (fun t ht hW => ⟨⟨(p1 ^^^ p2), (), rfl, (by rw [← ho9]), ⟨by rw [ht]; exact hP9, va_K.moved hW.alike hK, hD9⟩⟩, hS.F ht⟩) hS.2.2 dX11_compute_123
  rcases br9 hrun with ⟨hc13, hrun⟩ | ⟨hc13, hrun⟩
  · refine lv_tableIn (off := 123) (tgt := 124) hx hb dX11_compute_1 (by rw [hc13]; decide) (by rw [hc13]; decide) (by rw [hc13]; rfl) (by decide) ?_
    refine lv_iload_n hx hb dX11_compute_124 rfl (lv_at hl 1 rfl) ?_
    refine lv_iload_n hx hb dX11_compute_125 rfl (lv_at hl 2 rfl) ?_
    refine lv_bipush (v := 31) hx hb dX11_compute_126 (by decide) ?_
    refine lv_iand hx hb dX11_compute_128 ?_
    refine lv_ishl hx hb dX11_compute_129 ?_
    have ho9 : (p1 <<< ((p2 &&& 31) &&& 31)) = o := Option.some.inj hrun
    have hP9 : va_P (dC, dI) cls (List.flatten ([] : List va_W)) H := by first | exact hP | (rw [← ho9]; exact hP)
    have hD9 : va_D A (List.flatten ([] : List va_W)) := by first | exact hD | (rw [← ho9]; exact hD)
    subst hQ
    exact W.iret (v := (p1 <<< ((p2 &&& 31) &&& 31))) hx hb hr (fun t ht hW => ⟨⟨(p1 <<< ((p2 &&& 31) &&& 31)), (), rfl, (by rw [← ho9]), ⟨by rw [ht]; exact hP9, va_K.moved hW.alike hK, hD9⟩⟩, hS.F ht⟩) hS.2.2 dX11_compute_130
  rcases br9 hrun with ⟨hc14, hrun⟩ | ⟨hc14, hrun⟩
  · refine lv_tableIn (off := 130) (tgt := 131) hx hb dX11_compute_1 (by rw [hc14]; decide) (by rw [hc14]; decide) (by rw [hc14]; rfl) (by decide) ?_
    refine lv_iload_n hx hb dX11_compute_131 rfl (lv_at hl 1 rfl) ?_
    refine lv_iload_n hx hb dX11_compute_132 rfl (lv_at hl 2 rfl) ?_
    refine lv_bipush (v := 31) hx hb dX11_compute_133 (by decide) ?_
    refine lv_iand hx hb dX11_compute_135 ?_
    refine lv_ishr hx hb dX11_compute_136 ?_
    have ho9 : (p1 >>> ((p2 &&& 31) &&& 31)) = o := Option.some.inj hrun
    have hP9 : va_P (dC, dI) cls (List.flatten ([] : List va_W)) H := by first | exact hP | (rw [← ho9]; exact hP)
    have hD9 : va_D A (List.flatten ([] : List va_W)) := by first | exact hD | (rw [← ho9]; exact hD)
    subst hQ
    exact W.iret (v := (p1 >>> ((p2 &&& 31) &&& 31))) hx hb hr (fun t ht hW => ⟨⟨(p1 >>> ((p2 &&& 31) &&& 31)), (), rfl, (by rw [← ho9]), ⟨by rw [ht]; exact hP9, va_K.moved hW.alike hK, hD9⟩⟩, hS.F ht⟩) hS.2.2 dX11_compute_137
  rcases br9 hrun with ⟨hc15, hrun⟩ | ⟨hc15, hrun⟩
  · refine lv_tableIn (off := 137) (tgt := 138) hx hb dX11_compute_1 (by rw [hc15]; decide) (by rw [hc15]; decide) (by rw [hc15]; rfl) (by decide) ?_
    refine lv_iload_n hx hb dX11_compute_138 rfl (lv_at hl 1 rfl) ?_
    refine lv_iload_n hx hb dX11_compute_139 rfl (lv_at hl 2 rfl) ?_
    have J148 : ∀ (y0_148 : Int32) (H : Heap) (locs : List Loc) (ls : Array Slot), (fX11_compute_J148 y0_148) = some o → va_P (dC, dI) cls (List.flatten ([] : List va_W)) H → va_D A (List.flatten ([] : List va_W)) → va_K (dC, dI) cls (List.flatten ([] : List (List (ClassId × FieldType)))) s → va_S A s.heap H locs → lv_has ls 3 [] → W p l e ({ frames := 0, cells := 0, slots := 0, locals := 0 } : Room) s m ([.int p0, .int p1, .int p2] : List Value).toArray below meth c H locs 0 0 Q (F0 m 148 ls [.int y0_148]) := by
      intro y0_148 H locs ls hrun hP hD hK hS hl 
      unfold fX11_compute_J148 at hrun
      have ho9 : y0_148 = o := Option.some.inj hrun
      have hP9 : va_P (dC, dI) cls (List.flatten ([] : List va_W)) H := by first | exact hP | (rw [← ho9]; exact hP)
      have hD9 : va_D A (List.flatten ([] : List va_W)) := by first | exact hD | (rw [← ho9]; exact hD)
      subst hQ
      exact W.iret (v := y0_148) hx hb hr (fun t ht hW => ⟨⟨y0_148, (), rfl, (by rw [← ho9]), ⟨by rw [ht]; exact hP9, va_K.moved hW.alike hK, hD9⟩⟩, hS.F ht⟩) hS.2.2 dX11_compute_148
    rcases br9 hrun with ⟨hc16, hrun⟩ | ⟨hc16, hrun⟩
    · refine lv_icmp_ge (tgt := 147) hx hb dX11_compute_140 (by decide) (fun _ => ?_) (fun c => absurd hc16 c)
      refine lv_iconst (v := 0) hx hb dX11_compute_147 (by decide) ?_
      exact J148 0 _ _ _ hrun hP hD hK hS (lv_sub hl [] rfl)
    · refine lv_icmp_ge (tgt := 147) hx hb dX11_compute_140 (by decide) (fun c => absurd c hc16) (fun _ => ?_)
      refine lv_iconst (v := 1) hx hb dX11_compute_143 (by decide) ?_
      refine lv_goto (tgt := 148) hx hb dX11_compute_144 (by decide) ?_
      exact J148 1 _ _ _ hrun hP hD hK hS (lv_sub hl [] rfl)
  rcases br9 hrun with ⟨hc17, hrun⟩ | ⟨hc17, hrun⟩
  · refine lv_tableIn (off := 148) (tgt := 149) hx hb dX11_compute_1 (by rw [hc17]; decide) (by rw [hc17]; decide) (by rw [hc17]; rfl) (by decide) ?_
    refine lv_iload_n hx hb dX11_compute_149 rfl (lv_at hl 1 rfl) ?_
    refine lv_iload_n hx hb dX11_compute_150 rfl (lv_at hl 2 rfl) ?_
    have J159 : ∀ (y0_159 : Int32) (H : Heap) (locs : List Loc) (ls : Array Slot), (fX11_compute_J159 y0_159) = some o → va_P (dC, dI) cls (List.flatten ([] : List va_W)) H → va_D A (List.flatten ([] : List va_W)) → va_K (dC, dI) cls (List.flatten ([] : List (List (ClassId × FieldType)))) s → va_S A s.heap H locs → lv_has ls 3 [] → W p l e ({ frames := 0, cells := 0, slots := 0, locals := 0 } : Room) s m ([.int p0, .int p1, .int p2] : List Value).toArray below meth c H locs 0 0 Q (F0 m 159 ls [.int y0_159]) := by
      intro y0_159 H locs ls hrun hP hD hK hS hl 
      unfold fX11_compute_J159 at hrun
      have ho9 : y0_159 = o := Option.some.inj hrun
      have hP9 : va_P (dC, dI) cls (List.flatten ([] : List va_W)) H := by first | exact hP | (rw [← ho9]; exact hP)
      have hD9 : va_D A (List.flatten ([] : List va_W)) := by first | exact hD | (rw [← ho9]; exact hD)
      subst hQ
      exact W.iret (v := y0_159) hx hb hr (fun t ht hW => ⟨⟨y0_159, (), rfl, (by rw [← ho9]), ⟨by rw [ht]; exact hP9, va_K.moved hW.alike hK, hD9⟩⟩, hS.F ht⟩) hS.2.2 dX11_compute_159
    rcases br9 hrun with ⟨hc18, hrun⟩ | ⟨hc18, hrun⟩
    · refine lv_icmp_gt (tgt := 158) hx hb dX11_compute_151 (by decide) (fun _ => ?_) (fun c => absurd hc18 c)
      refine lv_iconst (v := 0) hx hb dX11_compute_158 (by decide) ?_
      exact J159 0 _ _ _ hrun hP hD hK hS (lv_sub hl [] rfl)
    · refine lv_icmp_gt (tgt := 158) hx hb dX11_compute_151 (by decide) (fun c => absurd c hc18) (fun _ => ?_)
      refine lv_iconst (v := 1) hx hb dX11_compute_154 (by decide) ?_
      refine lv_goto (tgt := 159) hx hb dX11_compute_155 (by decide) ?_
      exact J159 1 _ _ _ hrun hP hD hK hS (lv_sub hl [] rfl)
  rcases br9 hrun with ⟨hc19, hrun⟩ | ⟨hc19, hrun⟩
  · refine lv_tableIn (off := 159) (tgt := 160) hx hb dX11_compute_1 (by rw [hc19]; decide) (by rw [hc19]; decide) (by rw [hc19]; rfl) (by decide) ?_
    refine lv_iload_n hx hb dX11_compute_160 rfl (lv_at hl 1 rfl) ?_
    refine lv_iload_n hx hb dX11_compute_161 rfl (lv_at hl 2 rfl) ?_
    have J170 : ∀ (y0_170 : Int32) (H : Heap) (locs : List Loc) (ls : Array Slot), (fX11_compute_J170 y0_170) = some o → va_P (dC, dI) cls (List.flatten ([] : List va_W)) H → va_D A (List.flatten ([] : List va_W)) → va_K (dC, dI) cls (List.flatten ([] : List (List (ClassId × FieldType)))) s → va_S A s.heap H locs → lv_has ls 3 [] → W p l e ({ frames := 0, cells := 0, slots := 0, locals := 0 } : Room) s m ([.int p0, .int p1, .int p2] : List Value).toArray below meth c H locs 0 0 Q (F0 m 170 ls [.int y0_170]) := by
      intro y0_170 H locs ls hrun hP hD hK hS hl 
      unfold fX11_compute_J170 at hrun
      have ho9 : y0_170 = o := Option.some.inj hrun
      have hP9 : va_P (dC, dI) cls (List.flatten ([] : List va_W)) H := by first | exact hP | (rw [← ho9]; exact hP)
      have hD9 : va_D A (List.flatten ([] : List va_W)) := by first | exact hD | (rw [← ho9]; exact hD)
      subst hQ
      exact W.iret (v := y0_170) hx hb hr (fun t ht hW => ⟨⟨y0_170, (), rfl, (by rw [← ho9]), ⟨by rw [ht]; exact hP9, va_K.moved hW.alike hK, hD9⟩⟩, hS.F ht⟩) hS.2.2 dX11_compute_170
    rcases br9 hrun with ⟨hc20, hrun⟩ | ⟨hc20, hrun⟩
    · refine lv_icmp_le (tgt := 169) hx hb dX11_compute_162 (by decide) (fun _ => ?_) (fun c => absurd hc20 c)
      refine lv_iconst (v := 0) hx hb dX11_compute_169 (by decide) ?_
      exact J170 0 _ _ _ hrun hP hD hK hS (lv_sub hl [] rfl)
    · refine lv_icmp_le (tgt := 169) hx hb dX11_compute_162 (by decide) (fun c => absurd c hc20) (fun _ => ?_)
      refine lv_iconst (v := 1) hx hb dX11_compute_165 (by decide) ?_
      refine lv_goto (tgt := 170) hx hb dX11_compute_166 (by decide) ?_
      exact J170 1 _ _ _ hrun hP hD hK hS (lv_sub hl [] rfl)
  rcases br9 hrun with ⟨hc21, hrun⟩ | ⟨hc21, hrun⟩
  · refine lv_tableIn (off := 170) (tgt := 171) hx hb dX11_compute_1 (by rw [hc21]; decide) (by rw [hc21]; decide) (by rw [hc21]; rfl) (by decide) ?_
    refine lv_iload_n hx hb dX11_compute_171 rfl (lv_at hl 1 rfl) ?_
    refine lv_iload_n hx hb dX11_compute_172 rfl (lv_at hl 2 rfl) ?_
    have J181 : ∀ (y0_181 : Int32) (H : Heap) (locs : List Loc) (ls : Array Slot), (fX11_compute_J181 y0_181) = some o → va_P (dC, dI) cls (List.flatten ([] : List va_W)) H → va_D A (List.flatten ([] : List va_W)) → va_K (dC, dI) cls (List.flatten ([] : List (List (ClassId × FieldType)))) s → va_S A s.heap H locs → lv_has ls 3 [] → W p l e ({ frames := 0, cells := 0, slots := 0, locals := 0 } : Room) s m ([.int p0, .int p1, .int p2] : List Value).toArray below meth c H locs 0 0 Q (F0 m 181 ls [.int y0_181]) := by
      intro y0_181 H locs ls hrun hP hD hK hS hl 
      unfold fX11_compute_J181 at hrun
      have ho9 : y0_181 = o := Option.some.inj hrun
      have hP9 : va_P (dC, dI) cls (List.flatten ([] : List va_W)) H := by first | exact hP | (rw [← ho9]; exact hP)
      have hD9 : va_D A (List.flatten ([] : List va_W)) := by first | exact hD | (rw [← ho9]; exact hD)
      subst hQ
      exact W.iret (v := y0_181) hx hb hr (fun t ht hW => ⟨⟨y0_181, (), rfl, (by rw [← ho9]), ⟨by rw [ht]; exact hP9, va_K.moved hW.alike hK, hD9⟩⟩, hS.F ht⟩) hS.2.2 dX11_compute_181
    rcases br9 hrun with ⟨hc22, hrun⟩ | ⟨hc22, hrun⟩
    · refine lv_icmp_lt (tgt := 180) hx hb dX11_compute_173 (by decide) (fun _ => ?_) (fun c => absurd hc22 c)
      refine lv_iconst (v := 0) hx hb dX11_compute_180 (by decide) ?_
      exact J181 0 _ _ _ hrun hP hD hK hS (lv_sub hl [] rfl)
    · refine lv_icmp_lt (tgt := 180) hx hb dX11_compute_173 (by decide) (fun c => absurd c hc22) (fun _ => ?_)
      refine lv_iconst (v := 1) hx hb dX11_compute_176 (by decide) ?_
      refine lv_goto (tgt := 181) hx hb dX11_compute_177 (by decide) ?_
      exact J181 1 _ _ _ hrun hP hD hK hS (lv_sub hl [] rfl)
  rcases br9 hrun with ⟨hc23, hrun⟩ | ⟨hc23, hrun⟩
  · refine lv_tableIn (off := 181) (tgt := 182) hx hb dX11_compute_1 (by rw [hc23]; decide) (by rw [hc23]; decide) (by rw [hc23]; rfl) (by decide) ?_
    refine lv_iload_n hx hb dX11_compute_182 rfl (lv_at hl 1 rfl) ?_
    refine lv_iload_n hx hb dX11_compute_183 rfl (lv_at hl 2 rfl) ?_
    have J192 : ∀ (y0_192 : Int32) (H : Heap) (locs : List Loc) (ls : Array Slot), (fX11_compute_J192 y0_192) = some o → va_P (dC, dI) cls (List.flatten ([] : List va_W)) H → va_D A (List.flatten ([] : List va_W)) → va_K (dC, dI) cls (List.flatten ([] : List (List (ClassId × FieldType)))) s → va_S A s.heap H locs → lv_has ls 3 [] → W p l e ({ frames := 0, cells := 0, slots := 0, locals := 0 } : Room) s m ([.int p0, .int p1, .int p2] : List Value).toArray below meth c H locs 0 0 Q (F0 m 192 ls [.int y0_192]) := by
      intro y0_192 H locs ls hrun hP hD hK hS hl 
      unfold fX11_compute_J192 at hrun
      have ho9 : y0_192 = o := Option.some.inj hrun
      have hP9 : va_P (dC, dI) cls (List.flatten ([] : List va_W)) H := by first | exact hP | (rw [← ho9]; exact hP)
      have hD9 : va_D A (List.flatten ([] : List va_W)) := by first | exact hD | (rw [← ho9]; exact hD)
      subst hQ
      exact W.iret (v := y0_192) hx hb hr (fun t ht hW => ⟨⟨y0_192, (), rfl, (by rw [← ho9]), ⟨by rw [ht]; exact hP9, va_K.moved hW.alike hK, hD9⟩⟩, hS.F ht⟩) hS.2.2 dX11_compute_192
    rcases br9 hrun with ⟨hc24, hrun⟩ | ⟨hc24, hrun⟩
    · refine lv_icmp_ne (tgt := 191) hx hb dX11_compute_184 (by decide) (fun c => absurd hc24 c) (fun _ => ?_)
      refine lv_iconst (v := 1) hx hb dX11_compute_187 (by decide) ?_
      refine lv_goto (tgt := 192) hx hb dX11_compute_188 (by decide) ?_
      exact J192 1 _ _ _ hrun hP hD hK hS (lv_sub hl [] rfl)
    · refine lv_icmp_ne (tgt := 191) hx hb dX11_compute_184 (by decide) (fun _ => ?_) (fun c => absurd c hc24)
      refine lv_iconst (v := 0) hx hb dX11_compute_191 (by decide) ?_
      exact J192 0 _ _ _ hrun hP hD hK hS (lv_sub hl [] rfl)
  refine lv_tableOut (tgt := 193) hx hb dX11_compute_1 (by have g0 := lv_neT hc1 (show Int32.toInt 1 = 1 by decide); have g1 := lv_neT hc2 (show Int32.toInt 2 = 2 by decide); have g2 := lv_neT hc3 (show Int32.toInt 3 = 3 by decide); have g3 := lv_neT hc4 (show Int32.toInt 4 = 4 by decide); have g4 := lv_neT hc7 (show Int32.toInt 5 = 5 by decide); have g5 := lv_neT hc10 (show Int32.toInt 6 = 6 by decide); have g6 := lv_neT hc11 (show Int32.toInt 7 = 7 by decide); have g7 := lv_neT hc12 (show Int32.toInt 8 = 8 by decide); have g8 := lv_neT hc13 (show Int32.toInt 9 = 9 by decide); have g9 := lv_neT hc14 (show Int32.toInt 10 = 10 by decide); have g10 := lv_neT hc15 (show Int32.toInt 11 = 11 by decide); have g11 := lv_neT hc17 (show Int32.toInt 12 = 12 by decide); have g12 := lv_neT hc19 (show Int32.toInt 13 = 13 by decide); have g13 := lv_neT hc21 (show Int32.toInt 14 = 14 by decide); have g14 := lv_neT hc23 (show Int32.toInt 15 = 15 by decide); omega) (by decide) ?_
  refine lv_iload_n hx hb dX11_compute_193 rfl (lv_at hl 1 rfl) ?_
  refine lv_iload_n hx hb dX11_compute_194 rfl (lv_at hl 2 rfl) ?_
  have J203 : ∀ (y0_203 : Int32) (H : Heap) (locs : List Loc) (ls : Array Slot), (fX11_compute_J203 y0_203) = some o → va_P (dC, dI) cls (List.flatten ([] : List va_W)) H → va_D A (List.flatten ([] : List va_W)) → va_K (dC, dI) cls (List.flatten ([] : List (List (ClassId × FieldType)))) s → va_S A s.heap H locs → lv_has ls 3 [] → W p l e ({ frames := 0, cells := 0, slots := 0, locals := 0 } : Room) s m ([.int p0, .int p1, .int p2] : List Value).toArray below meth c H locs 0 0 Q (F0 m 203 ls [.int y0_203]) := by
    intro y0_203 H locs ls hrun hP hD hK hS hl 
    unfold fX11_compute_J203 at hrun
    have ho9 : y0_203 = o := Option.some.inj hrun
    have hP9 : va_P (dC, dI) cls (List.flatten ([] : List va_W)) H := by first | exact hP | (rw [← ho9]; exact hP)
    have hD9 : va_D A (List.flatten ([] : List va_W)) := by first | exact hD | (rw [← ho9]; exact hD)
    subst hQ
    exact W.iret (v := y0_203) hx hb hr (fun t ht hW => ⟨⟨y0_203, (), rfl, (by rw [← ho9]), ⟨by rw [ht]; exact hP9, va_K.moved hW.alike hK, hD9⟩⟩, hS.F ht⟩) hS.2.2 dX11_compute_203
  rcases br9 hrun with ⟨hc25, hrun⟩ | ⟨hc25, hrun⟩
  · refine lv_icmp_eq (tgt := 202) hx hb dX11_compute_195 (by decide) (fun _ => ?_) (fun c => absurd hc25 c)
    refine lv_iconst (v := 0) hx hb dX11_compute_202 (by decide) ?_
    exact J203 0 _ _ _ hrun hP hD hK hS (lv_sub hl [] rfl)
  · refine lv_icmp_eq (tgt := 202) hx hb dX11_compute_195 (by decide) (fun c => absurd c hc25) (fun _ => ?_)
    refine lv_iconst (v := 1) hx hb dX11_compute_198 (by decide) ?_
    refine lv_goto (tgt := 203) hx hb dX11_compute_199 (by decide) ?_
    exact J203 1 _ _ _ hrun hP hD hK hS (lv_sub hl [] rfl)
def fX5_learnStep_J124 (p0w : ST) (p1w : ST) (p2 : Int32) : Option (Int32 × ST) := ((fX5_learn p0w (p1w 3 (nn p2)) 2 0).bind fun (o_16 : Int32 × ST) => (if (o_16.1) = 0 ∨ (o_16.1) = 1 then some ((o_16.1), (o_16.2)) else none))
def fX5_learnStep_J153 (p0w : ST) : Option (Int32 × ST) := some (0, p0w)
def fX5_learnStep_J95 (p0w : ST) (p1w : ST) (p2 : Int32) (y0_95 : Int32) : Option (Int32 × ST) := (if ixb (p1w 4 (nn p2)) 250 = true then (if (p0w 4 (nn (p1w 4 (nn p2)))) = 2 then (fX5_learnStep_J124 p0w p1w p2) else (if ixb (p1w 5 (nn p2)) 250 = true then (if (p0w 4 (nn (p1w 5 (nn p2)))) = 2 then (fX5_learnStep_J124 p0w p1w p2) else (if y0_95 = 0 then (if ixb (p1w 4 (nn p2)) 250 = true then (if (p0w 4 (nn (p1w 4 (nn p2)))) = 0 then (fX5_learnStep_J153 p0w) else (if ixb (p1w 5 (nn p2)) 250 = true then (if (p0w 4 (nn (p1w 5 (nn p2)))) = 0 then (fX5_learnStep_J153 p0w) else (if ixb (p1w 4 (nn p2)) 250 = true then (if ixb (p1w 5 (nn p2)) 250 = true then ((fX11_compute (p1w 2 (nn p2)) (p0w 5 (nn (p1w 4 (nn p2)))) (p0w 5 (nn (p1w 5 (nn p2))))).bind fun (o_28 : Int32) => ((fX5_learn p0w (p1w 3 (nn p2)) 1 o_28).bind fun (o_30 : Int32 × ST) => (if (o_30.1) = 0 ∨ (o_30.1) = 1 then some ((o_30.1), (o_30.2)) else none))) else none) else none)) else none)) else none) else (fX5_learnStep_J124 p0w p1w p2))) else none)) else none)
def fX5_learnStep_J94 (p0w : ST) (p1w : ST) (p2 : Int32) : Option (Int32 × ST) := (fX5_learnStep_J95 p0w p1w p2 0)
def fX5_learnStep (p0w : ST) (p1n : Nat → Nat) (p1w : ST) (p2 : Int32) : Option (Int32 × ST) := (if ixb p2 (p1n 2) = true then (if ixb p2 (p1n 3) = true then (if (p1w 2 (nn p2)) = 0 then (if ixb p2 (p1n 4) = true then ((fX5_learn p0w (p1w 3 (nn p2)) 1 (p1w 4 (nn p2))).bind fun (o_5 : Int32 × ST) => (if (o_5.1) = 0 ∨ (o_5.1) = 1 then some ((o_5.1), (o_5.2)) else none)) else none) else ((fX11_isOperator (p1w 2 (nn p2))).bind fun (o_7 : Int32) => (if o_7 = 0 then ((fX5_learn p0w (p1w 3 (nn p2)) 2 0).bind fun (o_10 : Int32 × ST) => (if (o_10.1) = 0 ∨ (o_10.1) = 1 then some ((o_10.1), (o_10.2)) else none)) else (if ixb p2 (p1n 4) = true then (if ixb p2 (p1n 5) = true then (if ixb (p1w 5 (nn p2)) 250 = true then (if (p0w 4 (nn (p1w 5 (nn p2)))) = 1 then (if ixb (p1w 5 (nn p2)) 250 = true then ((fX11_isFailing (p1w 2 (nn p2)) (p0w 5 (nn (p1w 5 (nn p2))))).bind fun (o_34 : Int32) => (if o_34 = 0 then (fX5_learnStep_J94 p0w p1w p2) else (fX5_learnStep_J95 p0w p1w p2 1))) else none) else (fX5_learnStep_J94 p0w p1w p2)) else none) else none) else none)))) else none) else none)
set_option maxHeartbeats 16000000 in
set_option maxRecDepth 100000 in
theorem kX5_learnStep {zs : ZS} (l : Launch) (dC : Nat → ClassId) (dI : Nat → Nat → Nat) (p0a : Nat → Nat) (p0k : Nat → ClassId) (p0w : ST) (p0l : SL) (p1a : Nat → Nat) (p1k : Nat → ClassId) (p1n : Nat → Nat) (p1w : ST) (p2 : Int32) (sz : Nat) (o : Int32 × ST) (hrun : fX5_learnStep p0w p1n p1w p2 = some o) : Met l yX5_learnStep (wz yX5_learnStep cX5_learnStep 8 (Option.some Jvm.ClassFile.FieldType.boolean)) ({ frames := 1, cells := 0, slots := 0, locals := 23 } : Room) (va_Pc [.ref (p0a 0), .ref (p1a 0), .int p2] (PRE zs dC dI (List.flatten ([(oX5 (p0a 0) p0a p0k p0w p0l), (oX9 (p1a 0) p1a p1k p1n p1w)] : List va_W)) (List.flatten ([(tX5 p0k), (tX9 p1k)] : List (List (ClassId × FieldType)))) sz)) (va_Qi (fun (r : Int32) (_ : Unit) => r = (o.1)) (fun _ t => POST dC dI (List.flatten ([(oX5 (p0a 0) p0a p0k (o.2) p0l), (oX9 (p1a 0) p1a p1k p1n p1w)] : List va_W)) (List.flatten ([(tX5 p0k), (tX9 p1k)] : List (List (ClassId × FieldType)))) (va_A (List.flatten ([(oX5 (p0a 0) p0a p0k p0w p0l), (oX9 (p1a 0) p1a p1k p1n p1w)] : List va_W)) sz) t) (va_A (List.flatten ([(oX5 (p0a 0) p0a p0k p0w p0l), (oX9 (p1a 0) p1a p1k p1n p1w)] : List va_W)) sz)) 0 0 (va_A (List.flatten ([(oX5 (p0a 0) p0a p0k p0w p0l), (oX9 (p1a 0) p1a p1k p1n p1w)] : List va_W)) sz) := by
  refine Met.ofW (cc := cX5_learnStep) (maxL := 8) (ret := (Option.some Jvm.ClassFile.FieldType.boolean)) (by decide) rfl ?_
  intro p e s m args below meth c s₁ B hml hv
  obtain ⟨rfl, hsz, hP, hK, hD0, hE⟩ := hv
  have hx := B.exec
  have hb := B.bytes
  have hr := B.returns
  have hts0 := atoms_spec (ws := wz yX5_learnStep cX5_learnStep 8 (Option.some Jvm.ClassFile.FieldType.boolean)) B.pre
  have hts : ∀ w ∈ gw, w.before _ s = true := fun w h => hts0 w (List.mem_cons_of_mem _ h)
  have hown : s.vm.findClass RX5 = some m.cls := findClass_of_methodNamed B.named
  have hlocks := B.notSynchronized
  subst hsz
  have hD := hD0.self (sz := s.heap.size)
  refine gQ9 ?_
  intro Q hQ
  generalize hAe : va_A (List.flatten ([(oX5 (p0a 0) p0a p0k p0w p0l), (oX9 (p1a 0) p1a p1k p1n p1w)] : List va_W)) s.heap.size = A at hD hE hQ
  have hA : ∀ q : Nat, s.heap.size ≤ q → A q := fun q h => by rw [← hAe]; exact Or.inr h
  have hS : va_S A s.heap s.heap [] := va_S.rf
  have hP : va_P (dC, dI) cls (List.flatten ([(oX5 (p0a 0) p0a p0k p0w p0l), (oX9 (p1a 0) p1a p1k p1n p1w)] : List va_W)) s.heap := hP
  have hl := lv_entry ([.ref (p0a 0), .ref (p1a 0), .int p2]) (n := 8) (Nat.le_of_ble_eq_true rfl)
  rw [lg_entry_eq]
  generalize (lg_sl ([.ref (p0a 0), .ref (p1a 0), .int p2]) ++ List.replicate (8 - (lg_sl ([.ref (p0a 0), .ref (p1a 0), .int p2])).length) Slot.unset).toArray = ls at hl ⊢
  have hl : lv_has ls 8 [(0, .ref (p0a 0)), (1, .ref (p1a 0)), (2, .int p2)] := hl
  obtain ⟨H, hHe⟩ : ∃ H, H = s.heap := ⟨_, rfl⟩
  obtain ⟨locs, hle⟩ : ∃ locs : List Loc, locs = [] := ⟨_, rfl⟩
  rw [← hHe] at hP
  have hS : va_S A s.heap H locs := by rw [hHe, hle]; exact hS
  show W p l e ({ frames := 1, cells := 0, slots := 0, locals := 23 } : Room) s m ([.ref (p0a 0), .ref (p1a 0), .int p2] : List Value).toArray below meth c s.heap [] 0 0 Q (F0 m 0 ls [])
  rw [← hle]
  refine wH9 hHe ?_
  unfold fX5_learnStep at hrun
  refine lv_aload_n hx hb dX5_learnStep_0 rfl (lv_at hl 1 rfl) ?_
  refine va_get (D := (dC, dI)) (ci := 3) (v := .ref (p1a 2)) (C := RX9) (T := TX9) (N := 6) hx hb hts i_X9 hown hK hP 10 rfl rfl 1 (by decide) (hts _ qw420) (fun _ h9 => h9) rfl dX5_learnStep_1 ?_
  refine lv_iload_n hx hb dX5_learnStep_4 rfl (lv_at hl 2 rfl) ?_
  obtain ⟨hq1, hrun⟩ := chk9 hrun
  refine va_iald hx hb hK hP 11 9 rfl rfl (ixb_in hq1) dX5_learnStep_5 ?_
  refine lv_istore_n (lv' := [(3, .int (p1w 2 (nn p2))), (0, .ref (p0a 0)), (1, .ref (p1a 0)), (2, .int p2)]) hx hb dX5_learnStep_6 rfl hl (by decide) rfl (fun ls hl => ?_)
  refine lv_aload_n hx hb dX5_learnStep_7 rfl (lv_at hl 2 rfl) ?_
  refine va_get (D := (dC, dI)) (ci := 3) (v := .ref (p1a 3)) (C := RX9) (T := TX9) (N := 6) hx hb hts i_X9 hown hK hP 10 rfl rfl 2 (by decide) (hts _ qw436) (fun _ h9 => h9) rfl dX5_learnStep_8 ?_
  refine lv_iload_n hx hb dX5_learnStep_11 rfl (lv_at hl 3 rfl) ?_
  obtain ⟨hq2, hrun⟩ := chk9 hrun
  refine va_iald hx hb hK hP 12 10 rfl rfl (ixb_in hq2) dX5_learnStep_12 ?_
  refine lv_istore (lv' := [(4, .int (p1w 3 (nn p2))), (3, .int (p1w 2 (nn p2))), (0, .ref (p0a 0)), (1, .ref (p1a 0)), (2, .int p2)]) hx hb dX5_learnStep_13 hl (by decide) rfl (fun ls hl => ?_)
  refine lv_iload_n hx hb dX5_learnStep_15 rfl (lv_at hl 1 rfl) ?_
  rcases br9 hrun with ⟨hc3, hrun⟩ | ⟨hc3, hrun⟩
  · refine lv_if_ne (tgt := 33) hx hb dX5_learnStep_16 (by decide) (fun c => absurd hc3 c) (fun _ => ?_)
    refine lv_aload_n hx hb dX5_learnStep_19 rfl (lv_at hl 2 rfl) ?_
    refine lv_iload hx hb dX5_learnStep_20 (lv_at hl 0 rfl) ?_
    refine lv_iconst (v := 1) hx hb dX5_learnStep_22 (by decide) ?_
    refine lv_aload_n hx hb dX5_learnStep_23 rfl (lv_at hl 3 rfl) ?_
    refine va_get (D := (dC, dI)) (ci := 3) (v := .ref (p1a 4)) (C := RX9) (T := TX9) (N := 6) hx hb hts i_X9 hown hK hP 10 rfl rfl 3 (by decide) (hts _ qw421) (fun _ h9 => h9) rfl dX5_learnStep_24 ?_
    refine lv_iload_n hx hb dX5_learnStep_27 rfl (lv_at hl 4 rfl) ?_
    obtain ⟨hq4, hrun⟩ := chk9 hrun
    refine va_iald hx hb hK hP 13 11 rfl rfl (ixb_in hq4) dX5_learnStep_28 ?_
    obtain ⟨o_5, hc_5, hrun⟩ := bnd9 hrun
    have hPx : va_P (dC, dI) cls ((List.flatten ([(oX5 (p0a 0) p0a p0k p0w p0l)] : List va_W)) ++ (List.flatten ([(oX9 (p1a 0) p1a p1k p1n p1w)] : List va_W))) H := vP_fa (vP_perm hP (bP (List.Perm.refl _)))
    have hDx : va_D A ((List.flatten ([(oX5 (p0a 0) p0a p0k p0w p0l)] : List va_W)) ++ (List.flatten ([(oX9 (p1a 0) p1a p1k p1n p1w)] : List va_W))) := vD_fa (vD_perm hD (bP (List.Perm.refl _)))
    have hKx : va_K (dC, dI) cls ((List.flatten ([(tX5 p0k)] : List (List (ClassId × FieldType)))) ++ (List.flatten ([(tX9 p1k)] : List (List (ClassId × FieldType))))) s := vK_fa (vK_perm hK (bP (List.Perm.refl _)))
    have hPc := vP_l hPx
    have hDc := vD_l hDx
    have hKc := vK_l hKx
    have hFc := vfree hDx hS hA
    refine va_calli (va_runV (As := [.int (p1w 3 (nn p2)), .int 1, .int (p1w 4 (nn p2))]) (rest := []) ⟨hx, hb, hml, hown, hts⟩ (kX5_learn l dC dI (p0a := p0a) (p0k := p0k) (p0w := p0w) (p0l := p0l) (p1 := (p1w 3 (nn p2))) (p2 := 1) (p3 := (p1w 4 (nn p2))) (sz := _) (o := o_5) (hrun := hc_5)) (cwV 3 hts (gi_V qw510 qw511 qw512 qw442 (gi_z qw509)) rfl rfl rfl (by decide +kernel) ⟨Nat.le_of_ble_eq_true rfl, Nat.le_of_ble_eq_true rfl⟩) ⟨PRE.blind, va_recv hKc hPc (ci := 7) (q0 := 0) rfl rfl, PRE.of hE hS hFc hPc hKc hDc⟩ rfl rfl hl.1 rfl (lv_room (Nat.le_of_ble_eq_true rfl)) dX5_learnStep_29 ⟨(Nat.le_of_ble_eq_true rfl), (Nat.le_of_ble_eq_true rfl)⟩) hS (fun q _ h => hFc q h) hFc (fun r6 u t H locs ht hvm hw hB hz1 hk1 hS => ?_)
    obtain ⟨b1, b2, b3⟩ := hB
    rw [ht] at b1
    obtain ⟨hP, hD, hK⟩ := JOINC (wc := (List.flatten ([(oX5 (p0a 0) p0a p0k p0w p0l)] : List va_W))) (wr := (List.flatten ([(oX9 (p1a 0) p1a p1k p1n p1w)] : List va_W))) (w1 := (List.flatten ([(oX5 (p0a 0) p0a p0k (o_5.2) p0l)] : List va_W))) (t1 := (List.flatten ([(tX5 p0k)] : List (List (ClassId × FieldType))))) hPx hDx hKx hk1 hFc b1 (va_K.moved hvm.symm b2) b3
    have hP : va_P (dC, dI) cls (List.flatten ([(oX5 (p0a 0) p0a p0k (o_5.2) p0l), (oX9 (p1a 0) p1a p1k p1n p1w)] : List va_W)) H := vP_perm (vP_fb hP) (bP (List.Perm.refl _))
    have hD : va_D A (List.flatten ([(oX5 (p0a 0) p0a p0k (o_5.2) p0l), (oX9 (p1a 0) p1a p1k p1n p1w)] : List va_W)) := vD_perm (vD_fb hD) (bP (List.Perm.refl _))
    have hK : va_K (dC, dI) cls (List.flatten ([(tX5 p0k), (tX9 p1k)] : List (List (ClassId × FieldType)))) s := vK_perm (vK_fb hK) (bP (List.Perm.refl _))
    obtain rfl : r6 = (o_5.1) := hw
    obtain ⟨hz9, hrun⟩ := chk9 hrun
    have ho9 : ((o_5.1), (o_5.2)) = o := Option.some.inj hrun
    have hP9 : va_P (dC, dI) cls (List.flatten ([(oX5 (p0a 0) p0a p0k (o.2) p0l), (oX9 (p1a 0) p1a p1k p1n p1w)] : List va_W)) H := by first | exact hP | (rw [← ho9]; exact hP)
    have hD9 : va_D A (List.flatten ([(oX5 (p0a 0) p0a p0k (o.2) p0l), (oX9 (p1a 0) p1a p1k p1n p1w)] : List va_W)) := by first | exact hD | (rw [← ho9]; exact hD)
    subst hQ
    exact W.zret (v := (o_5.1)) hx hb hr (bz9 hz9) (fun t ht hW => ⟨⟨(o_5.1), (), rfl, (by rw [← ho9]), ⟨by rw [ht]; exact hP9, va_K.moved hW.alike hK, hD9⟩⟩, hS.F ht⟩) hS.2.2 dX5_learnStep_32
  · refine lv_if_ne (tgt := 33) hx hb dX5_learnStep_16 (by decide) (fun _ => ?_) (fun c => absurd c hc3)
    refine lv_iload_n hx hb dX5_learnStep_33 rfl (lv_at hl 1 rfl) ?_
    obtain ⟨o_7, hc_7, hrun⟩ := bnd9 hrun
    have hPx : va_P (dC, dI) cls ((List.flatten ([] : List va_W)) ++ (List.flatten ([(oX5 (p0a 0) p0a p0k p0w p0l), (oX9 (p1a 0) p1a p1k p1n p1w)] : List va_W))) H := vP_fa (vP_perm hP (bP (List.Perm.refl _)))
    have hDx : va_D A ((List.flatten ([] : List va_W)) ++ (List.flatten ([(oX5 (p0a 0) p0a p0k p0w p0l), (oX9 (p1a 0) p1a p1k p1n p1w)] : List va_W))) := vD_fa (vD_perm hD (bP (List.Perm.refl _)))
    have hKx : va_K (dC, dI) cls ((List.flatten ([] : List (List (ClassId × FieldType)))) ++ (List.flatten ([(tX5 p0k), (tX9 p1k)] : List (List (ClassId × FieldType))))) s := vK_fa (vK_perm hK (bP (List.Perm.refl _)))
    have hPc := vP_l hPx
    have hDc := vD_l hDx
    have hKc := vK_l hKx
    have hFc := vfree hDx hS hA
    refine va_calli (va_runSN (As := [.int (p1w 2 (nn p2))]) (rest := []) ⟨hx, hb, hml, hown, hts⟩ (kX11_isOperator l dC dI (p0 := (p1w 2 (nn p2))) (sz := _) (o := o_7) (hrun := hc_7)) ⟨(va_cnB 1 hts (gi_z qw348) rfl rfl rfl (hE.nw (List.mem_append_right _ (tbl_7 (i := 173) rfl)) rfl) (hts _ qw129) (by decide +kernel) ⟨Nat.le_of_ble_eq_true rfl, Nat.le_of_ble_eq_true rfl⟩), (hts _ qw350), trivial⟩ ⟨PRE.blind, PRE.of hE hS hFc hPc hKc hDc⟩ rfl rfl hl.1 rfl (lv_room (Nat.le_of_ble_eq_true rfl)) dX5_learnStep_34 ⟨(Nat.le_of_ble_eq_true rfl), (Nat.le_of_ble_eq_true rfl)⟩) hS (fun q _ h => hFc q h) hFc (fun r8 u t H locs ht hvm hw hB hz1 hk1 hS => ?_)
    obtain ⟨b1, b2, b3⟩ := hB
    rw [ht] at b1
    obtain ⟨hP, hD, hK⟩ := JOINC (wc := (List.flatten ([] : List va_W))) (wr := (List.flatten ([(oX5 (p0a 0) p0a p0k p0w p0l), (oX9 (p1a 0) p1a p1k p1n p1w)] : List va_W))) (w1 := (List.flatten ([] : List va_W))) (t1 := (List.flatten ([] : List (List (ClassId × FieldType))))) hPx hDx hKx hk1 hFc b1 (va_K.moved hvm.symm b2) b3
    have hP : va_P (dC, dI) cls (List.flatten ([(oX5 (p0a 0) p0a p0k p0w p0l), (oX9 (p1a 0) p1a p1k p1n p1w)] : List va_W)) H := vP_perm (vP_fb hP) (bP (List.Perm.refl _))
    have hD : va_D A (List.flatten ([(oX5 (p0a 0) p0a p0k p0w p0l), (oX9 (p1a 0) p1a p1k p1n p1w)] : List va_W)) := vD_perm (vD_fb hD) (bP (List.Perm.refl _))
    have hK : va_K (dC, dI) cls (List.flatten ([(tX5 p0k), (tX9 p1k)] : List (List (ClassId × FieldType)))) s := vK_perm (vK_fb hK) (bP (List.Perm.refl _))
    obtain rfl : o_7 = r8 := hw.symm
    rcases br9 hrun with ⟨hc9, hrun⟩ | ⟨hc9, hrun⟩
    · refine lv_if_ne (tgt := 49) hx hb dX5_learnStep_37 (by decide) (fun c => absurd hc9 c) (fun _ => ?_)
      refine lv_aload_n hx hb dX5_learnStep_40 rfl (lv_at hl 2 rfl) ?_
      refine lv_iload hx hb dX5_learnStep_41 (lv_at hl 0 rfl) ?_
      refine lv_iconst (v := 2) hx hb dX5_learnStep_43 (by decide) ?_
      refine lv_iconst (v := 0) hx hb dX5_learnStep_44 (by decide) ?_
      obtain ⟨o_10, hc_10, hrun⟩ := bnd9 hrun
      have hPx : va_P (dC, dI) cls ((List.flatten ([(oX5 (p0a 0) p0a p0k p0w p0l)] : List va_W)) ++ (List.flatten ([(oX9 (p1a 0) p1a p1k p1n p1w)] : List va_W))) H := vP_fa (vP_perm hP (bP (List.Perm.refl _)))
      have hDx : va_D A ((List.flatten ([(oX5 (p0a 0) p0a p0k p0w p0l)] : List va_W)) ++ (List.flatten ([(oX9 (p1a 0) p1a p1k p1n p1w)] : List va_W))) := vD_fa (vD_perm hD (bP (List.Perm.refl _)))
      have hKx : va_K (dC, dI) cls ((List.flatten ([(tX5 p0k)] : List (List (ClassId × FieldType)))) ++ (List.flatten ([(tX9 p1k)] : List (List (ClassId × FieldType))))) s := vK_fa (vK_perm hK (bP (List.Perm.refl _)))
      have hPc := vP_l hPx
      have hDc := vD_l hDx
      have hKc := vK_l hKx
      have hFc := vfree hDx hS hA
      refine va_calli (va_runV (As := [.int (p1w 3 (nn p2)), .int 2, .int 0]) (rest := []) ⟨hx, hb, hml, hown, hts⟩ (kX5_learn l dC dI (p0a := p0a) (p0k := p0k) (p0w := p0w) (p0l := p0l) (p1 := (p1w 3 (nn p2))) (p2 := 2) (p3 := 0) (sz := _) (o := o_10) (hrun := hc_10)) (cwV 3 hts (gi_V qw510 qw511 qw512 qw442 (gi_z qw509)) rfl rfl rfl (by decide +kernel) ⟨Nat.le_of_ble_eq_true rfl, Nat.le_of_ble_eq_true rfl⟩) ⟨PRE.blind, va_recv hKc hPc (ci := 7) (q0 := 0) rfl rfl, PRE.of hE hS hFc hPc hKc hDc⟩ rfl rfl hl.1 rfl (lv_room (Nat.le_of_ble_eq_true rfl)) dX5_learnStep_45 ⟨(Nat.le_of_ble_eq_true rfl), (Nat.le_of_ble_eq_true rfl)⟩) hS (fun q _ h => hFc q h) hFc (fun r11 u t H locs ht hvm hw hB hz1 hk1 hS => ?_)
      obtain ⟨b1, b2, b3⟩ := hB
      rw [ht] at b1
      obtain ⟨hP, hD, hK⟩ := JOINC (wc := (List.flatten ([(oX5 (p0a 0) p0a p0k p0w p0l)] : List va_W))) (wr := (List.flatten ([(oX9 (p1a 0) p1a p1k p1n p1w)] : List va_W))) (w1 := (List.flatten ([(oX5 (p0a 0) p0a p0k (o_10.2) p0l)] : List va_W))) (t1 := (List.flatten ([(tX5 p0k)] : List (List (ClassId × FieldType))))) hPx hDx hKx hk1 hFc b1 (va_K.moved hvm.symm b2) b3
      have hP : va_P (dC, dI) cls (List.flatten ([(oX5 (p0a 0) p0a p0k (o_10.2) p0l), (oX9 (p1a 0) p1a p1k p1n p1w)] : List va_W)) H := vP_perm (vP_fb hP) (bP (List.Perm.refl _))
      have hD : va_D A (List.flatten ([(oX5 (p0a 0) p0a p0k (o_10.2) p0l), (oX9 (p1a 0) p1a p1k p1n p1w)] : List va_W)) := vD_perm (vD_fb hD) (bP (List.Perm.refl _))
      have hK : va_K (dC, dI) cls (List.flatten ([(tX5 p0k), (tX9 p1k)] : List (List (ClassId × FieldType)))) s := vK_perm (vK_fb hK) (bP (List.Perm.refl _))
      obtain rfl : r11 = (o_10.1) := hw
      obtain ⟨hz9, hrun⟩ := chk9 hrun
      have ho9 : ((o_10.1), (o_10.2)) = o := Option.some.inj hrun
      have hP9 : va_P (dC, dI) cls (List.flatten ([(oX5 (p0a 0) p0a p0k (o.2) p0l), (oX9 (p1a 0) p1a p1k p1n p1w)] : List va_W)) H := by first | exact hP | (rw [← ho9]; exact hP)
      have hD9 : va_D A (List.flatten ([(oX5 (p0a 0) p0a p0k (o.2) p0l), (oX9 (p1a 0) p1a p1k p1n p1w)] : List va_W)) := by first | exact hD | (rw [← ho9]; exact hD)
      subst hQ
      exact W.zret (v := (o_10.1)) hx hb hr (bz9 hz9) (fun t ht hW => ⟨⟨(o_10.1), (), rfl, (by rw [← ho9]), ⟨by rw [ht]; exact hP9, va_K.moved hW.alike hK, hD9⟩⟩, hS.F ht⟩) hS.2.2 dX5_learnStep_48
    · refine lv_if_ne (tgt := 49) hx hb dX5_learnStep_37 (by decide) (fun _ => ?_) (fun c => absurd c hc9)
      refine lv_aload_n hx hb dX5_learnStep_49 rfl (lv_at hl 3 rfl) ?_
      refine va_get (D := (dC, dI)) (ci := 3) (v := .ref (p1a 4)) (C := RX9) (T := TX9) (N := 6) hx hb hts i_X9 hown hK hP 10 rfl rfl 3 (by decide) (hts _ qw421) (fun _ h9 => h9) rfl dX5_learnStep_50 ?_
      refine lv_iload_n hx hb dX5_learnStep_53 rfl (lv_at hl 4 rfl) ?_
      obtain ⟨hq12, hrun⟩ := chk9 hrun
      refine va_iald hx hb hK hP 13 11 rfl rfl (ixb_in hq12) dX5_learnStep_54 ?_
      refine lv_istore (lv' := [(5, .int (p1w 4 (nn p2))), (4, .int (p1w 3 (nn p2))), (3, .int (p1w 2 (nn p2))), (0, .ref (p0a 0)), (1, .ref (p1a 0)), (2, .int p2)]) hx hb dX5_learnStep_55 hl (by decide) rfl (fun ls hl => ?_)
      refine lv_aload_n hx hb dX5_learnStep_57 rfl (lv_at hl 4 rfl) ?_
      refine va_get (D := (dC, dI)) (ci := 3) (v := .ref (p1a 5)) (C := RX9) (T := TX9) (N := 6) hx hb hts i_X9 hown hK hP 10 rfl rfl 4 (by decide) (hts _ qw422) (fun _ h9 => h9) rfl dX5_learnStep_58 ?_
      refine lv_iload_n hx hb dX5_learnStep_61 rfl (lv_at hl 5 rfl) ?_
      obtain ⟨hq13, hrun⟩ := chk9 hrun
      refine va_iald hx hb hK hP 14 12 rfl rfl (ixb_in hq13) dX5_learnStep_62 ?_
      refine lv_istore (lv' := [(6, .int (p1w 5 (nn p2))), (5, .int (p1w 4 (nn p2))), (4, .int (p1w 3 (nn p2))), (3, .int (p1w 2 (nn p2))), (0, .ref (p0a 0)), (1, .ref (p1a 0)), (2, .int p2)]) hx hb dX5_learnStep_63 hl (by decide) rfl (fun ls hl => ?_)
      refine lv_aload_n hx hb dX5_learnStep_65 rfl (lv_at hl 4 rfl) ?_
      refine va_get (D := (dC, dI)) (ci := 7) (v := .ref (p0a 4)) (C := RX5) (T := TX5) (N := 12) hx hb hts i_X5 hown hK hP 0 rfl rfl 3 (by decide) (hts _ qw490) (fun _ h9 => h9) rfl dX5_learnStep_66 ?_
      refine lv_iload hx hb dX5_learnStep_69 (lv_at hl 0 rfl) ?_
      obtain ⟨hq14, hrun⟩ := chk9 hrun
      refine va_iald hx hb hK hP 3 2 rfl rfl (ixb_in hq14) dX5_learnStep_71 ?_
      refine lv_iconst (v := 1) hx hb dX5_learnStep_72 (by decide) ?_
      have J95 : ∀ (y0_95 : Int32) (H : Heap) (locs : List Loc) (ls : Array Slot), (fX5_learnStep_J95 p0w p1w p2 y0_95) = some o → va_P (dC, dI) cls (List.flatten ([(oX5 (p0a 0) p0a p0k p0w p0l), (oX9 (p1a 0) p1a p1k p1n p1w)] : List va_W)) H → va_D A (List.flatten ([(oX5 (p0a 0) p0a p0k p0w p0l), (oX9 (p1a 0) p1a p1k p1n p1w)] : List va_W)) → va_K (dC, dI) cls (List.flatten ([(tX5 p0k), (tX9 p1k)] : List (List (ClassId × FieldType)))) s → va_S A s.heap H locs → lv_has ls 8 [(0, .ref (p0a 0)), (3, .int (p1w 2 (nn p2))), (4, .int (p1w 3 (nn p2))), (5, .int (p1w 4 (nn p2))), (6, .int (p1w 5 (nn p2)))] → W p l e ({ frames := 1, cells := 0, slots := 0, locals := 23 } : Room) s m ([.ref (p0a 0), .ref (p1a 0), .int p2] : List Value).toArray below meth c H locs 0 0 Q (F0 m 95 ls [.int y0_95]) := by
        intro y0_95 H locs ls hrun hP hD hK hS hl 
        unfold fX5_learnStep_J95 at hrun
        refine lv_istore (lv' := [(7, .int y0_95), (0, .ref (p0a 0)), (3, .int (p1w 2 (nn p2))), (4, .int (p1w 3 (nn p2))), (5, .int (p1w 4 (nn p2))), (6, .int (p1w 5 (nn p2)))]) hx hb dX5_learnStep_95 hl (by decide) rfl (fun ls hl => ?_)
        refine lv_aload_n hx hb dX5_learnStep_97 rfl (lv_at hl 1 rfl) ?_
        refine va_get (D := (dC, dI)) (ci := 7) (v := .ref (p0a 4)) (C := RX5) (T := TX5) (N := 12) hx hb hts i_X5 hown hK hP 0 rfl rfl 3 (by decide) (hts _ qw490) (fun _ h9 => h9) rfl dX5_learnStep_98 ?_
        refine lv_iload hx hb dX5_learnStep_101 (lv_at hl 4 rfl) ?_
        obtain ⟨hq15, hrun⟩ := chk9 hrun
        refine va_iald hx hb hK hP 3 2 rfl rfl (ixb_in hq15) dX5_learnStep_103 ?_
        refine lv_iconst (v := 2) hx hb dX5_learnStep_104 (by decide) ?_
        have J124 : ∀ (H : Heap) (locs : List Loc) (ls : Array Slot), (fX5_learnStep_J124 p0w p1w p2) = some o → va_P (dC, dI) cls (List.flatten ([(oX5 (p0a 0) p0a p0k p0w p0l), (oX9 (p1a 0) p1a p1k p1n p1w)] : List va_W)) H → va_D A (List.flatten ([(oX5 (p0a 0) p0a p0k p0w p0l), (oX9 (p1a 0) p1a p1k p1n p1w)] : List va_W)) → va_K (dC, dI) cls (List.flatten ([(tX5 p0k), (tX9 p1k)] : List (List (ClassId × FieldType)))) s → va_S A s.heap H locs → lv_has ls 8 [(0, .ref (p0a 0)), (4, .int (p1w 3 (nn p2)))] → W p l e ({ frames := 1, cells := 0, slots := 0, locals := 23 } : Room) s m ([.ref (p0a 0), .ref (p1a 0), .int p2] : List Value).toArray below meth c H locs 0 0 Q (F0 m 124 ls []) := by
          intro  H locs ls hrun hP hD hK hS hl 
          unfold fX5_learnStep_J124 at hrun
          refine lv_aload_n hx hb dX5_learnStep_124 rfl (lv_at hl 0 rfl) ?_
          refine lv_iload hx hb dX5_learnStep_125 (lv_at hl 1 rfl) ?_
          refine lv_iconst (v := 2) hx hb dX5_learnStep_127 (by decide) ?_
          refine lv_iconst (v := 0) hx hb dX5_learnStep_128 (by decide) ?_
          obtain ⟨o_16, hc_16, hrun⟩ := bnd9 hrun
          have hPx : va_P (dC, dI) cls ((List.flatten ([(oX5 (p0a 0) p0a p0k p0w p0l)] : List va_W)) ++ (List.flatten ([(oX9 (p1a 0) p1a p1k p1n p1w)] : List va_W))) H := vP_fa (vP_perm hP (bP (List.Perm.refl _)))
          have hDx : va_D A ((List.flatten ([(oX5 (p0a 0) p0a p0k p0w p0l)] : List va_W)) ++ (List.flatten ([(oX9 (p1a 0) p1a p1k p1n p1w)] : List va_W))) := vD_fa (vD_perm hD (bP (List.Perm.refl _)))
          have hKx : va_K (dC, dI) cls ((List.flatten ([(tX5 p0k)] : List (List (ClassId × FieldType)))) ++ (List.flatten ([(tX9 p1k)] : List (List (ClassId × FieldType))))) s := vK_fa (vK_perm hK (bP (List.Perm.refl _)))
          have hPc := vP_l hPx
          have hDc := vD_l hDx
          have hKc := vK_l hKx
          have hFc := vfree hDx hS hA
          refine va_calli (va_runV (As := [.int (p1w 3 (nn p2)), .int 2, .int 0]) (rest := []) ⟨hx, hb, hml, hown, hts⟩ (kX5_learn l dC dI (p0a := p0a) (p0k := p0k) (p0w := p0w) (p0l := p0l) (p1 := (p1w 3 (nn p2))) (p2 := 2) (p3 := 0) (sz := _) (o := o_16) (hrun := hc_16)) (cwV 3 hts (gi_V qw510 qw511 qw512 qw442 (gi_z qw509)) rfl rfl rfl (by decide +kernel) ⟨Nat.le_of_ble_eq_true rfl, Nat.le_of_ble_eq_true rfl⟩) ⟨PRE.blind, va_recv hKc hPc (ci := 7) (q0 := 0) rfl rfl, PRE.of hE hS hFc hPc hKc hDc⟩ rfl rfl hl.1 rfl (lv_room (Nat.le_of_ble_eq_true rfl)) dX5_learnStep_129 ⟨(Nat.le_of_ble_eq_true rfl), (Nat.le_of_ble_eq_true rfl)⟩) hS (fun q _ h => hFc q h) hFc (fun r17 u t H locs ht hvm hw hB hz1 hk1 hS => ?_)
          obtain ⟨b1, b2, b3⟩ := hB
          rw [ht] at b1
          obtain ⟨hP, hD, hK⟩ := JOINC (wc := (List.flatten ([(oX5 (p0a 0) p0a p0k p0w p0l)] : List va_W))) (wr := (List.flatten ([(oX9 (p1a 0) p1a p1k p1n p1w)] : List va_W))) (w1 := (List.flatten ([(oX5 (p0a 0) p0a p0k (o_16.2) p0l)] : List va_W))) (t1 := (List.flatten ([(tX5 p0k)] : List (List (ClassId × FieldType))))) hPx hDx hKx hk1 hFc b1 (va_K.moved hvm.symm b2) b3
          have hP : va_P (dC, dI) cls (List.flatten ([(oX5 (p0a 0) p0a p0k (o_16.2) p0l), (oX9 (p1a 0) p1a p1k p1n p1w)] : List va_W)) H := vP_perm (vP_fb hP) (bP (List.Perm.refl _))
          have hD : va_D A (List.flatten ([(oX5 (p0a 0) p0a p0k (o_16.2) p0l), (oX9 (p1a 0) p1a p1k p1n p1w)] : List va_W)) := vD_perm (vD_fb hD) (bP (List.Perm.refl _))
          have hK : va_K (dC, dI) cls (List.flatten ([(tX5 p0k), (tX9 p1k)] : List (List (ClassId × FieldType)))) s := vK_perm (vK_fb hK) (bP (List.Perm.refl _))
          obtain rfl : r17 = (o_16.1) := hw
          obtain ⟨hz9, hrun⟩ := chk9 hrun
          have ho9 : ((o_16.1), (o_16.2)) = o := Option.some.inj hrun
          have hP9 : va_P (dC, dI) cls (List.flatten ([(oX5 (p0a 0) p0a p0k (o.2) p0l), (oX9 (p1a 0) p1a p1k p1n p1w)] : List va_W)) H := by first | exact hP | (rw [← ho9]; exact hP)
          have hD9 : va_D A (List.flatten ([(oX5 (p0a 0) p0a p0k (o.2) p0l), (oX9 (p1a 0) p1a p1k p1n p1w)] : List va_W)) := by first | exact hD | (rw [← ho9]; exact hD)
          subst hQ
          exact W.zret (v := (o_16.1)) hx hb hr (bz9 hz9) (fun t ht hW => ⟨⟨(o_16.1), (), rfl, (by rw [← ho9]), ⟨by rw [ht]; exact hP9, va_K.moved hW.alike hK, hD9⟩⟩, hS.F ht⟩) hS.2.2 dX5_learnStep_132
        rcases br9 hrun with ⟨hc18, hrun⟩ | ⟨hc18, hrun⟩
        · refine lv_icmp_eq (tgt := 124) hx hb dX5_learnStep_105 (by decide) (fun _ => ?_) (fun c => absurd hc18 c)
          exact J124 _ _ _ hrun hP hD hK hS (lv_sub hl [1, 3] rfl)
        · refine lv_icmp_eq (tgt := 124) hx hb dX5_learnStep_105 (by decide) (fun c => absurd c hc18) (fun _ => ?_)
          refine lv_aload_n hx hb dX5_learnStep_108 rfl (lv_at hl 1 rfl) ?_
          refine va_get (D := (dC, dI)) (ci := 7) (v := .ref (p0a 4)) (C := RX5) (T := TX5) (N := 12) hx hb hts i_X5 hown hK hP 0 rfl rfl 3 (by decide) (hts _ qw490) (fun _ h9 => h9) rfl dX5_learnStep_109 ?_
          refine lv_iload hx hb dX5_learnStep_112 (lv_at hl 5 rfl) ?_
          obtain ⟨hq19, hrun⟩ := chk9 hrun
          refine va_iald hx hb hK hP 3 2 rfl rfl (ixb_in hq19) dX5_learnStep_114 ?_
          refine lv_iconst (v := 2) hx hb dX5_learnStep_115 (by decide) ?_
          rcases br9 hrun with ⟨hc20, hrun⟩ | ⟨hc20, hrun⟩
          · refine lv_icmp_eq (tgt := 124) hx hb dX5_learnStep_116 (by decide) (fun _ => ?_) (fun c => absurd hc20 c)
            exact J124 _ _ _ hrun hP hD hK hS (lv_sub hl [1, 3] rfl)
          · refine lv_icmp_eq (tgt := 124) hx hb dX5_learnStep_116 (by decide) (fun c => absurd c hc20) (fun _ => ?_)
            refine lv_iload hx hb dX5_learnStep_119 (lv_at hl 0 rfl) ?_
            rcases br9 hrun with ⟨hc21, hrun⟩ | ⟨hc21, hrun⟩
            · refine lv_if_eq (tgt := 133) hx hb dX5_learnStep_121 (by decide) (fun _ => ?_) (fun c => absurd hc21 c)
              refine lv_aload_n hx hb dX5_learnStep_133 rfl (lv_at hl 1 rfl) ?_
              refine va_get (D := (dC, dI)) (ci := 7) (v := .ref (p0a 4)) (C := RX5) (T := TX5) (N := 12) hx hb hts i_X5 hown hK hP 0 rfl rfl 3 (by decide) (hts _ qw490) (fun _ h9 => h9) rfl dX5_learnStep_134 ?_
              refine lv_iload hx hb dX5_learnStep_137 (lv_at hl 4 rfl) ?_
              obtain ⟨hq22, hrun⟩ := chk9 hrun
              refine va_iald hx hb hK hP 3 2 rfl rfl (ixb_in hq22) dX5_learnStep_139 ?_
              have J153 : ∀ (H : Heap) (locs : List Loc) (ls : Array Slot), (fX5_learnStep_J153 p0w) = some o → va_P (dC, dI) cls (List.flatten ([(oX5 (p0a 0) p0a p0k p0w p0l), (oX9 (p1a 0) p1a p1k p1n p1w)] : List va_W)) H → va_D A (List.flatten ([(oX5 (p0a 0) p0a p0k p0w p0l), (oX9 (p1a 0) p1a p1k p1n p1w)] : List va_W)) → va_K (dC, dI) cls (List.flatten ([(tX5 p0k), (tX9 p1k)] : List (List (ClassId × FieldType)))) s → va_S A s.heap H locs → lv_has ls 8 [] → W p l e ({ frames := 1, cells := 0, slots := 0, locals := 23 } : Room) s m ([.ref (p0a 0), .ref (p1a 0), .int p2] : List Value).toArray below meth c H locs 0 0 Q (F0 m 153 ls []) := by
                intro  H locs ls hrun hP hD hK hS hl 
                unfold fX5_learnStep_J153 at hrun
                refine lv_iconst (v := 0) hx hb dX5_learnStep_153 (by decide) ?_
                have ho9 : (0, p0w) = o := Option.some.inj hrun
                have hP9 : va_P (dC, dI) cls (List.flatten ([(oX5 (p0a 0) p0a p0k (o.2) p0l), (oX9 (p1a 0) p1a p1k p1n p1w)] : List va_W)) H := by first | exact hP | (rw [← ho9]; exact hP)
                have hD9 : va_D A (List.flatten ([(oX5 (p0a 0) p0a p0k (o.2) p0l), (oX9 (p1a 0) p1a p1k p1n p1w)] : List va_W)) := by first | exact hD | (rw [← ho9]; exact hD)
                subst hQ
                exact W.zret (v := 0) hx hb hr (by decide) (fun t ht hW => ⟨⟨0, (), rfl, (by rw [← ho9]), ⟨by rw [ht]; exact hP9, va_K.moved hW.alike hK, hD9⟩⟩, hS.F ht⟩) hS.2.2 dX5_learnStep_154
              rcases br9 hrun with ⟨hc23, hrun⟩ | ⟨hc23, hrun⟩
              · refine lv_if_eq (tgt := 153) hx hb dX5_learnStep_140 (by decide) (fun _ => ?_) (fun c => absurd hc23 c)
                exact J153 _ _ _ hrun hP hD hK hS (lv_sub hl [] rfl)
              · refine lv_if_eq (tgt := 153) hx hb dX5_learnStep_140 (by decide) (fun c => absurd c hc23) (fun _ => ?_)
                refine lv_aload_n hx hb dX5_learnStep_143 rfl (lv_at hl 1 rfl) ?_
                refine va_get (D := (dC, dI)) (ci := 7) (v := .ref (p0a 4)) (C := RX5) (T := TX5) (N := 12) hx hb hts i_X5 hown hK hP 0 rfl rfl 3 (by decide) (hts _ qw490) (fun _ h9 => h9) rfl dX5_learnStep_144 ?_
                refine lv_iload hx hb dX5_learnStep_147 (lv_at hl 5 rfl) ?_
                obtain ⟨hq24, hrun⟩ := chk9 hrun
                refine va_iald hx hb hK hP 3 2 rfl rfl (ixb_in hq24) dX5_learnStep_149 ?_
                rcases br9 hrun with ⟨hc25, hrun⟩ | ⟨hc25, hrun⟩
                · refine lv_if_ne (tgt := 155) hx hb dX5_learnStep_150 (by decide) (fun c => absurd hc25 c) (fun _ => ?_)
                  exact J153 _ _ _ hrun hP hD hK hS (lv_sub hl [] rfl)
                · refine lv_if_ne (tgt := 155) hx hb dX5_learnStep_150 (by decide) (fun _ => ?_) (fun c => absurd c hc25)
                  refine lv_aload_n hx hb dX5_learnStep_155 rfl (lv_at hl 1 rfl) ?_
                  refine lv_iload hx hb dX5_learnStep_156 (lv_at hl 3 rfl) ?_
                  refine lv_iconst (v := 1) hx hb dX5_learnStep_158 (by decide) ?_
                  refine lv_iload_n hx hb dX5_learnStep_159 rfl (lv_at hl 2 rfl) ?_
                  refine lv_aload_n hx hb dX5_learnStep_160 rfl (lv_at hl 1 rfl) ?_
                  refine va_get (D := (dC, dI)) (ci := 7) (v := .ref (p0a 5)) (C := RX5) (T := TX5) (N := 12) hx hb hts i_X5 hown hK hP 0 rfl rfl 4 (by decide) (hts _ qw491) (fun _ h9 => h9) rfl dX5_learnStep_161 ?_
                  refine lv_iload hx hb dX5_learnStep_164 (lv_at hl 4 rfl) ?_
                  obtain ⟨hq26, hrun⟩ := chk9 hrun
                  refine va_iald hx hb hK hP 4 3 rfl rfl (ixb_in hq26) dX5_learnStep_166 ?_
                  refine lv_aload_n hx hb dX5_learnStep_167 rfl (lv_at hl 1 rfl) ?_
                  refine va_get (D := (dC, dI)) (ci := 7) (v := .ref (p0a 5)) (C := RX5) (T := TX5) (N := 12) hx hb hts i_X5 hown hK hP 0 rfl rfl 4 (by decide) (hts _ qw491) (fun _ h9 => h9) rfl dX5_learnStep_168 ?_
                  refine lv_iload hx hb dX5_learnStep_171 (lv_at hl 5 rfl) ?_
                  obtain ⟨hq27, hrun⟩ := chk9 hrun
                  refine va_iald hx hb hK hP 4 3 rfl rfl (ixb_in hq27) dX5_learnStep_173 ?_
                  obtain ⟨o_28, hc_28, hrun⟩ := bnd9 hrun
                  have hPx : va_P (dC, dI) cls ((List.flatten ([] : List va_W)) ++ (List.flatten ([(oX5 (p0a 0) p0a p0k p0w p0l), (oX9 (p1a 0) p1a p1k p1n p1w)] : List va_W))) H := vP_fa (vP_perm hP (bP (List.Perm.refl _)))
                  have hDx : va_D A ((List.flatten ([] : List va_W)) ++ (List.flatten ([(oX5 (p0a 0) p0a p0k p0w p0l), (oX9 (p1a 0) p1a p1k p1n p1w)] : List va_W))) := vD_fa (vD_perm hD (bP (List.Perm.refl _)))
                  have hKx : va_K (dC, dI) cls ((List.flatten ([] : List (List (ClassId × FieldType)))) ++ (List.flatten ([(tX5 p0k), (tX9 p1k)] : List (List (ClassId × FieldType))))) s := vK_fa (vK_perm hK (bP (List.Perm.refl _)))
                  have hPc := vP_l hPx
                  have hDc := vD_l hDx
                  have hKc := vK_l hKx
                  have hFc := vfree hDx hS hA
                  refine va_calli (va_runSN (As := [.int (p1w 2 (nn p2)), .int (p0w 5 (nn (p1w 4 (nn p2)))), .int (p0w 5 (nn (p1w 5 (nn p2))))]) (rest := [.int 1, .int (p1w 3 (nn p2)), .ref (p0a 0)]) ⟨hx, hb, hml, hown, hts⟩ (kX11_compute l dC dI (p0 := (p1w 2 (nn p2))) (p1 := (p0w 5 (nn (p1w 4 (nn p2))))) (p2 := (p0w 5 (nn (p1w 5 (nn p2))))) (sz := _) (o := o_28) (hrun := hc_28)) ⟨(va_cnB 3 hts (gi_z qw519) rfl rfl rfl (hE.nw (List.mem_append_right _ (tbl_7 (i := 177) rfl)) rfl) (hts _ qw129) (by decide +kernel) ⟨Nat.le_of_ble_eq_true rfl, Nat.le_of_ble_eq_true rfl⟩), (hts _ qw520), trivial⟩ ⟨PRE.blind, PRE.of hE hS hFc hPc hKc hDc⟩ rfl rfl hl.1 rfl (lv_room (Nat.le_of_ble_eq_true rfl)) dX5_learnStep_174 ⟨(Nat.le_of_ble_eq_true rfl), (Nat.le_of_ble_eq_true rfl)⟩) hS (fun q _ h => hFc q h) hFc (fun r29 u t H locs ht hvm hw hB hz1 hk1 hS => ?_)
                  obtain ⟨b1, b2, b3⟩ := hB
                  rw [ht] at b1
                  obtain ⟨hP, hD, hK⟩ := JOINC (wc := (List.flatten ([] : List va_W))) (wr := (List.flatten ([(oX5 (p0a 0) p0a p0k p0w p0l), (oX9 (p1a 0) p1a p1k p1n p1w)] : List va_W))) (w1 := (List.flatten ([] : List va_W))) (t1 := (List.flatten ([] : List (List (ClassId × FieldType))))) hPx hDx hKx hk1 hFc b1 (va_K.moved hvm.symm b2) b3
                  have hP : va_P (dC, dI) cls (List.flatten ([(oX5 (p0a 0) p0a p0k p0w p0l), (oX9 (p1a 0) p1a p1k p1n p1w)] : List va_W)) H := vP_perm (vP_fb hP) (bP (List.Perm.refl _))
                  have hD : va_D A (List.flatten ([(oX5 (p0a 0) p0a p0k p0w p0l), (oX9 (p1a 0) p1a p1k p1n p1w)] : List va_W)) := vD_perm (vD_fb hD) (bP (List.Perm.refl _))
                  have hK : va_K (dC, dI) cls (List.flatten ([(tX5 p0k), (tX9 p1k)] : List (List (ClassId × FieldType)))) s := vK_perm (vK_fb hK) (bP (List.Perm.refl _))
                  obtain rfl : o_28 = r29 := hw.symm
                  obtain ⟨o_30, hc_30, hrun⟩ := bnd9 hrun
                  have hPx : va_P (dC, dI) cls ((List.flatten ([(oX5 (p0a 0) p0a p0k p0w p0l)] : List va_W)) ++ (List.flatten ([(oX9 (p1a 0) p1a p1k p1n p1w)] : List va_W))) H := vP_fa (vP_perm hP (bP (List.Perm.refl _)))
                  have hDx : va_D A ((List.flatten ([(oX5 (p0a 0) p0a p0k p0w p0l)] : List va_W)) ++ (List.flatten ([(oX9 (p1a 0) p1a p1k p1n p1w)] : List va_W))) := vD_fa (vD_perm hD (bP (List.Perm.refl _)))
                  have hKx : va_K (dC, dI) cls ((List.flatten ([(tX5 p0k)] : List (List (ClassId × FieldType)))) ++ (List.flatten ([(tX9 p1k)] : List (List (ClassId × FieldType))))) s := vK_fa (vK_perm hK (bP (List.Perm.refl _)))
                  have hPc := vP_l hPx
                  have hDc := vD_l hDx
                  have hKc := vK_l hKx
                  have hFc := vfree hDx hS hA
                  refine va_calli (va_runV (As := [.int (p1w 3 (nn p2)), .int 1, .int o_28]) (rest := []) ⟨hx, hb, hml, hown, hts⟩ (kX5_learn l dC dI (p0a := p0a) (p0k := p0k) (p0w := p0w) (p0l := p0l) (p1 := (p1w 3 (nn p2))) (p2 := 1) (p3 := o_28) (sz := _) (o := o_30) (hrun := hc_30)) (cwV 3 hts (gi_V qw510 qw511 qw512 qw442 (gi_z qw509)) rfl rfl rfl (by decide +kernel) ⟨Nat.le_of_ble_eq_true rfl, Nat.le_of_ble_eq_true rfl⟩) ⟨PRE.blind, va_recv hKc hPc (ci := 7) (q0 := 0) rfl rfl, PRE.of hE hS hFc hPc hKc hDc⟩ rfl rfl hl.1 rfl (lv_room (Nat.le_of_ble_eq_true rfl)) dX5_learnStep_177 ⟨(Nat.le_of_ble_eq_true rfl), (Nat.le_of_ble_eq_true rfl)⟩) hS (fun q _ h => hFc q h) hFc (fun r31 u t H locs ht hvm hw hB hz1 hk1 hS => ?_)
                  obtain ⟨b1, b2, b3⟩ := hB
                  rw [ht] at b1
                  obtain ⟨hP, hD, hK⟩ := JOINC (wc := (List.flatten ([(oX5 (p0a 0) p0a p0k p0w p0l)] : List va_W))) (wr := (List.flatten ([(oX9 (p1a 0) p1a p1k p1n p1w)] : List va_W))) (w1 := (List.flatten ([(oX5 (p0a 0) p0a p0k (o_30.2) p0l)] : List va_W))) (t1 := (List.flatten ([(tX5 p0k)] : List (List (ClassId × FieldType))))) hPx hDx hKx hk1 hFc b1 (va_K.moved hvm.symm b2) b3
                  have hP : va_P (dC, dI) cls (List.flatten ([(oX5 (p0a 0) p0a p0k (o_30.2) p0l), (oX9 (p1a 0) p1a p1k p1n p1w)] : List va_W)) H := vP_perm (vP_fb hP) (bP (List.Perm.refl _))
                  have hD : va_D A (List.flatten ([(oX5 (p0a 0) p0a p0k (o_30.2) p0l), (oX9 (p1a 0) p1a p1k p1n p1w)] : List va_W)) := vD_perm (vD_fb hD) (bP (List.Perm.refl _))
                  have hK : va_K (dC, dI) cls (List.flatten ([(tX5 p0k), (tX9 p1k)] : List (List (ClassId × FieldType)))) s := vK_perm (vK_fb hK) (bP (List.Perm.refl _))
                  obtain rfl : r31 = (o_30.1) := hw
                  obtain ⟨hz9, hrun⟩ := chk9 hrun
                  have ho9 : ((o_30.1), (o_30.2)) = o := Option.some.inj hrun
                  have hP9 : va_P (dC, dI) cls (List.flatten ([(oX5 (p0a 0) p0a p0k (o.2) p0l), (oX9 (p1a 0) p1a p1k p1n p1w)] : List va_W)) H := by first | exact hP | (rw [← ho9]; exact hP)
                  have hD9 : va_D A (List.flatten ([(oX5 (p0a 0) p0a p0k (o.2) p0l), (oX9 (p1a 0) p1a p1k p1n p1w)] : List va_W)) := by first | exact hD | (rw [← ho9]; exact hD)
                  subst hQ
                  exact W.zret (v := (o_30.1)) hx hb hr (bz9 hz9) (fun t ht hW => ⟨⟨(o_30.1), (), rfl, (by rw [← ho9]), ⟨by rw [ht]; exact hP9, va_K.moved hW.alike hK, hD9⟩⟩, hS.F ht⟩) hS.2.2 dX5_learnStep_180
            · refine lv_if_eq (tgt := 133) hx hb dX5_learnStep_121 (by decide) (fun c => absurd c hc21) (fun _ => ?_)
              exact J124 _ _ _ hrun hP hD hK hS (lv_sub hl [1, 3] rfl)
      have J94 : ∀ (H : Heap) (locs : List Loc) (ls : Array Slot), (fX5_learnStep_J94 p0w p1w p2) = some o → va_P (dC, dI) cls (List.flatten ([(oX5 (p0a 0) p0a p0k p0w p0l), (oX9 (p1a 0) p1a p1k p1n p1w)] : List va_W)) H → va_D A (List.flatten ([(oX5 (p0a 0) p0a p0k p0w p0l), (oX9 (p1a 0) p1a p1k p1n p1w)] : List va_W)) → va_K (dC, dI) cls (List.flatten ([(tX5 p0k), (tX9 p1k)] : List (List (ClassId × FieldType)))) s → va_S A s.heap H locs → lv_has ls 8 [(0, .ref (p0a 0)), (3, .int (p1w 2 (nn p2))), (4, .int (p1w 3 (nn p2))), (5, .int (p1w 4 (nn p2))), (6, .int (p1w 5 (nn p2)))] → W p l e ({ frames := 1, cells := 0, slots := 0, locals := 23 } : Room) s m ([.ref (p0a 0), .ref (p1a 0), .int p2] : List Value).toArray below meth c H locs 0 0 Q (F0 m 94 ls []) := by
        intro  H locs ls hrun hP hD hK hS hl 
        unfold fX5_learnStep_J94 at hrun
        refine lv_iconst (v := 0) hx hb dX5_learnStep_94 (by decide) ?_
        exact J95 0 _ _ _ hrun hP hD hK hS (lv_sub hl [0, 1, 2, 3, 4] rfl)
      rcases br9 hrun with ⟨hc32, hrun⟩ | ⟨hc32, hrun⟩
      · refine lv_icmp_ne (tgt := 94) hx hb dX5_learnStep_73 (by decide) (fun c => absurd hc32 c) (fun _ => ?_)
        refine lv_iload_n hx hb dX5_learnStep_76 rfl (lv_at hl 3 rfl) ?_
        refine lv_aload_n hx hb dX5_learnStep_77 rfl (lv_at hl 4 rfl) ?_
        refine va_get (D := (dC, dI)) (ci := 7) (v := .ref (p0a 5)) (C := RX5) (T := TX5) (N := 12) hx hb hts i_X5 hown hK hP 0 rfl rfl 4 (by decide) (hts _ qw491) (fun _ h9 => h9) rfl dX5_learnStep_78 ?_
        refine lv_iload hx hb dX5_learnStep_81 (lv_at hl 0 rfl) ?_
        obtain ⟨hq33, hrun⟩ := chk9 hrun
        refine va_iald hx hb hK hP 4 3 rfl rfl (ixb_in hq33) dX5_learnStep_83 ?_
        obtain ⟨o_34, hc_34, hrun⟩ := bnd9 hrun
        have hPx : va_P (dC, dI) cls ((List.flatten ([] : List va_W)) ++ (List.flatten ([(oX5 (p0a 0) p0a p0k p0w p0l), (oX9 (p1a 0) p1a p1k p1n p1w)] : List va_W))) H := vP_fa (vP_perm hP (bP (List.Perm.refl _)))
        have hDx : va_D A ((List.flatten ([] : List va_W)) ++ (List.flatten ([(oX5 (p0a 0) p0a p0k p0w p0l), (oX9 (p1a 0) p1a p1k p1n p1w)] : List va_W))) := vD_fa (vD_perm hD (bP (List.Perm.refl _)))
        have hKx : va_K (dC, dI) cls ((List.flatten ([] : List (List (ClassId × FieldType)))) ++ (List.flatten ([(tX5 p0k), (tX9 p1k)] : List (List (ClassId × FieldType))))) s := vK_fa (vK_perm hK (bP (List.Perm.refl _)))
        have hPc := vP_l hPx
        have hDc := vD_l hDx
        have hKc := vK_l hKx
        have hFc := vfree hDx hS hA
        refine va_calli (va_runSN (As := [.int (p1w 2 (nn p2)), .int (p0w 5 (nn (p1w 5 (nn p2))))]) (rest := []) ⟨hx, hb, hml, hown, hts⟩ (kX11_isFailing l dC dI (p0 := (p1w 2 (nn p2))) (p1 := (p0w 5 (nn (p1w 5 (nn p2))))) (sz := _) (o := o_34) (hrun := hc_34)) ⟨(va_cnB 2 hts (gi_z qw517) rfl rfl rfl (hE.nw (List.mem_append_right _ (tbl_7 (i := 174) rfl)) rfl) (hts _ qw129) (by decide +kernel) ⟨Nat.le_of_ble_eq_true rfl, Nat.le_of_ble_eq_true rfl⟩), (hts _ qw518), trivial⟩ ⟨PRE.blind, PRE.of hE hS hFc hPc hKc hDc⟩ rfl rfl hl.1 rfl (lv_room (Nat.le_of_ble_eq_true rfl)) dX5_learnStep_84 ⟨(Nat.le_of_ble_eq_true rfl), (Nat.le_of_ble_eq_true rfl)⟩) hS (fun q _ h => hFc q h) hFc (fun r35 u t H locs ht hvm hw hB hz1 hk1 hS => ?_)
        obtain ⟨b1, b2, b3⟩ := hB
        rw [ht] at b1
        obtain ⟨hP, hD, hK⟩ := JOINC (wc := (List.flatten ([] : List va_W))) (wr := (List.flatten ([(oX5 (p0a 0) p0a p0k p0w p0l), (oX9 (p1a 0) p1a p1k p1n p1w)] : List va_W))) (w1 := (List.flatten ([] : List va_W))) (t1 := (List.flatten ([] : List (List (ClassId × FieldType))))) hPx hDx hKx hk1 hFc b1 (va_K.moved hvm.symm b2) b3
        have hP : va_P (dC, dI) cls (List.flatten ([(oX5 (p0a 0) p0a p0k p0w p0l), (oX9 (p1a 0) p1a p1k p1n p1w)] : List va_W)) H := vP_perm (vP_fb hP) (bP (List.Perm.refl _))
        have hD : va_D A (List.flatten ([(oX5 (p0a 0) p0a p0k p0w p0l), (oX9 (p1a 0) p1a p1k p1n p1w)] : List va_W)) := vD_perm (vD_fb hD) (bP (List.Perm.refl _))
        have hK : va_K (dC, dI) cls (List.flatten ([(tX5 p0k), (tX9 p1k)] : List (List (ClassId × FieldType)))) s := vK_perm (vK_fb hK) (bP (List.Perm.refl _))
        obtain rfl : o_34 = r35 := hw.symm
        rcases br9 hrun with ⟨hc36, hrun⟩ | ⟨hc36, hrun⟩
        · refine lv_if_eq (tgt := 94) hx hb dX5_learnStep_87 (by decide) (fun _ => ?_) (fun c => absurd hc36 c)
          exact J94 _ _ _ hrun hP hD hK hS (lv_sub hl [4, 3, 2, 1, 0] rfl)
        · refine lv_if_eq (tgt := 94) hx hb dX5_learnStep_87 (by decide) (fun c => absurd c hc36) (fun _ => ?_)
          refine lv_iconst (v := 1) hx hb dX5_learnStep_90 (by decide) ?_
          refine lv_goto (tgt := 95) hx hb dX5_learnStep_91 (by decide) ?_
          exact J95 1 _ _ _ hrun hP hD hK hS (lv_sub hl [4, 3, 2, 1, 0] rfl)
      · refine lv_icmp_ne (tgt := 94) hx hb dX5_learnStep_73 (by decide) (fun _ => ?_) (fun c => absurd c hc32)
        exact J94 _ _ _ hrun hP hD hK hS (lv_sub hl [4, 3, 2, 1, 0] rfl)
def fX5_learnBlock_J35 (kk10 : Int32 → Int32 → ST → Option (Int32 × ST)) (p1n : Nat → Nat) (p1w : ST) (v4_10 : Int32) (o_3 : Int32 × ST) (y0_35 : Int32) : Option (Int32 × ST) := (if ixb v4_10 (p1n 20) = true then (kk10 y0_35 (p1w 20 (nn v4_10)) (o_3.2)) else none)
def fX5_learnBlock_J30 (kk10 : Int32 → Int32 → ST → Option (Int32 × ST)) (p1n : Nat → Nat) (p1w : ST) (v4_10 : Int32) (o_3 : Int32 × ST) : Option (Int32 × ST) := (fX5_learnBlock_J35 kk10 p1n p1w v4_10 o_3 1)
def fX5_learnBlock_L10 (p0l : SL) (p1n : Nat → Nat) (p1w : ST) (p2 : Int32) : Nat → Int32 → Int32 → ST → Option (Int32 × ST)
  | 0 => fun _ _ _ => none
  | n_10 + 1 => fun v3_10 v4_10 p0w_10 => (if v4_10 < 0 then some (v3_10, p0w_10) else ((fX5_learnPhi p0w_10 p0l p1n p1w p2 v4_10).bind fun (o_3 : Int32 × ST) => (if (o_3.1) = 0 then (if v3_10 = 0 then (fX5_learnBlock_J35 (fX5_learnBlock_L10 p0l p1n p1w p2 n_10) p1n p1w v4_10 o_3 0) else (fX5_learnBlock_J30 (fX5_learnBlock_L10 p0l p1n p1w p2 n_10) p1n p1w v4_10 o_3)) else (fX5_learnBlock_J30 (fX5_learnBlock_L10 p0l p1n p1w p2 n_10) p1n p1w v4_10 o_3))))
def fX5_learnBlock_J97 (kk56 : Int32 → Int32 → ST → Option (Int32 × ST)) (p1_2n : Nat → Nat) (p1_2w : ST) (v4_56 : Int32) (v3_97 : Int32) (p0w_97 : ST) : Option (Int32 × ST) := (if ixb v4_56 (p1_2n 6) = true then (kk56 v3_97 (p1_2w 6 (nn v4_56)) p0w_97) else none)
def fX5_learnBlock_J96 (kk56 : Int32 → Int32 → ST → Option (Int32 × ST)) (p1_2n : Nat → Nat) (p1_2w : ST) (v4_56 : Int32) (o_13 : Int32 × ST) (y0_96 : Int32) : Option (Int32 × ST) := (fX5_learnBlock_J97 kk56 p1_2n p1_2w v4_56 y0_96 (o_13.2))
def fX5_learnBlock_J91 (kk56 : Int32 → Int32 → ST → Option (Int32 × ST)) (p1_2n : Nat → Nat) (p1_2w : ST) (v4_56 : Int32) (o_13 : Int32 × ST) : Option (Int32 × ST) := (fX5_learnBlock_J96 kk56 p1_2n p1_2w v4_56 o_13 1)
def fX5_learnBlock_L56 (p1_2n : Nat → Nat) (p1_2w : ST) : Nat → Int32 → Int32 → ST → Option (Int32 × ST)
  | 0 => fun _ _ _ => none
  | n_56 + 1 => fun v3_56 v4_56 p0w_56 => (if v4_56 < 0 then some (v3_56, p0w_56) else (if ixb v4_56 (p1_2n 3) = true then (if (p1_2w 3 (nn v4_56)) < 0 then (fX5_learnBlock_J97 (fX5_learnBlock_L56 p1_2n p1_2w n_56) p1_2n p1_2w v4_56 v3_56 p0w_56) else ((fX5_learnStep p0w_56 p1_2n p1_2w v4_56).bind fun (o_13 : Int32 × ST) => (if (o_13.1) = 0 then (if v3_56 = 0 then (fX5_learnBlock_J96 (fX5_learnBlock_L56 p1_2n p1_2w n_56) p1_2n p1_2w v4_56 o_13 0) else (fX5_learnBlock_J91 (fX5_learnBlock_L56 p1_2n p1_2w n_56) p1_2n p1_2w v4_56 o_13)) else (fX5_learnBlock_J91 (fX5_learnBlock_L56 p1_2n p1_2w n_56) p1_2n p1_2w v4_56 o_13)))) else none))
def fX5_learnBlock_J219 (o56 : Int32 × ST) (p0l_200 : SL) (y0_219 : Int32) : Option (Int32 × ST × SL) := (if y0_219 = 0 ∨ y0_219 = 1 then some (y0_219, (o56.2), p0l_200) else none)
def fX5_learnBlock_J214 (o56 : Int32 × ST) (p0l_200 : SL) : Option (Int32 × ST × SL) := (fX5_learnBlock_J219 o56 p0l_200 1)
def fX5_learnBlock_J200 (p0l : SL) (o56 : Int32 × ST) (p0l_200 : SL) : Option (Int32 × ST × SL) := (if (o56.1) = 0 then (if (lg_cmp (p0l_200 0 7) (p0l 0 7)) = 0 then (fX5_learnBlock_J219 o56 p0l_200 0) else (fX5_learnBlock_J214 o56 p0l_200)) else (fX5_learnBlock_J214 o56 p0l_200))
def fX5_learnBlock_J159 (p0l : SL) (p1w : ST) (p2 : Int32) (o56 : Int32 × ST) (p0l_159 : SL) : Option (Int32 × ST × SL) := (if ixb p2 60 = true then (if (p1w 11 (nn p2)) < 0 then (fX5_learnBlock_J200 p0l o56 p0l_159) else (if ixb p2 60 = true then ((fX5_isWay (o56.2) p0l_159 p1w p2 (p1w 11 (nn p2))).bind fun (o_23 : Int32) => (if o_23 = 0 then (fX5_learnBlock_J200 p0l o56 p0l_159) else (if ixb p2 60 = true then (lt9 (upl p0l_159 0 7 ((p0l_159 0 7) ||| (((1 : Int64) <<< (((p1w 11 (nn p2)) : Int32).toInt64 &&& 63))))) fun (l27 : SL) => (fX5_learnBlock_J200 p0l o56 l27)) else none))) else none)) else none)
def fX5_learnBlock (p0w : ST) (p0l : SL) (p1n : Nat → Nat) (p1w : ST) (p2 : Int32) (p1_2n : Nat → Nat) (p1_2w : ST) : Option (Int32 × ST × SL) := (if ixb p2 60 = true then ((fX5_learnBlock_L10 p0l p1n p1w p2 NF 0 (p1w 6 (nn p2)) p0w).bind fun (o10 : Int32 × ST) => (if ixb p2 60 = true then ((fX5_learnBlock_L56 p1_2n p1_2w NF (o10.1) (p1w 4 (nn p2)) (o10.2)).bind fun (o56 : Int32 × ST) => (if ixb p2 60 = true then (if (p1w 10 (nn p2)) < 0 then (fX5_learnBlock_J159 p0l p1w p2 o56 p0l) else (if ixb p2 60 = true then ((fX5_isWay (o56.2) p0l p1w p2 (p1w 10 (nn p2))).bind fun (o_30 : Int32) => (if o_30 = 0 then (fX5_learnBlock_J159 p0l p1w p2 o56 p0l) else (if ixb p2 60 = true then (lt9 (upl p0l 0 7 ((p0l 0 7) ||| (((1 : Int64) <<< (((p1w 10 (nn p2)) : Int32).toInt64 &&& 63))))) fun (l34 : SL) => (fX5_learnBlock_J159 p0l p1w p2 o56 l34)) else none))) else none)) else none)) else none)) else none)
set_option maxHeartbeats 16000000 in
set_option maxRecDepth 100000 in
theorem kX5_learnBlock {zs : ZS} (l : Launch) (dC : Nat → ClassId) (dI : Nat → Nat → Nat) (p0a : Nat → Nat) (p0k : Nat → ClassId) (p0w : ST) (p0l : SL) (p1a : Nat → Nat) (p1k : Nat → ClassId) (p1n : Nat → Nat) (p1w : ST) (p1l : SL) (p2 : Int32) (p1_2a : Nat → Nat) (p1_2k : Nat → ClassId) (p1_2n : Nat → Nat) (p1_2w : ST) (sz : Nat) (o : Int32 × ST × SL) (hrun : fX5_learnBlock p0w p0l p1n p1w p2 p1_2n p1_2w = some o) : Met l yX5_learnBlock (wz yX5_learnBlock cX5_learnBlock 6 (Option.some Jvm.ClassFile.FieldType.boolean)) ({ frames := 3, cells := 0, slots := 0, locals := 73 } : Room) (va_Pc [.ref (p0a 0), .ref (p1a 0), .int p2] (PRE zs dC dI (List.flatten ([(oX5 (p0a 0) p0a p0k p0w p0l), (oX1 (p1a 0) p1a p1k p1n p1w p1l), (oX9 (p1a 3) p1_2a p1_2k p1_2n p1_2w)] : List va_W)) (List.flatten ([(tX5 p0k), (tX1 p1k), (tX9 p1_2k)] : List (List (ClassId × FieldType)))) sz)) (va_Qi (fun (r : Int32) (_ : Unit) => r = (o.1)) (fun _ t => POST dC dI (List.flatten ([(oX5 (p0a 0) p0a p0k (o.2.1) (o.2.2)), (oX1 (p1a 0) p1a p1k p1n p1w p1l), (oX9 (p1a 3) p1_2a p1_2k p1_2n p1_2w)] : List va_W)) (List.flatten ([(tX5 p0k), (tX1 p1k), (tX9 p1_2k)] : List (List (ClassId × FieldType)))) (va_A (List.flatten ([(oX5 (p0a 0) p0a p0k p0w p0l), (oX1 (p1a 0) p1a p1k p1n p1w p1l), (oX9 (p1a 3) p1_2a p1_2k p1_2n p1_2w)] : List va_W)) sz) t) (va_A (List.flatten ([(oX5 (p0a 0) p0a p0k p0w p0l), (oX1 (p1a 0) p1a p1k p1n p1w p1l), (oX9 (p1a 3) p1_2a p1_2k p1_2n p1_2w)] : List va_W)) sz)) 0 0 (va_A (List.flatten ([(oX5 (p0a 0) p0a p0k p0w p0l), (oX1 (p1a 0) p1a p1k p1n p1w p1l), (oX9 (p1a 3) p1_2a p1_2k p1_2n p1_2w)] : List va_W)) sz) := by
  refine Met.ofW (cc := cX5_learnBlock) (maxL := 6) (ret := (Option.some Jvm.ClassFile.FieldType.boolean)) (by decide) rfl ?_
  intro p e s m args below meth c s₁ B hml hv
  obtain ⟨rfl, hsz, hP, hK, hD0, hE⟩ := hv
  have hx := B.exec
  have hb := B.bytes
  have hr := B.returns
  have hts0 := atoms_spec (ws := wz yX5_learnBlock cX5_learnBlock 6 (Option.some Jvm.ClassFile.FieldType.boolean)) B.pre
  have hts : ∀ w ∈ gw, w.before _ s = true := fun w h => hts0 w (List.mem_cons_of_mem _ h)
  have hown : s.vm.findClass RX5 = some m.cls := findClass_of_methodNamed B.named
  have hlocks := B.notSynchronized
  subst hsz
  have hD := hD0.self (sz := s.heap.size)
  refine gQ9 ?_
  intro Q hQ
  generalize hAe : va_A (List.flatten ([(oX5 (p0a 0) p0a p0k p0w p0l), (oX1 (p1a 0) p1a p1k p1n p1w p1l), (oX9 (p1a 3) p1_2a p1_2k p1_2n p1_2w)] : List va_W)) s.heap.size = A at hD hE hQ
  have hA : ∀ q : Nat, s.heap.size ≤ q → A q := fun q h => by rw [← hAe]; exact Or.inr h
  have hS : va_S A s.heap s.heap [] := va_S.rf
  have hP : va_P (dC, dI) cls (List.flatten ([(oX5 (p0a 0) p0a p0k p0w p0l), (oX1 (p1a 0) p1a p1k p1n p1w p1l), (oX9 (p1a 3) p1_2a p1_2k p1_2n p1_2w)] : List va_W)) s.heap := hP
  have hl := lv_entry ([.ref (p0a 0), .ref (p1a 0), .int p2]) (n := 6) (Nat.le_of_ble_eq_true rfl)
  rw [lg_entry_eq]
  generalize (lg_sl ([.ref (p0a 0), .ref (p1a 0), .int p2]) ++ List.replicate (6 - (lg_sl ([.ref (p0a 0), .ref (p1a 0), .int p2])).length) Slot.unset).toArray = ls at hl ⊢
  have hl : lv_has ls 6 [(0, .ref (p0a 0)), (1, .ref (p1a 0)), (2, .int p2)] := hl
  obtain ⟨H, hHe⟩ : ∃ H, H = s.heap := ⟨_, rfl⟩
  obtain ⟨locs, hle⟩ : ∃ locs : List Loc, locs = [] := ⟨_, rfl⟩
  rw [← hHe] at hP
  have hS : va_S A s.heap H locs := by rw [hHe, hle]; exact hS
  show W p l e ({ frames := 3, cells := 0, slots := 0, locals := 73 } : Room) s m ([.ref (p0a 0), .ref (p1a 0), .int p2] : List Value).toArray below meth c s.heap [] 0 0 Q (F0 m 0 ls [])
  rw [← hle]
  refine wH9 hHe ?_
  unfold fX5_learnBlock at hrun
  refine lv_iconst (v := 0) hx hb dX5_learnBlock_0 (by decide) ?_
  refine lv_istore_n (lv' := [(3, .int 0), (0, .ref (p0a 0)), (1, .ref (p1a 0)), (2, .int p2)]) hx hb dX5_learnBlock_1 rfl hl (by decide) rfl (fun ls hl => ?_)
  refine lv_aload_n hx hb dX5_learnBlock_2 rfl (lv_at hl 2 rfl) ?_
  refine va_get (D := (dC, dI)) (ci := 4) (v := .ref (p1a 6)) (C := RX1) (T := TX1) (N := 21) hx hb hts i_X1 hown hK hP 10 rfl rfl 5 (by decide) (hts _ qw431) (fun _ h9 => h9) rfl dX5_learnBlock_3 ?_
  refine lv_iload_n hx hb dX5_learnBlock_6 rfl (lv_at hl 3 rfl) ?_
  obtain ⟨hq1, hrun⟩ := chk9 hrun
  refine va_iald hx hb hK hP 13 11 rfl rfl (ixb_in hq1) dX5_learnBlock_7 ?_
  refine lv_istore (lv' := [(4, .int (p1w 6 (nn p2))), (3, .int 0), (0, .ref (p0a 0)), (1, .ref (p1a 0)), (2, .int p2)]) hx hb dX5_learnBlock_8 hl (by decide) rfl (fun ls hl => ?_)
  have L10 : ∀ (n_10 : Nat) (v3_10 : Int32) (v4_10 : Int32) (p0w_10 : ST) (o10 : Int32 × ST) (H : Heap) (locs : List Loc) (ls : Array Slot), (fX5_learnBlock_L10 p0l p1n p1w p2 n_10) v3_10 v4_10 p0w_10 = some o10 → va_P (dC, dI) cls (List.flatten ([(oX5 (p0a 0) p0a p0k p0w_10 p0l), (oX1 (p1a 0) p1a p1k p1n p1w p1l), (oX9 (p1a 3) p1_2a p1_2k p1_2n p1_2w)] : List va_W)) H → va_D A (List.flatten ([(oX5 (p0a 0) p0a p0k p0w_10 p0l), (oX1 (p1a 0) p1a p1k p1n p1w p1l), (oX9 (p1a 3) p1_2a p1_2k p1_2n p1_2w)] : List va_W)) → va_K (dC, dI) cls (List.flatten ([(tX5 p0k), (tX1 p1k), (tX9 p1_2k)] : List (List (ClassId × FieldType)))) s → va_S A s.heap H locs → lv_has ls 6 [(0, .ref (p0a 0)), (1, .ref (p1a 0)), (2, .int p2), (3, .int v3_10), (4, .int v4_10)] → (∀ (H : Heap) (locs : List Loc) (ls : Array Slot), va_P (dC, dI) cls (List.flatten ([(oX5 (p0a 0) p0a p0k (o10.2) p0l), (oX1 (p1a 0) p1a p1k p1n p1w p1l), (oX9 (p1a 3) p1_2a p1_2k p1_2n p1_2w)] : List va_W)) H → va_D A (List.flatten ([(oX5 (p0a 0) p0a p0k (o10.2) p0l), (oX1 (p1a 0) p1a p1k p1n p1w p1l), (oX9 (p1a 3) p1_2a p1_2k p1_2n p1_2w)] : List va_W)) → va_K (dC, dI) cls (List.flatten ([(tX5 p0k), (tX1 p1k), (tX9 p1_2k)] : List (List (ClassId × FieldType)))) s → va_S A s.heap H locs → lv_has ls 6 [(0, .ref (p0a 0)), (1, .ref (p1a 0)), (2, .int p2), (3, .int (o10.1))] → W p l e ({ frames := 3, cells := 0, slots := 0, locals := 73 } : Room) s m ([.ref (p0a 0), .ref (p1a 0), .int p2] : List Value).toArray below meth c H locs 0 0 Q (F0 m 48 ls [])) → W p l e ({ frames := 3, cells := 0, slots := 0, locals := 73 } : Room) s m ([.ref (p0a 0), .ref (p1a 0), .int p2] : List Value).toArray below meth c H locs 0 0 Q (F0 m 10 ls []) := by
    intro n_10
    induction n_10 with
    | zero => intro v3_10 v4_10 p0w_10 o10 H locs ls hrun; exact (no9 rfl hrun).elim
    | succ n_10 IH10 =>
      intro v3_10 v4_10 p0w_10 o10 H locs ls hrun hP hD hK hS hl hk10
      unfold fX5_learnBlock_L10 at hrun
      refine lv_iload hx hb dX5_learnBlock_10 (lv_at hl 4 rfl) ?_
      rcases br9 hrun with ⟨hc2, hrun⟩ | ⟨hc2, hrun⟩
      · refine lv_if_lt (tgt := 48) hx hb dX5_learnBlock_12 (by decide) (fun _ => ?_) (fun c => absurd hc2 c)
        obtain rfl := (Option.some.inj hrun)
        exact hk10 _ _ _ hP hD hK hS (lv_sub hl [0, 1, 2, 3] rfl)
      · refine lv_if_lt (tgt := 48) hx hb dX5_learnBlock_12 (by decide) (fun c => absurd c hc2) (fun _ => ?_)
        refine lv_aload_n hx hb dX5_learnBlock_15 rfl (lv_at hl 0 rfl) ?_
        refine lv_aload_n hx hb dX5_learnBlock_16 rfl (lv_at hl 1 rfl) ?_
        refine lv_iload_n hx hb dX5_learnBlock_17 rfl (lv_at hl 2 rfl) ?_
        refine lv_iload hx hb dX5_learnBlock_18 (lv_at hl 4 rfl) ?_
        obtain ⟨o_3, hc_3, hrun⟩ := bnd9 hrun
        have hPx : va_P (dC, dI) cls ((List.flatten ([(oX5 (p0a 0) p0a p0k p0w_10 p0l), (oX1 (p1a 0) p1a p1k p1n p1w p1l)] : List va_W)) ++ (List.flatten ([(oX9 (p1a 3) p1_2a p1_2k p1_2n p1_2w)] : List va_W))) H := vP_fa (vP_perm hP (bP (List.Perm.refl _)))
        have hDx : va_D A ((List.flatten ([(oX5 (p0a 0) p0a p0k p0w_10 p0l), (oX1 (p1a 0) p1a p1k p1n p1w p1l)] : List va_W)) ++ (List.flatten ([(oX9 (p1a 3) p1_2a p1_2k p1_2n p1_2w)] : List va_W))) := vD_fa (vD_perm hD (bP (List.Perm.refl _)))
        have hKx : va_K (dC, dI) cls ((List.flatten ([(tX5 p0k), (tX1 p1k)] : List (List (ClassId × FieldType)))) ++ (List.flatten ([(tX9 p1_2k)] : List (List (ClassId × FieldType))))) s := vK_fa (vK_perm hK (bP (List.Perm.refl _)))
        have hPc := vP_l hPx
        have hDc := vD_l hDx
        have hKc := vK_l hKx
        have hFc := vfree hDx hS hA
        refine va_calli (va_runV (As := [.ref (p1a 0), .int p2, .int v4_10]) (rest := []) ⟨hx, hb, hml, hown, hts⟩ (kX5_learnPhi l dC dI (p0a := p0a) (p0k := p0k) (p0w := p0w_10) (p0l := p0l) (p1a := p1a) (p1k := p1k) (p1n := p1n) (p1w := p1w) (p1l := p1l) (p2 := p2) (p3 := v4_10) (sz := _) (o := o_3) (hrun := hc_3)) (cwV 3 hts (gi_V qw514 qw515 qw516 qw442 (gi_z qw513)) rfl rfl rfl (by decide +kernel) ⟨Nat.le_of_ble_eq_true rfl, Nat.le_of_ble_eq_true rfl⟩) ⟨PRE.blind, va_recv hKc hPc (ci := 7) (q0 := 0) rfl rfl, PRE.of hE hS hFc hPc hKc hDc⟩ rfl rfl hl.1 rfl (lv_room (Nat.le_of_ble_eq_true rfl)) dX5_learnBlock_20 ⟨(Nat.le_of_ble_eq_true rfl), (Nat.le_of_ble_eq_true rfl)⟩) hS (fun q _ h => hFc q h) hFc (fun r4 u t H locs ht hvm hw hB hz1 hk1 hS => ?_)
        obtain ⟨b1, b2, b3⟩ := hB
        rw [ht] at b1
        obtain ⟨hP, hD, hK⟩ := JOINC (wc := (List.flatten ([(oX5 (p0a 0) p0a p0k p0w_10 p0l), (oX1 (p1a 0) p1a p1k p1n p1w p1l)] : List va_W))) (wr := (List.flatten ([(oX9 (p1a 3) p1_2a p1_2k p1_2n p1_2w)] : List va_W))) (w1 := (List.flatten ([(oX5 (p0a 0) p0a p0k (o_3.2) p0l), (oX1 (p1a 0) p1a p1k p1n p1w p1l)] : List va_W))) (t1 := (List.flatten ([(tX5 p0k), (tX1 p1k)] : List (List (ClassId × FieldType))))) hPx hDx hKx hk1 hFc b1 (va_K.moved hvm.symm b2) b3
        have hP : va_P (dC, dI) cls (List.flatten ([(oX5 (p0a 0) p0a p0k (o_3.2) p0l), (oX1 (p1a 0) p1a p1k p1n p1w p1l), (oX9 (p1a 3) p1_2a p1_2k p1_2n p1_2w)] : List va_W)) H := vP_perm (vP_fb hP) (bP (List.Perm.refl _))
        have hD : va_D A (List.flatten ([(oX5 (p0a 0) p0a p0k (o_3.2) p0l), (oX1 (p1a 0) p1a p1k p1n p1w p1l), (oX9 (p1a 3) p1_2a p1_2k p1_2n p1_2w)] : List va_W)) := vD_perm (vD_fb hD) (bP (List.Perm.refl _))
        have hK : va_K (dC, dI) cls (List.flatten ([(tX5 p0k), (tX1 p1k), (tX9 p1_2k)] : List (List (ClassId × FieldType)))) s := vK_perm (vK_fb hK) (bP (List.Perm.refl _))
        obtain rfl : r4 = (o_3.1) := hw
        have J35 : ∀ (y0_35 : Int32) (H : Heap) (locs : List Loc) (ls : Array Slot), (fX5_learnBlock_J35 (fX5_learnBlock_L10 p0l p1n p1w p2 n_10) p1n p1w v4_10 o_3 y0_35) = some o10 → va_P (dC, dI) cls (List.flatten ([(oX5 (p0a 0) p0a p0k (o_3.2) p0l), (oX1 (p1a 0) p1a p1k p1n p1w p1l), (oX9 (p1a 3) p1_2a p1_2k p1_2n p1_2w)] : List va_W)) H → va_D A (List.flatten ([(oX5 (p0a 0) p0a p0k (o_3.2) p0l), (oX1 (p1a 0) p1a p1k p1n p1w p1l), (oX9 (p1a 3) p1_2a p1_2k p1_2n p1_2w)] : List va_W)) → va_K (dC, dI) cls (List.flatten ([(tX5 p0k), (tX1 p1k), (tX9 p1_2k)] : List (List (ClassId × FieldType)))) s → va_S A s.heap H locs → lv_has ls 6 [(0, .ref (p0a 0)), (1, .ref (p1a 0)), (2, .int p2), (4, .int v4_10)] → W p l e ({ frames := 3, cells := 0, slots := 0, locals := 73 } : Room) s m ([.ref (p0a 0), .ref (p1a 0), .int p2] : List Value).toArray below meth c H locs 0 0 Q (F0 m 35 ls [.int y0_35]) := by
          intro y0_35 H locs ls hrun hP hD hK hS hl 
          unfold fX5_learnBlock_J35 at hrun
          refine lv_istore_n (lv' := [(3, .int y0_35), (0, .ref (p0a 0)), (1, .ref (p1a 0)), (2, .int p2), (4, .int v4_10)]) hx hb dX5_learnBlock_35 rfl hl (by decide) rfl (fun ls hl => ?_)
          refine lv_aload_n hx hb dX5_learnBlock_36 rfl (lv_at hl 2 rfl) ?_
          refine va_get (D := (dC, dI)) (ci := 4) (v := .ref (p1a 20)) (C := RX1) (T := TX1) (N := 21) hx hb hts i_X1 hown hK hP 10 rfl rfl 19 (by decide) (hts _ qw433) (fun _ h9 => h9) rfl dX5_learnBlock_37 ?_
          refine lv_iload hx hb dX5_learnBlock_40 (lv_at hl 4 rfl) ?_
          obtain ⟨hq5, hrun⟩ := chk9 hrun
          refine va_iald hx hb hK hP 26 24 rfl rfl (ixb_in hq5) dX5_learnBlock_42 ?_
          refine lv_istore (lv' := [(4, .int (p1w 20 (nn v4_10))), (3, .int y0_35), (0, .ref (p0a 0)), (1, .ref (p1a 0)), (2, .int p2)]) hx hb dX5_learnBlock_43 hl (by decide) rfl (fun ls hl => ?_)
          refine lv_goto (tgt := 10) hx hb dX5_learnBlock_45 (by decide) ?_
          exact IH10 y0_35 (p1w 20 (nn v4_10)) (o_3.2) o10 _ _ _ hrun hP hD hK hS (lv_sub hl [2, 3, 4, 1, 0] rfl) hk10
        have J30 : ∀ (H : Heap) (locs : List Loc) (ls : Array Slot), (fX5_learnBlock_J30 (fX5_learnBlock_L10 p0l p1n p1w p2 n_10) p1n p1w v4_10 o_3) = some o10 → va_P (dC, dI) cls (List.flatten ([(oX5 (p0a 0) p0a p0k (o_3.2) p0l), (oX1 (p1a 0) p1a p1k p1n p1w p1l), (oX9 (p1a 3) p1_2a p1_2k p1_2n p1_2w)] : List va_W)) H → va_D A (List.flatten ([(oX5 (p0a 0) p0a p0k (o_3.2) p0l), (oX1 (p1a 0) p1a p1k p1n p1w p1l), (oX9 (p1a 3) p1_2a p1_2k p1_2n p1_2w)] : List va_W)) → va_K (dC, dI) cls (List.flatten ([(tX5 p0k), (tX1 p1k), (tX9 p1_2k)] : List (List (ClassId × FieldType)))) s → va_S A s.heap H locs → lv_has ls 6 [(0, .ref (p0a 0)), (1, .ref (p1a 0)), (2, .int p2), (4, .int v4_10)] → W p l e ({ frames := 3, cells := 0, slots := 0, locals := 73 } : Room) s m ([.ref (p0a 0), .ref (p1a 0), .int p2] : List Value).toArray below meth c H locs 0 0 Q (F0 m 30 ls []) := by
          intro  H locs ls hrun hP hD hK hS hl 
          unfold fX5_learnBlock_J30 at hrun
          refine lv_iconst (v := 1) hx hb dX5_learnBlock_30 (by decide) ?_
          refine lv_goto (tgt := 35) hx hb dX5_learnBlock_31 (by decide) ?_
          exact J35 1 _ _ _ hrun hP hD hK hS (lv_sub hl [0, 1, 2, 3] rfl)
        rcases br9 hrun with ⟨hc6, hrun⟩ | ⟨hc6, hrun⟩
        · refine lv_if_ne (tgt := 30) hx hb dX5_learnBlock_23 (by decide) (fun c => absurd hc6 c) (fun _ => ?_)
          refine lv_iload_n hx hb dX5_learnBlock_26 rfl (lv_at hl 3 rfl) ?_
          rcases br9 hrun with ⟨hc7, hrun⟩ | ⟨hc7, hrun⟩
          · refine lv_if_eq (tgt := 34) hx hb dX5_learnBlock_27 (by decide) (fun _ => ?_) (fun c => absurd hc7 c)
            refine lv_iconst (v := 0) hx hb dX5_learnBlock_34 (by decide) ?_
            exact J35 0 _ _ _ hrun hP hD hK hS (lv_sub hl [0, 1, 2, 4] rfl)
          · refine lv_if_eq (tgt := 34) hx hb dX5_learnBlock_27 (by decide) (fun c => absurd c hc7) (fun _ => ?_)
            exact J30 _ _ _ hrun hP hD hK hS (lv_sub hl [0, 1, 2, 4] rfl)
        · refine lv_if_ne (tgt := 30) hx hb dX5_learnBlock_23 (by decide) (fun _ => ?_) (fun c => absurd c hc6)
          exact J30 _ _ _ hrun hP hD hK hS (lv_sub hl [0, 1, 2, 4] rfl)
  obtain ⟨o10, hc10, hrun⟩ := bnd9 hrun
  refine L10 NF 0 (p1w 6 (nn p2)) p0w o10 _ _ _ hc10 hP hD hK hS (lv_sub hl [2, 3, 4, 1, 0] rfl) ?_
  intro H locs ls hP hD hK hS hl
  have hl := hl
  refine lv_aload_n hx hb dX5_learnBlock_48 rfl (lv_at hl 1 rfl) ?_
  refine va_get (D := (dC, dI)) (ci := 4) (v := .ref (p1a 4)) (C := RX1) (T := TX1) (N := 21) hx hb hts i_X1 hown hK hP 10 rfl rfl 3 (by decide) (hts _ qw434) (fun _ h9 => h9) rfl dX5_learnBlock_49 ?_
  refine lv_iload_n hx hb dX5_learnBlock_52 rfl (lv_at hl 2 rfl) ?_
  obtain ⟨hq8, hrun⟩ := chk9 hrun
  refine va_iald hx hb hK hP 11 9 rfl rfl (ixb_in hq8) dX5_learnBlock_53 ?_
  refine lv_istore (lv' := [(4, .int (p1w 4 (nn p2))), (0, .ref (p0a 0)), (1, .ref (p1a 0)), (2, .int p2), (3, .int (o10.1))]) hx hb dX5_learnBlock_54 hl (by decide) rfl (fun ls hl => ?_)
  have L56 : ∀ (n_56 : Nat) (v3_56 : Int32) (v4_56 : Int32) (p0w_56 : ST) (o56 : Int32 × ST) (H : Heap) (locs : List Loc) (ls : Array Slot), (fX5_learnBlock_L56 p1_2n p1_2w n_56) v3_56 v4_56 p0w_56 = some o56 → va_P (dC, dI) cls (List.flatten ([(oX5 (p0a 0) p0a p0k p0w_56 p0l), (oX1 (p1a 0) p1a p1k p1n p1w p1l), (oX9 (p1a 3) p1_2a p1_2k p1_2n p1_2w)] : List va_W)) H → va_D A (List.flatten ([(oX5 (p0a 0) p0a p0k p0w_56 p0l), (oX1 (p1a 0) p1a p1k p1n p1w p1l), (oX9 (p1a 3) p1_2a p1_2k p1_2n p1_2w)] : List va_W)) → va_K (dC, dI) cls (List.flatten ([(tX5 p0k), (tX1 p1k), (tX9 p1_2k)] : List (List (ClassId × FieldType)))) s → va_S A s.heap H locs → lv_has ls 6 [(0, .ref (p0a 0)), (1, .ref (p1a 0)), (2, .int p2), (3, .int v3_56), (4, .int v4_56)] → (∀ (H : Heap) (locs : List Loc) (ls : Array Slot), va_P (dC, dI) cls (List.flatten ([(oX5 (p0a 0) p0a p0k (o56.2) p0l), (oX1 (p1a 0) p1a p1k p1n p1w p1l), (oX9 (p1a 3) p1_2a p1_2k p1_2n p1_2w)] : List va_W)) H → va_D A (List.flatten ([(oX5 (p0a 0) p0a p0k (o56.2) p0l), (oX1 (p1a 0) p1a p1k p1n p1w p1l), (oX9 (p1a 3) p1_2a p1_2k p1_2n p1_2w)] : List va_W)) → va_K (dC, dI) cls (List.flatten ([(tX5 p0k), (tX1 p1k), (tX9 p1_2k)] : List (List (ClassId × FieldType)))) s → va_S A s.heap H locs → lv_has ls 6 [(0, .ref (p0a 0)), (1, .ref (p1a 0)), (2, .int p2), (3, .int (o56.1))] → W p l e ({ frames := 3, cells := 0, slots := 0, locals := 73 } : Room) s m ([.ref (p0a 0), .ref (p1a 0), .int p2] : List Value).toArray below meth c H locs 0 0 Q (F0 m 112 ls [])) → W p l e ({ frames := 3, cells := 0, slots := 0, locals := 73 } : Room) s m ([.ref (p0a 0), .ref (p1a 0), .int p2] : List Value).toArray below meth c H locs 0 0 Q (F0 m 56 ls []) := by
    intro n_56
    induction n_56 with
    | zero => intro v3_56 v4_56 p0w_56 o56 H locs ls hrun; exact (no9 rfl hrun).elim
    | succ n_56 IH56 =>
      intro v3_56 v4_56 p0w_56 o56 H locs ls hrun hP hD hK hS hl hk56
      unfold fX5_learnBlock_L56 at hrun
      refine lv_iload hx hb dX5_learnBlock_56 (lv_at hl 4 rfl) ?_
      rcases br9 hrun with ⟨hc9, hrun⟩ | ⟨hc9, hrun⟩
      · refine lv_if_lt (tgt := 112) hx hb dX5_learnBlock_58 (by decide) (fun _ => ?_) (fun c => absurd hc9 c)
        obtain rfl := (Option.some.inj hrun)
        exact hk56 _ _ _ hP hD hK hS (lv_sub hl [0, 1, 2, 3] rfl)
      · refine lv_if_lt (tgt := 112) hx hb dX5_learnBlock_58 (by decide) (fun c => absurd c hc9) (fun _ => ?_)
        refine lv_aload_n hx hb dX5_learnBlock_61 rfl (lv_at hl 1 rfl) ?_
        refine va_get (D := (dC, dI)) (ci := 4) (v := .ref (p1a 3)) (C := RX1) (T := TX1) (N := 21) hx hb hts i_X1 hown hK hP 10 rfl rfl 2 (by decide) (hts _ qw435) (fun _ h9 => h9) rfl dX5_learnBlock_62 ?_
        refine va_get (D := (dC, dI)) (ci := 3) (v := .ref (p1_2a 3)) (C := RX9) (T := TX9) (N := 6) hx hb hts i_X9 hown hK hP 28 rfl rfl 2 (by decide) (hts _ qw436) (fun _ h9 => h9) rfl dX5_learnBlock_65 ?_
        refine lv_iload hx hb dX5_learnBlock_68 (lv_at hl 4 rfl) ?_
        obtain ⟨hq10, hrun⟩ := chk9 hrun
        refine va_iald hx hb hK hP 30 27 rfl rfl (ixb_in hq10) dX5_learnBlock_70 ?_
        have J97 : ∀ (v3_97 : Int32) (p0w_97 : ST) (H : Heap) (locs : List Loc) (ls : Array Slot), (fX5_learnBlock_J97 (fX5_learnBlock_L56 p1_2n p1_2w n_56) p1_2n p1_2w v4_56 v3_97 p0w_97) = some o56 → va_P (dC, dI) cls (List.flatten ([(oX5 (p0a 0) p0a p0k p0w_97 p0l), (oX1 (p1a 0) p1a p1k p1n p1w p1l), (oX9 (p1a 3) p1_2a p1_2k p1_2n p1_2w)] : List va_W)) H → va_D A (List.flatten ([(oX5 (p0a 0) p0a p0k p0w_97 p0l), (oX1 (p1a 0) p1a p1k p1n p1w p1l), (oX9 (p1a 3) p1_2a p1_2k p1_2n p1_2w)] : List va_W)) → va_K (dC, dI) cls (List.flatten ([(tX5 p0k), (tX1 p1k), (tX9 p1_2k)] : List (List (ClassId × FieldType)))) s → va_S A s.heap H locs → lv_has ls 6 [(0, .ref (p0a 0)), (1, .ref (p1a 0)), (2, .int p2), (3, .int v3_97), (4, .int v4_56)] → W p l e ({ frames := 3, cells := 0, slots := 0, locals := 73 } : Room) s m ([.ref (p0a 0), .ref (p1a 0), .int p2] : List Value).toArray below meth c H locs 0 0 Q (F0 m 97 ls []) := by
          intro v3_97 p0w_97 H locs ls hrun hP hD hK hS hl 
          unfold fX5_learnBlock_J97 at hrun
          refine lv_aload_n hx hb dX5_learnBlock_97 rfl (lv_at hl 1 rfl) ?_
          refine va_get (D := (dC, dI)) (ci := 4) (v := .ref (p1a 3)) (C := RX1) (T := TX1) (N := 21) hx hb hts i_X1 hown hK hP 10 rfl rfl 2 (by decide) (hts _ qw435) (fun _ h9 => h9) rfl dX5_learnBlock_98 ?_
          refine va_get (D := (dC, dI)) (ci := 3) (v := .ref (p1_2a 6)) (C := RX9) (T := TX9) (N := 6) hx hb hts i_X9 hown hK hP 28 rfl rfl 5 (by decide) (hts _ qw437) (fun _ h9 => h9) rfl dX5_learnBlock_101 ?_
          refine lv_iload hx hb dX5_learnBlock_104 (lv_at hl 4 rfl) ?_
          obtain ⟨hq11, hrun⟩ := chk9 hrun
          refine va_iald hx hb hK hP 33 30 rfl rfl (ixb_in hq11) dX5_learnBlock_106 ?_
          refine lv_istore (lv' := [(4, .int (p1_2w 6 (nn v4_56))), (0, .ref (p0a 0)), (1, .ref (p1a 0)), (2, .int p2), (3, .int v3_97)]) hx hb dX5_learnBlock_107 hl (by decide) rfl (fun ls hl => ?_)
          refine lv_goto (tgt := 56) hx hb dX5_learnBlock_109 (by decide) ?_
          exact IH56 v3_97 (p1_2w 6 (nn v4_56)) p0w_97 o56 _ _ _ hrun hP hD hK hS (lv_sub hl [1, 2, 3, 4, 0] rfl) hk56
        rcases br9 hrun with ⟨hc12, hrun⟩ | ⟨hc12, hrun⟩
        · refine lv_if_lt (tgt := 97) hx hb dX5_learnBlock_71 (by decide) (fun _ => ?_) (fun c => absurd hc12 c)
          exact J97 v3_56 p0w_56 _ _ _ hrun hP hD hK hS (lv_sub hl [0, 1, 2, 3, 4] rfl)
        · refine lv_if_lt (tgt := 97) hx hb dX5_learnBlock_71 (by decide) (fun c => absurd c hc12) (fun _ => ?_)
          refine lv_aload_n hx hb dX5_learnBlock_74 rfl (lv_at hl 0 rfl) ?_
          refine lv_aload_n hx hb dX5_learnBlock_75 rfl (lv_at hl 1 rfl) ?_
          refine va_get (D := (dC, dI)) (ci := 4) (v := .ref (p1a 3)) (C := RX1) (T := TX1) (N := 21) hx hb hts i_X1 hown hK hP 10 rfl rfl 2 (by decide) (hts _ qw435) (fun _ h9 => h9) rfl dX5_learnBlock_76 ?_
          refine lv_iload hx hb dX5_learnBlock_79 (lv_at hl 4 rfl) ?_
          obtain ⟨o_13, hc_13, hrun⟩ := bnd9 hrun
          have hPx : va_P (dC, dI) cls ((List.flatten ([(oX5 (p0a 0) p0a p0k p0w_56 p0l), (oX9 (p1a 3) p1_2a p1_2k p1_2n p1_2w)] : List va_W)) ++ (List.flatten ([(oX1 (p1a 0) p1a p1k p1n p1w p1l)] : List va_W))) H := vP_fa (vP_perm hP (bP (((List.Perm.refl _)).trans ((((((List.Perm.refl _)).cons _).trans (List.Perm.swap _ _ _))).cons _))))
          have hDx : va_D A ((List.flatten ([(oX5 (p0a 0) p0a p0k p0w_56 p0l), (oX9 (p1a 3) p1_2a p1_2k p1_2n p1_2w)] : List va_W)) ++ (List.flatten ([(oX1 (p1a 0) p1a p1k p1n p1w p1l)] : List va_W))) := vD_fa (vD_perm hD (bP (((List.Perm.refl _)).trans ((((((List.Perm.refl _)).cons _).trans (List.Perm.swap _ _ _))).cons _))))
          have hKx : va_K (dC, dI) cls ((List.flatten ([(tX5 p0k), (tX9 p1_2k)] : List (List (ClassId × FieldType)))) ++ (List.flatten ([(tX1 p1k)] : List (List (ClassId × FieldType))))) s := vK_fa (vK_perm hK (bP (((List.Perm.refl _)).trans ((((((List.Perm.refl _)).cons _).trans (List.Perm.swap _ _ _))).cons _))))
          have hPc := vP_l hPx
          have hDc := vD_l hDx
          have hKc := vK_l hKx
          have hFc := vfree hDx hS hA
          refine va_calli (va_runV (As := [.ref (p1a 3), .int v4_56]) (rest := []) ⟨hx, hb, hml, hown, hts⟩ (kX5_learnStep l dC dI (p0a := p0a) (p0k := p0k) (p0w := p0w_56) (p0l := p0l) (p1a := (st0 (p1a 3) p1_2a)) (p1k := p1_2k) (p1n := p1_2n) (p1w := p1_2w) (p2 := v4_56) (sz := _) (o := o_13) (hrun := hc_13)) (cwV 2 hts (gi_V qw522 qw523 qw524 qw442 (gi_z qw521)) rfl rfl rfl (by decide +kernel) ⟨Nat.le_of_ble_eq_true rfl, Nat.le_of_ble_eq_true rfl⟩) ⟨PRE.blind, va_recv hKc hPc (ci := 7) (q0 := 0) rfl rfl, PRE.of hE hS hFc hPc hKc hDc⟩ rfl rfl hl.1 rfl (lv_room (Nat.le_of_ble_eq_true rfl)) dX5_learnBlock_81 ⟨(Nat.le_of_ble_eq_true rfl), (Nat.le_of_ble_eq_true rfl)⟩) hS (fun q _ h => hFc q h) hFc (fun r14 u t H locs ht hvm hw hB hz1 hk1 hS => ?_)
          obtain ⟨b1, b2, b3⟩ := hB
          rw [ht] at b1
          obtain ⟨hP, hD, hK⟩ := JOINC (wc := (List.flatten ([(oX5 (p0a 0) p0a p0k p0w_56 p0l), (oX9 (p1a 3) p1_2a p1_2k p1_2n p1_2w)] : List va_W))) (wr := (List.flatten ([(oX1 (p1a 0) p1a p1k p1n p1w p1l)] : List va_W))) (w1 := (List.flatten ([(oX5 (p0a 0) p0a p0k (o_13.2) p0l), (oX9 (p1a 3) p1_2a p1_2k p1_2n p1_2w)] : List va_W))) (t1 := (List.flatten ([(tX5 p0k), (tX9 p1_2k)] : List (List (ClassId × FieldType))))) hPx hDx hKx hk1 hFc b1 (va_K.moved hvm.symm b2) b3
          have hP : va_P (dC, dI) cls (List.flatten ([(oX5 (p0a 0) p0a p0k (o_13.2) p0l), (oX1 (p1a 0) p1a p1k p1n p1w p1l), (oX9 (p1a 3) p1_2a p1_2k p1_2n p1_2w)] : List va_W)) H := vP_perm (vP_fb hP) (bP (((List.Perm.refl _)).trans ((((((List.Perm.refl _)).cons _).trans (List.Perm.swap _ _ _))).cons _)))
          have hD : va_D A (List.flatten ([(oX5 (p0a 0) p0a p0k (o_13.2) p0l), (oX1 (p1a 0) p1a p1k p1n p1w p1l), (oX9 (p1a 3) p1_2a p1_2k p1_2n p1_2w)] : List va_W)) := vD_perm (vD_fb hD) (bP (((List.Perm.refl _)).trans ((((((List.Perm.refl _)).cons _).trans (List.Perm.swap _ _ _))).cons _)))
          have hK : va_K (dC, dI) cls (List.flatten ([(tX5 p0k), (tX1 p1k), (tX9 p1_2k)] : List (List (ClassId × FieldType)))) s := vK_perm (vK_fb hK) (bP (((List.Perm.refl _)).trans ((((((List.Perm.refl _)).cons _).trans (List.Perm.swap _ _ _))).cons _)))
          obtain rfl : r14 = (o_13.1) := hw
          have J96 : ∀ (y0_96 : Int32) (H : Heap) (locs : List Loc) (ls : Array Slot), (fX5_learnBlock_J96 (fX5_learnBlock_L56 p1_2n p1_2w n_56) p1_2n p1_2w v4_56 o_13 y0_96) = some o56 → va_P (dC, dI) cls (List.flatten ([(oX5 (p0a 0) p0a p0k (o_13.2) p0l), (oX1 (p1a 0) p1a p1k p1n p1w p1l), (oX9 (p1a 3) p1_2a p1_2k p1_2n p1_2w)] : List va_W)) H → va_D A (List.flatten ([(oX5 (p0a 0) p0a p0k (o_13.2) p0l), (oX1 (p1a 0) p1a p1k p1n p1w p1l), (oX9 (p1a 3) p1_2a p1_2k p1_2n p1_2w)] : List va_W)) → va_K (dC, dI) cls (List.flatten ([(tX5 p0k), (tX1 p1k), (tX9 p1_2k)] : List (List (ClassId × FieldType)))) s → va_S A s.heap H locs → lv_has ls 6 [(0, .ref (p0a 0)), (1, .ref (p1a 0)), (2, .int p2), (4, .int v4_56)] → W p l e ({ frames := 3, cells := 0, slots := 0, locals := 73 } : Room) s m ([.ref (p0a 0), .ref (p1a 0), .int p2] : List Value).toArray below meth c H locs 0 0 Q (F0 m 96 ls [.int y0_96]) := by
            intro y0_96 H locs ls hrun hP hD hK hS hl 
            unfold fX5_learnBlock_J96 at hrun
            refine lv_istore_n (lv' := [(3, .int y0_96), (0, .ref (p0a 0)), (1, .ref (p1a 0)), (2, .int p2), (4, .int v4_56)]) hx hb dX5_learnBlock_96 rfl hl (by decide) rfl (fun ls hl => ?_)
            exact J97 y0_96 (o_13.2) _ _ _ hrun hP hD hK hS (lv_sub hl [1, 2, 3, 0, 4] rfl)
          have J91 : ∀ (H : Heap) (locs : List Loc) (ls : Array Slot), (fX5_learnBlock_J91 (fX5_learnBlock_L56 p1_2n p1_2w n_56) p1_2n p1_2w v4_56 o_13) = some o56 → va_P (dC, dI) cls (List.flatten ([(oX5 (p0a 0) p0a p0k (o_13.2) p0l), (oX1 (p1a 0) p1a p1k p1n p1w p1l), (oX9 (p1a 3) p1_2a p1_2k p1_2n p1_2w)] : List va_W)) H → va_D A (List.flatten ([(oX5 (p0a 0) p0a p0k (o_13.2) p0l), (oX1 (p1a 0) p1a p1k p1n p1w p1l), (oX9 (p1a 3) p1_2a p1_2k p1_2n p1_2w)] : List va_W)) → va_K (dC, dI) cls (List.flatten ([(tX5 p0k), (tX1 p1k), (tX9 p1_2k)] : List (List (ClassId × FieldType)))) s → va_S A s.heap H locs → lv_has ls 6 [(0, .ref (p0a 0)), (1, .ref (p1a 0)), (2, .int p2), (4, .int v4_56)] → W p l e ({ frames := 3, cells := 0, slots := 0, locals := 73 } : Room) s m ([.ref (p0a 0), .ref (p1a 0), .int p2] : List Value).toArray below meth c H locs 0 0 Q (F0 m 91 ls []) := by
            intro  H locs ls hrun hP hD hK hS hl 
            unfold fX5_learnBlock_J91 at hrun
            refine lv_iconst (v := 1) hx hb dX5_learnBlock_91 (by decide) ?_
            refine lv_goto (tgt := 96) hx hb dX5_learnBlock_92 (by decide) ?_
            exact J96 1 _ _ _ hrun hP hD hK hS (lv_sub hl [0, 1, 2, 3] rfl)
          rcases br9 hrun with ⟨hc15, hrun⟩ | ⟨hc15, hrun⟩
          · refine lv_if_ne (tgt := 91) hx hb dX5_learnBlock_84 (by decide) (fun c => absurd hc15 c) (fun _ => ?_)
            refine lv_iload_n hx hb dX5_learnBlock_87 rfl (lv_at hl 3 rfl) ?_
            rcases br9 hrun with ⟨hc16, hrun⟩ | ⟨hc16, hrun⟩
            · refine lv_if_eq (tgt := 95) hx hb dX5_learnBlock_88 (by decide) (fun _ => ?_) (fun c => absurd hc16 c)
              refine lv_iconst (v := 0) hx hb dX5_learnBlock_95 (by decide) ?_
              exact J96 0 _ _ _ hrun hP hD hK hS (lv_sub hl [0, 1, 2, 4] rfl)
            · refine lv_if_eq (tgt := 95) hx hb dX5_learnBlock_88 (by decide) (fun c => absurd c hc16) (fun _ => ?_)
              exact J91 _ _ _ hrun hP hD hK hS (lv_sub hl [0, 1, 2, 4] rfl)
          · refine lv_if_ne (tgt := 91) hx hb dX5_learnBlock_84 (by decide) (fun _ => ?_) (fun c => absurd c hc15)
            exact J91 _ _ _ hrun hP hD hK hS (lv_sub hl [0, 1, 2, 4] rfl)
  obtain ⟨o56, hc56, hrun⟩ := bnd9 hrun
  refine L56 NF (o10.1) (p1w 4 (nn p2)) (o10.2) o56 _ _ _ hc56 hP hD hK hS (lv_sub hl [1, 2, 3, 4, 0] rfl) ?_
  intro H locs ls hP hD hK hS hl
  have hl := hl
  refine lv_aload_n hx hb dX5_learnBlock_112 rfl (lv_at hl 0 rfl) ?_
  refine va_get (D := (dC, dI)) (ci := 7) (v := .long (p0l 0 7)) (C := RX5) (T := TX5) (N := 12) hx hb hts i_X5 hown hK hP 0 rfl rfl 7 (by decide) (hts _ qw504) (fun _ h9 => h9) rfl dX5_learnBlock_113 ?_
  refine lv_lstore (lv' := [(4, .long (p0l 0 7)), (0, .ref (p0a 0)), (1, .ref (p1a 0)), (2, .int p2), (3, .int (o56.1))]) hx hb dX5_learnBlock_116 hl (by decide) rfl (fun ls hl => ?_)
  refine lv_aload_n hx hb dX5_learnBlock_118 rfl (lv_at hl 2 rfl) ?_
  refine va_get (D := (dC, dI)) (ci := 4) (v := .ref (p1a 10)) (C := RX1) (T := TX1) (N := 21) hx hb hts i_X1 hown hK hP 10 rfl rfl 9 (by decide) (hts _ qw498) (fun _ h9 => h9) rfl dX5_learnBlock_119 ?_
  refine lv_iload_n hx hb dX5_learnBlock_122 rfl (lv_at hl 3 rfl) ?_
  obtain ⟨hq17, hrun⟩ := chk9 hrun
  refine va_iald hx hb hK hP 17 15 rfl rfl (ixb_in hq17) dX5_learnBlock_123 ?_
  have J159 : ∀ (p0l_159 : SL) (H : Heap) (locs : List Loc) (ls : Array Slot), (fX5_learnBlock_J159 p0l p1w p2 o56 p0l_159) = some o → va_P (dC, dI) cls (List.flatten ([(oX5 (p0a 0) p0a p0k (o56.2) p0l_159), (oX1 (p1a 0) p1a p1k p1n p1w p1l), (oX9 (p1a 3) p1_2a p1_2k p1_2n p1_2w)] : List va_W)) H → va_D A (List.flatten ([(oX5 (p0a 0) p0a p0k (o56.2) p0l_159), (oX1 (p1a 0) p1a p1k p1n p1w p1l), (oX9 (p1a 3) p1_2a p1_2k p1_2n p1_2w)] : List va_W)) → va_K (dC, dI) cls (List.flatten ([(tX5 p0k), (tX1 p1k), (tX9 p1_2k)] : List (List (ClassId × FieldType)))) s → va_S A s.heap H locs → lv_has ls 6 [(0, .ref (p0a 0)), (1, .ref (p1a 0)), (2, .int p2), (3, .int (o56.1)), (4, .long (p0l 0 7))] → W p l e ({ frames := 3, cells := 0, slots := 0, locals := 73 } : Room) s m ([.ref (p0a 0), .ref (p1a 0), .int p2] : List Value).toArray below meth c H locs 0 0 Q (F0 m 159 ls []) := by
    intro p0l_159 H locs ls hrun hP hD hK hS hl 
    unfold fX5_learnBlock_J159 at hrun
    refine lv_aload_n hx hb dX5_learnBlock_159 rfl (lv_at hl 1 rfl) ?_
    refine va_get (D := (dC, dI)) (ci := 4) (v := .ref (p1a 11)) (C := RX1) (T := TX1) (N := 21) hx hb hts i_X1 hown hK hP 10 rfl rfl 10 (by decide) (hts _ qw499) (fun _ h9 => h9) rfl dX5_learnBlock_160 ?_
    refine lv_iload_n hx hb dX5_learnBlock_163 rfl (lv_at hl 2 rfl) ?_
    obtain ⟨hq18, hrun⟩ := chk9 hrun
    refine va_iald hx hb hK hP 18 16 rfl rfl (ixb_in hq18) dX5_learnBlock_164 ?_
    have J200 : ∀ (p0l_200 : SL) (H : Heap) (locs : List Loc) (ls : Array Slot), (fX5_learnBlock_J200 p0l o56 p0l_200) = some o → va_P (dC, dI) cls (List.flatten ([(oX5 (p0a 0) p0a p0k (o56.2) p0l_200), (oX1 (p1a 0) p1a p1k p1n p1w p1l), (oX9 (p1a 3) p1_2a p1_2k p1_2n p1_2w)] : List va_W)) H → va_D A (List.flatten ([(oX5 (p0a 0) p0a p0k (o56.2) p0l_200), (oX1 (p1a 0) p1a p1k p1n p1w p1l), (oX9 (p1a 3) p1_2a p1_2k p1_2n p1_2w)] : List va_W)) → va_K (dC, dI) cls (List.flatten ([(tX5 p0k), (tX1 p1k), (tX9 p1_2k)] : List (List (ClassId × FieldType)))) s → va_S A s.heap H locs → lv_has ls 6 [(0, .ref (p0a 0)), (3, .int (o56.1)), (4, .long (p0l 0 7))] → W p l e ({ frames := 3, cells := 0, slots := 0, locals := 73 } : Room) s m ([.ref (p0a 0), .ref (p1a 0), .int p2] : List Value).toArray below meth c H locs 0 0 Q (F0 m 200 ls []) := by
      intro p0l_200 H locs ls hrun hP hD hK hS hl 
      unfold fX5_learnBlock_J200 at hrun
      refine lv_iload_n hx hb dX5_learnBlock_200 rfl (lv_at hl 1 rfl) ?_
      have J219 : ∀ (y0_219 : Int32) (H : Heap) (locs : List Loc) (ls : Array Slot), (fX5_learnBlock_J219 o56 p0l_200 y0_219) = some o → va_P (dC, dI) cls (List.flatten ([(oX5 (p0a 0) p0a p0k (o56.2) p0l_200), (oX1 (p1a 0) p1a p1k p1n p1w p1l), (oX9 (p1a 3) p1_2a p1_2k p1_2n p1_2w)] : List va_W)) H → va_D A (List.flatten ([(oX5 (p0a 0) p0a p0k (o56.2) p0l_200), (oX1 (p1a 0) p1a p1k p1n p1w p1l), (oX9 (p1a 3) p1_2a p1_2k p1_2n p1_2w)] : List va_W)) → va_K (dC, dI) cls (List.flatten ([(tX5 p0k), (tX1 p1k), (tX9 p1_2k)] : List (List (ClassId × FieldType)))) s → va_S A s.heap H locs → lv_has ls 6 [] → W p l e ({ frames := 3, cells := 0, slots := 0, locals := 73 } : Room) s m ([.ref (p0a 0), .ref (p1a 0), .int p2] : List Value).toArray below meth c H locs 0 0 Q (F0 m 219 ls [.int y0_219]) := by
        intro y0_219 H locs ls hrun hP hD hK hS hl 
        unfold fX5_learnBlock_J219 at hrun
        obtain ⟨hz9, hrun⟩ := chk9 hrun
        have ho9 : (y0_219, (o56.2), p0l_200) = o := Option.some.inj hrun
        have hP9 : va_P (dC, dI) cls (List.flatten ([(oX5 (p0a 0) p0a p0k (o.2.1) (o.2.2)), (oX1 (p1a 0) p1a p1k p1n p1w p1l), (oX9 (p1a 3) p1_2a p1_2k p1_2n p1_2w)] : List va_W)) H := by first | exact hP | (rw [← ho9]; exact hP)
        have hD9 : va_D A (List.flatten ([(oX5 (p0a 0) p0a p0k (o.2.1) (o.2.2)), (oX1 (p1a 0) p1a p1k p1n p1w p1l), (oX9 (p1a 3) p1_2a p1_2k p1_2n p1_2w)] : List va_W)) := by first | exact hD | (rw [← ho9]; exact hD)
        subst hQ
        exact W.zret (v := y0_219) hx hb hr (bz9 hz9) (fun t ht hW => ⟨⟨y0_219, (), rfl, (by rw [← ho9]), ⟨by rw [ht]; exact hP9, va_K.moved hW.alike hK, hD9⟩⟩, hS.F ht⟩) hS.2.2 dX5_learnBlock_219
      have J214 : ∀ (H : Heap) (locs : List Loc) (ls : Array Slot), (fX5_learnBlock_J214 o56 p0l_200) = some o → va_P (dC, dI) cls (List.flatten ([(oX5 (p0a 0) p0a p0k (o56.2) p0l_200), (oX1 (p1a 0) p1a p1k p1n p1w p1l), (oX9 (p1a 3) p1_2a p1_2k p1_2n p1_2w)] : List va_W)) H → va_D A (List.flatten ([(oX5 (p0a 0) p0a p0k (o56.2) p0l_200), (oX1 (p1a 0) p1a p1k p1n p1w p1l), (oX9 (p1a 3) p1_2a p1_2k p1_2n p1_2w)] : List va_W)) → va_K (dC, dI) cls (List.flatten ([(tX5 p0k), (tX1 p1k), (tX9 p1_2k)] : List (List (ClassId × FieldType)))) s → va_S A s.heap H locs → lv_has ls 6 [] → W p l e ({ frames := 3, cells := 0, slots := 0, locals := 73 } : Room) s m ([.ref (p0a 0), .ref (p1a 0), .int p2] : List Value).toArray below meth c H locs 0 0 Q (F0 m 214 ls []) := by
        intro  H locs ls hrun hP hD hK hS hl 
        unfold fX5_learnBlock_J214 at hrun
        refine lv_iconst (v := 1) hx hb dX5_learnBlock_214 (by decide) ?_
        refine lv_goto (tgt := 219) hx hb dX5_learnBlock_215 (by decide) ?_
        exact J219 1 _ _ _ hrun hP hD hK hS (lv_sub hl [] rfl)
      rcases br9 hrun with ⟨hc19, hrun⟩ | ⟨hc19, hrun⟩
      · refine lv_if_ne (tgt := 214) hx hb dX5_learnBlock_201 (by decide) (fun c => absurd hc19 c) (fun _ => ?_)
        refine lv_aload_n hx hb dX5_learnBlock_204 rfl (lv_at hl 0 rfl) ?_
        refine va_get (D := (dC, dI)) (ci := 7) (v := .long (p0l_200 0 7)) (C := RX5) (T := TX5) (N := 12) hx hb hts i_X5 hown hK hP 0 rfl rfl 7 (by decide) (hts _ qw504) (fun _ h9 => h9) rfl dX5_learnBlock_205 ?_
        refine lv_lload hx hb dX5_learnBlock_208 (lv_at hl 2 rfl) ?_
        refine W.lcmp hx hb dX5_learnBlock_210 ?_
        rcases br9 hrun with ⟨hc20, hrun⟩ | ⟨hc20, hrun⟩
        · refine lv_if_eq (tgt := 218) hx hb dX5_learnBlock_211 (by decide) (fun _ => ?_) (fun c => absurd hc20 c)
          refine lv_iconst (v := 0) hx hb dX5_learnBlock_218 (by decide) ?_
          exact J219 0 _ _ _ hrun hP hD hK hS (lv_sub hl [] rfl)
        · refine lv_if_eq (tgt := 218) hx hb dX5_learnBlock_211 (by decide) (fun c => absurd c hc20) (fun _ => ?_)
          exact J214 _ _ _ hrun hP hD hK hS (lv_sub hl [] rfl)
      · refine lv_if_ne (tgt := 214) hx hb dX5_learnBlock_201 (by decide) (fun _ => ?_) (fun c => absurd c hc19)
        exact J214 _ _ _ hrun hP hD hK hS (lv_sub hl [] rfl)
    rcases br9 hrun with ⟨hc21, hrun⟩ | ⟨hc21, hrun⟩
    · refine lv_if_lt (tgt := 200) hx hb dX5_learnBlock_165 (by decide) (fun _ => ?_) (fun c => absurd hc21 c)
      exact J200 p0l_159 _ _ _ hrun hP hD hK hS (lv_sub hl [0, 3, 4] rfl)
    · refine lv_if_lt (tgt := 200) hx hb dX5_learnBlock_165 (by decide) (fun c => absurd c hc21) (fun _ => ?_)
      refine lv_aload_n hx hb dX5_learnBlock_168 rfl (lv_at hl 0 rfl) ?_
      refine lv_aload_n hx hb dX5_learnBlock_169 rfl (lv_at hl 1 rfl) ?_
      refine lv_iload_n hx hb dX5_learnBlock_170 rfl (lv_at hl 2 rfl) ?_
      refine lv_aload_n hx hb dX5_learnBlock_171 rfl (lv_at hl 1 rfl) ?_
      refine va_get (D := (dC, dI)) (ci := 4) (v := .ref (p1a 11)) (C := RX1) (T := TX1) (N := 21) hx hb hts i_X1 hown hK hP 10 rfl rfl 10 (by decide) (hts _ qw499) (fun _ h9 => h9) rfl dX5_learnBlock_172 ?_
      refine lv_iload_n hx hb dX5_learnBlock_175 rfl (lv_at hl 2 rfl) ?_
      obtain ⟨hq22, hrun⟩ := chk9 hrun
      refine va_iald hx hb hK hP 18 16 rfl rfl (ixb_in hq22) dX5_learnBlock_176 ?_
      obtain ⟨o_23, hc_23, hrun⟩ := bnd9 hrun
      have hPx : va_P (dC, dI) cls ((List.flatten ([(oX5 (p0a 0) p0a p0k (o56.2) p0l_159), (oX1 (p1a 0) p1a p1k p1n p1w p1l)] : List va_W)) ++ (List.flatten ([(oX9 (p1a 3) p1_2a p1_2k p1_2n p1_2w)] : List va_W))) H := vP_fa (vP_perm hP (bP (List.Perm.refl _)))
      have hDx : va_D A ((List.flatten ([(oX5 (p0a 0) p0a p0k (o56.2) p0l_159), (oX1 (p1a 0) p1a p1k p1n p1w p1l)] : List va_W)) ++ (List.flatten ([(oX9 (p1a 3) p1_2a p1_2k p1_2n p1_2w)] : List va_W))) := vD_fa (vD_perm hD (bP (List.Perm.refl _)))
      have hKx : va_K (dC, dI) cls ((List.flatten ([(tX5 p0k), (tX1 p1k)] : List (List (ClassId × FieldType)))) ++ (List.flatten ([(tX9 p1_2k)] : List (List (ClassId × FieldType))))) s := vK_fa (vK_perm hK (bP (List.Perm.refl _)))
      have hPc := vP_l hPx
      have hDc := vD_l hDx
      have hKc := vK_l hKx
      have hFc := vfree hDx hS hA
      refine va_calli (va_runV (As := [.ref (p1a 0), .int p2, .int (p1w 11 (nn p2))]) (rest := []) ⟨hx, hb, hml, hown, hts⟩ (kX5_isWay l dC dI (p0a := p0a) (p0k := p0k) (p0w := (o56.2)) (p0l := p0l_159) (p1a := p1a) (p1k := p1k) (p1n := p1n) (p1w := p1w) (p1l := p1l) (p2 := p2) (p3 := (p1w 11 (nn p2))) (sz := _) (o := o_23) (hrun := hc_23)) (cwV 3 hts (gi_V qw506 qw507 qw508 qw442 (gi_z qw505)) rfl rfl rfl (by decide +kernel) ⟨Nat.le_of_ble_eq_true rfl, Nat.le_of_ble_eq_true rfl⟩) ⟨PRE.blind, va_recv hKc hPc (ci := 7) (q0 := 0) rfl rfl, PRE.of hE hS hFc hPc hKc hDc⟩ rfl rfl hl.1 rfl (lv_room (Nat.le_of_ble_eq_true rfl)) dX5_learnBlock_177 ⟨(Nat.le_of_ble_eq_true rfl), (Nat.le_of_ble_eq_true rfl)⟩) hS (fun q _ h => hFc q h) hFc (fun r24 u t H locs ht hvm hw hB hz1 hk1 hS => ?_)
      obtain ⟨b1, b2, b3⟩ := hB
      rw [ht] at b1
      obtain ⟨hP, hD, hK⟩ := JOINC (wc := (List.flatten ([(oX5 (p0a 0) p0a p0k (o56.2) p0l_159), (oX1 (p1a 0) p1a p1k p1n p1w p1l)] : List va_W))) (wr := (List.flatten ([(oX9 (p1a 3) p1_2a p1_2k p1_2n p1_2w)] : List va_W))) (w1 := (List.flatten ([(oX5 (p0a 0) p0a p0k (o56.2) p0l_159), (oX1 (p1a 0) p1a p1k p1n p1w p1l)] : List va_W))) (t1 := (List.flatten ([(tX5 p0k), (tX1 p1k)] : List (List (ClassId × FieldType))))) hPx hDx hKx hk1 hFc b1 (va_K.moved hvm.symm b2) b3
      have hP : va_P (dC, dI) cls (List.flatten ([(oX5 (p0a 0) p0a p0k (o56.2) p0l_159), (oX1 (p1a 0) p1a p1k p1n p1w p1l), (oX9 (p1a 3) p1_2a p1_2k p1_2n p1_2w)] : List va_W)) H := vP_perm (vP_fb hP) (bP (List.Perm.refl _))
      have hD : va_D A (List.flatten ([(oX5 (p0a 0) p0a p0k (o56.2) p0l_159), (oX1 (p1a 0) p1a p1k p1n p1w p1l), (oX9 (p1a 3) p1_2a p1_2k p1_2n p1_2w)] : List va_W)) := vD_perm (vD_fb hD) (bP (List.Perm.refl _))
      have hK : va_K (dC, dI) cls (List.flatten ([(tX5 p0k), (tX1 p1k), (tX9 p1_2k)] : List (List (ClassId × FieldType)))) s := vK_perm (vK_fb hK) (bP (List.Perm.refl _))
      obtain rfl : o_23 = r24 := hw.symm
      rcases br9 hrun with ⟨hc25, hrun⟩ | ⟨hc25, hrun⟩
      · refine lv_if_eq (tgt := 200) hx hb dX5_learnBlock_180 (by decide) (fun _ => ?_) (fun c => absurd hc25 c)
        exact J200 p0l_159 _ _ _ hrun hP hD hK hS (lv_sub hl [0, 3, 4] rfl)
      · refine lv_if_eq (tgt := 200) hx hb dX5_learnBlock_180 (by decide) (fun c => absurd c hc25) (fun _ => ?_)
        refine lv_aload_n hx hb dX5_learnBlock_183 rfl (lv_at hl 0 rfl) ?_
        refine lv_dup hx hb dX5_learnBlock_184 rfl ?_
        refine va_get (D := (dC, dI)) (ci := 7) (v := .long (p0l_159 0 7)) (C := RX5) (T := TX5) (N := 12) hx hb hts i_X5 hown hK hP 0 rfl rfl 7 (by decide) (hts _ qw504) (fun _ h9 => h9) rfl dX5_learnBlock_185 ?_
        refine lv_lconst (v := 1) hx hb dX5_learnBlock_188 (by decide) ?_
        refine lv_aload_n hx hb dX5_learnBlock_189 rfl (lv_at hl 1 rfl) ?_
        refine va_get (D := (dC, dI)) (ci := 4) (v := .ref (p1a 11)) (C := RX1) (T := TX1) (N := 21) hx hb hts i_X1 hown hK hP 10 rfl rfl 10 (by decide) (hts _ qw499) (fun _ h9 => h9) rfl dX5_learnBlock_190 ?_
        refine lv_iload_n hx hb dX5_learnBlock_193 rfl (lv_at hl 2 rfl) ?_
        obtain ⟨hq26, hrun⟩ := chk9 hrun
        refine va_iald hx hb hK hP 18 16 rfl rfl (ixb_in hq26) dX5_learnBlock_194 ?_
        refine lv_lshl (v := (((1 : Int64) <<< (((p1w 11 (nn p2)) : Int32).toInt64 &&& 63)))) hx hb dX5_learnBlock_195 rfl ?_
        refine lv_lor hx hb dX5_learnBlock_196 ?_
        refine va_put (D := (dC, dI)) (ci := 7) (v := .long ((p0l_159 0 7) ||| (((1 : Int64) <<< (((p1w 11 (nn p2)) : Int32).toInt64 &&& 63))))) (ty := .long) (C := RX5) (T := TX5) (N := 12) hx hb hts i_X5 tyX5 tyX5_ok nmX5 hown hK hP hD hS 0 rfl rfl 7 (by decide) (hts _ qw504) (fun _ h9 => h9) rfl (by decide +kernel) rfl rfl (Nat.le_of_ble_eq_true rfl) dX5_learnBlock_197 (fun H locs hP hD hS => ?_)
        have hP : va_P (dC, dI) cls (List.flatten ([(oX5 (p0a 0) p0a p0k (o56.2) (upl p0l_159 0 7 ((p0l_159 0 7) ||| (((1 : Int64) <<< (((p1w 11 (nn p2)) : Int32).toInt64 &&& 63)))))), (oX1 (p1a 0) p1a p1k p1n p1w p1l), (oX9 (p1a 3) p1_2a p1_2k p1_2n p1_2w)] : List va_W)) H := hP
        have hD : va_D A (List.flatten ([(oX5 (p0a 0) p0a p0k (o56.2) (upl p0l_159 0 7 ((p0l_159 0 7) ||| (((1 : Int64) <<< (((p1w 11 (nn p2)) : Int32).toInt64 &&& 63)))))), (oX1 (p1a 0) p1a p1k p1n p1w p1l), (oX9 (p1a 3) p1_2a p1_2k p1_2n p1_2w)] : List va_W)) := hD
        obtain ⟨l27, el27, hrun⟩ := let9 hrun
        rw [← el27] at hP hD
        exact J200 l27 _ _ _ hrun hP hD hK hS (lv_sub hl [0, 3, 4] rfl)
  rcases br9 hrun with ⟨hc28, hrun⟩ | ⟨hc28, hrun⟩
  · refine lv_if_lt (tgt := 159) hx hb dX5_learnBlock_124 (by decide) (fun _ => ?_) (fun c => absurd hc28 c)
    exact J159 p0l _ _ _ hrun hP hD hK hS (lv_sub hl [1, 2, 3, 4, 0] rfl)
  · refine lv_if_lt (tgt := 159) hx hb dX5_learnBlock_124 (by decide) (fun c => absurd c hc28) (fun _ => ?_)
    refine lv_aload_n hx hb dX5_learnBlock_127 rfl (lv_at hl 1 rfl) ?_
    refine lv_aload_n hx hb dX5_learnBlock_128 rfl (lv_at hl 2 rfl) ?_
    refine lv_iload_n hx hb dX5_learnBlock_129 rfl (lv_at hl 3 rfl) ?_
    refine lv_aload_n hx hb dX5_learnBlock_130 rfl (lv_at hl 2 rfl) ?_
    refine va_get (D := (dC, dI)) (ci := 4) (v := .ref (p1a 10)) (C := RX1) (T := TX1) (N := 21) hx hb hts i_X1 hown hK hP 10 rfl rfl 9 (by decide) (hts _ qw498) (fun _ h9 => h9) rfl dX5_learnBlock_131 ?_
    refine lv_iload_n hx hb dX5_learnBlock_134 rfl (lv_at hl 3 rfl) ?_
    obtain ⟨hq29, hrun⟩ := chk9 hrun
    refine va_iald hx hb hK hP 17 15 rfl rfl (ixb_in hq29) dX5_learnBlock_135 ?_
    obtain ⟨o_30, hc_30, hrun⟩ := bnd9 hrun
    have hPx : va_P (dC, dI) cls ((List.flatten ([(oX5 (p0a 0) p0a p0k (o56.2) p0l), (oX1 (p1a 0) p1a p1k p1n p1w p1l)] : List va_W)) ++ (List.flatten ([(oX9 (p1a 3) p1_2a p1_2k p1_2n p1_2w)] : List va_W))) H := vP_fa (vP_perm hP (bP (List.Perm.refl _)))
    have hDx : va_D A ((List.flatten ([(oX5 (p0a 0) p0a p0k (o56.2) p0l), (oX1 (p1a 0) p1a p1k p1n p1w p1l)] : List va_W)) ++ (List.flatten ([(oX9 (p1a 3) p1_2a p1_2k p1_2n p1_2w)] : List va_W))) := vD_fa (vD_perm hD (bP (List.Perm.refl _)))
    have hKx : va_K (dC, dI) cls ((List.flatten ([(tX5 p0k), (tX1 p1k)] : List (List (ClassId × FieldType)))) ++ (List.flatten ([(tX9 p1_2k)] : List (List (ClassId × FieldType))))) s := vK_fa (vK_perm hK (bP (List.Perm.refl _)))
    have hPc := vP_l hPx
    have hDc := vD_l hDx
    have hKc := vK_l hKx
    have hFc := vfree hDx hS hA
    refine va_calli (va_runV (As := [.ref (p1a 0), .int p2, .int (p1w 10 (nn p2))]) (rest := []) ⟨hx, hb, hml, hown, hts⟩ (kX5_isWay l dC dI (p0a := p0a) (p0k := p0k) (p0w := (o56.2)) (p0l := p0l) (p1a := p1a) (p1k := p1k) (p1n := p1n) (p1w := p1w) (p1l := p1l) (p2 := p2) (p3 := (p1w 10 (nn p2))) (sz := _) (o := o_30) (hrun := hc_30)) (cwV 3 hts (gi_V qw506 qw507 qw508 qw442 (gi_z qw505)) rfl rfl rfl (by decide +kernel) ⟨Nat.le_of_ble_eq_true rfl, Nat.le_of_ble_eq_true rfl⟩) ⟨PRE.blind, va_recv hKc hPc (ci := 7) (q0 := 0) rfl rfl, PRE.of hE hS hFc hPc hKc hDc⟩ rfl rfl hl.1 rfl (lv_room (Nat.le_of_ble_eq_true rfl)) dX5_learnBlock_136 ⟨(Nat.le_of_ble_eq_true rfl), (Nat.le_of_ble_eq_true rfl)⟩) hS (fun q _ h => hFc q h) hFc (fun r31 u t H locs ht hvm hw hB hz1 hk1 hS => ?_)
    obtain ⟨b1, b2, b3⟩ := hB
    rw [ht] at b1
    obtain ⟨hP, hD, hK⟩ := JOINC (wc := (List.flatten ([(oX5 (p0a 0) p0a p0k (o56.2) p0l), (oX1 (p1a 0) p1a p1k p1n p1w p1l)] : List va_W))) (wr := (List.flatten ([(oX9 (p1a 3) p1_2a p1_2k p1_2n p1_2w)] : List va_W))) (w1 := (List.flatten ([(oX5 (p0a 0) p0a p0k (o56.2) p0l), (oX1 (p1a 0) p1a p1k p1n p1w p1l)] : List va_W))) (t1 := (List.flatten ([(tX5 p0k), (tX1 p1k)] : List (List (ClassId × FieldType))))) hPx hDx hKx hk1 hFc b1 (va_K.moved hvm.symm b2) b3
    have hP : va_P (dC, dI) cls (List.flatten ([(oX5 (p0a 0) p0a p0k (o56.2) p0l), (oX1 (p1a 0) p1a p1k p1n p1w p1l), (oX9 (p1a 3) p1_2a p1_2k p1_2n p1_2w)] : List va_W)) H := vP_perm (vP_fb hP) (bP (List.Perm.refl _))
    have hD : va_D A (List.flatten ([(oX5 (p0a 0) p0a p0k (o56.2) p0l), (oX1 (p1a 0) p1a p1k p1n p1w p1l), (oX9 (p1a 3) p1_2a p1_2k p1_2n p1_2w)] : List va_W)) := vD_perm (vD_fb hD) (bP (List.Perm.refl _))
    have hK : va_K (dC, dI) cls (List.flatten ([(tX5 p0k), (tX1 p1k), (tX9 p1_2k)] : List (List (ClassId × FieldType)))) s := vK_perm (vK_fb hK) (bP (List.Perm.refl _))
    obtain rfl : o_30 = r31 := hw.symm
    rcases br9 hrun with ⟨hc32, hrun⟩ | ⟨hc32, hrun⟩
    · refine lv_if_eq (tgt := 159) hx hb dX5_learnBlock_139 (by decide) (fun _ => ?_) (fun c => absurd hc32 c)
      exact J159 p0l _ _ _ hrun hP hD hK hS (lv_sub hl [1, 2, 3, 4, 0] rfl)
    · refine lv_if_eq (tgt := 159) hx hb dX5_learnBlock_139 (by decide) (fun c => absurd c hc32) (fun _ => ?_)
      refine lv_aload_n hx hb dX5_learnBlock_142 rfl (lv_at hl 1 rfl) ?_
      refine lv_dup hx hb dX5_learnBlock_143 rfl ?_
      refine va_get (D := (dC, dI)) (ci := 7) (v := .long (p0l 0 7)) (C := RX5) (T := TX5) (N := 12) hx hb hts i_X5 hown hK hP 0 rfl rfl 7 (by decide) (hts _ qw504) (fun _ h9 => h9) rfl dX5_learnBlock_144 ?_
      refine lv_lconst (v := 1) hx hb dX5_learnBlock_147 (by decide) ?_
      refine lv_aload_n hx hb dX5_learnBlock_148 rfl (lv_at hl 2 rfl) ?_
      refine va_get (D := (dC, dI)) (ci := 4) (v := .ref (p1a 10)) (C := RX1) (T := TX1) (N := 21) hx hb hts i_X1 hown hK hP 10 rfl rfl 9 (by decide) (hts _ qw498) (fun _ h9 => h9) rfl dX5_learnBlock_149 ?_
      refine lv_iload_n hx hb dX5_learnBlock_152 rfl (lv_at hl 3 rfl) ?_
      obtain ⟨hq33, hrun⟩ := chk9 hrun
      refine va_iald hx hb hK hP 17 15 rfl rfl (ixb_in hq33) dX5_learnBlock_153 ?_
      refine lv_lshl (v := (((1 : Int64) <<< (((p1w 10 (nn p2)) : Int32).toInt64 &&& 63)))) hx hb dX5_learnBlock_154 rfl ?_
      refine lv_lor hx hb dX5_learnBlock_155 ?_
      refine va_put (D := (dC, dI)) (ci := 7) (v := .long ((p0l 0 7) ||| (((1 : Int64) <<< (((p1w 10 (nn p2)) : Int32).toInt64 &&& 63))))) (ty := .long) (C := RX5) (T := TX5) (N := 12) hx hb hts i_X5 tyX5 tyX5_ok nmX5 hown hK hP hD hS 0 rfl rfl 7 (by decide) (hts _ qw504) (fun _ h9 => h9) rfl (by decide +kernel) rfl rfl (Nat.le_of_ble_eq_true rfl) dX5_learnBlock_156 (fun H locs hP hD hS => ?_)
      have hP : va_P (dC, dI) cls (List.flatten ([(oX5 (p0a 0) p0a p0k (o56.2) (upl p0l 0 7 ((p0l 0 7) ||| (((1 : Int64) <<< (((p1w 10 (nn p2)) : Int32).toInt64 &&& 63)))))), (oX1 (p1a 0) p1a p1k p1n p1w p1l), (oX9 (p1a 3) p1_2a p1_2k p1_2n p1_2w)] : List va_W)) H := hP
      have hD : va_D A (List.flatten ([(oX5 (p0a 0) p0a p0k (o56.2) (upl p0l 0 7 ((p0l 0 7) ||| (((1 : Int64) <<< (((p1w 10 (nn p2)) : Int32).toInt64 &&& 63)))))), (oX1 (p1a 0) p1a p1k p1n p1w p1l), (oX9 (p1a 3) p1_2a p1_2k p1_2n p1_2w)] : List va_W)) := hD
      obtain ⟨l34, el34, hrun⟩ := let9 hrun
      rw [← el34] at hP hD
      exact J159 l34 _ _ _ hrun hP hD hK hS (lv_sub hl [1, 2, 3, 4, 0] rfl)
