abbrev cX10_advance : ByteArray := prog_12_method_4_code
def yX10_advance : MethodName := ⟨RX10, "advance", "()V"⟩
abbrev cX10_readSign : ByteArray := prog_12_method_8_code
def yX10_readSign : MethodName := ⟨RX10, "readSign", "(I)V"⟩
abbrev cX10_begin : ByteArray := prog_12_method_3_code
def yX10_begin : MethodName := ⟨RX10, "begin", "()V"⟩
abbrev cX7_expect : ByteArray := prog_9_method_25_code
def yX7_expect : MethodName := ⟨RX7, "expect", "(I)V"⟩
abbrev cX7_readLeave : ByteArray := prog_9_method_10_code
def yX7_readLeave : MethodName := ⟨RX7, "readLeave", "([I)V"⟩
abbrev cX7_readNewName : ByteArray := prog_9_method_7_code
def yX7_readNewName : MethodName := ⟨RX7, "readNewName", "()J"⟩
abbrev cX7_readParameters : ByteArray := prog_9_method_4_code
def yX7_readParameters : MethodName := ⟨RX7, "readParameters", "()V"⟩
theorem dX10_advance_0 : decode cX10_advance 0 = .ok (.aload_n 0, 1) := by decide +kernel
theorem dX10_advance_1 : decode cX10_advance 1 = .ok (.getfield 19, 3) := by decide +kernel
theorem dX10_advance_4 : decode cX10_advance 4 = .ok (.aload_n 0, 1) := by decide +kernel
theorem dX10_advance_5 : decode cX10_advance 5 = .ok (.getfield 15, 3) := by decide +kernel
theorem dX10_advance_8 : decode cX10_advance 8 = .ok (.if_icmp .ge 44, 3) := by decide +kernel
theorem dX10_advance_11 : decode cX10_advance 11 = .ok (.aload_n 0, 1) := by decide +kernel
theorem dX10_advance_12 : decode cX10_advance 12 = .ok (.getfield 9, 3) := by decide +kernel
theorem dX10_advance_15 : decode cX10_advance 15 = .ok (.aload_n 0, 1) := by decide +kernel
theorem dX10_advance_16 : decode cX10_advance 16 = .ok (.getfield 19, 3) := by decide +kernel
theorem dX10_advance_19 : decode cX10_advance 19 = .ok (.iaload, 1) := by decide +kernel
theorem dX10_advance_20 : decode cX10_advance 20 = .ok (.bipush 32, 2) := by decide +kernel
theorem dX10_advance_22 : decode cX10_advance 22 = .ok (.if_icmp .eq 17, 3) := by decide +kernel
theorem dX10_advance_25 : decode cX10_advance 25 = .ok (.aload_n 0, 1) := by decide +kernel
theorem dX10_advance_26 : decode cX10_advance 26 = .ok (.getfield 9, 3) := by decide +kernel
theorem dX10_advance_29 : decode cX10_advance 29 = .ok (.aload_n 0, 1) := by decide +kernel
theorem dX10_advance_30 : decode cX10_advance 30 = .ok (.getfield 19, 3) := by decide +kernel
theorem dX10_advance_33 : decode cX10_advance 33 = .ok (.iaload, 1) := by decide +kernel
theorem dX10_advance_34 : decode cX10_advance 34 = .ok (.bipush 10, 2) := by decide +kernel
theorem dX10_advance_36 : decode cX10_advance 36 = .ok (.if_icmp .ne 16, 3) := by decide +kernel
theorem dX10_advance_39 : decode cX10_advance 39 = .ok (.aload_n 0, 1) := by decide +kernel
theorem dX10_advance_40 : decode cX10_advance 40 = .ok (.dup, 1) := by decide +kernel
theorem dX10_advance_41 : decode cX10_advance 41 = .ok (.getfield 19, 3) := by decide +kernel
theorem dX10_advance_44 : decode cX10_advance 44 = .ok (.iconst 1, 1) := by decide +kernel
theorem dX10_advance_45 : decode cX10_advance 45 = .ok (.iadd, 1) := by decide +kernel
theorem dX10_advance_46 : decode cX10_advance 46 = .ok (.putfield 19, 3) := by decide +kernel
theorem dX10_advance_49 : decode cX10_advance 49 = .ok (.goto (-49), 3) := by decide +kernel
theorem dX10_advance_52 : decode cX10_advance 52 = .ok (.aload_n 0, 1) := by decide +kernel
theorem dX10_advance_53 : decode cX10_advance 53 = .ok (.aload_n 0, 1) := by decide +kernel
theorem dX10_advance_54 : decode cX10_advance 54 = .ok (.getfield 19, 3) := by decide +kernel
theorem dX10_advance_57 : decode cX10_advance 57 = .ok (.putfield 28, 3) := by decide +kernel
theorem dX10_advance_60 : decode cX10_advance 60 = .ok (.aload_n 0, 1) := by decide +kernel
theorem dX10_advance_61 : decode cX10_advance 61 = .ok (.getfield 19, 3) := by decide +kernel
theorem dX10_advance_64 : decode cX10_advance 64 = .ok (.aload_n 0, 1) := by decide +kernel
theorem dX10_advance_65 : decode cX10_advance 65 = .ok (.getfield 15, 3) := by decide +kernel
theorem dX10_advance_68 : decode cX10_advance 68 = .ok (.if_icmp .lt 9, 3) := by decide +kernel
theorem dX10_advance_71 : decode cX10_advance 71 = .ok (.aload_n 0, 1) := by decide +kernel
theorem dX10_advance_72 : decode cX10_advance 72 = .ok (.iconst 0, 1) := by decide +kernel
theorem dX10_advance_73 : decode cX10_advance 73 = .ok (.putfield 31, 3) := by decide +kernel
theorem dX10_advance_76 : decode cX10_advance 76 = .ok (.return_, 1) := by decide +kernel
theorem dX10_advance_77 : decode cX10_advance 77 = .ok (.aload_n 0, 1) := by decide +kernel
theorem dX10_advance_78 : decode cX10_advance 78 = .ok (.dup, 1) := by decide +kernel
theorem dX10_advance_79 : decode cX10_advance 79 = .ok (.getfield 22, 3) := by decide +kernel
theorem dX10_advance_82 : decode cX10_advance 82 = .ok (.iconst 1, 1) := by decide +kernel
theorem dX10_advance_83 : decode cX10_advance 83 = .ok (.iadd, 1) := by decide +kernel
theorem dX10_advance_84 : decode cX10_advance 84 = .ok (.putfield 22, 3) := by decide +kernel
theorem dX10_advance_87 : decode cX10_advance 87 = .ok (.aload_n 0, 1) := by decide +kernel
theorem dX10_advance_88 : decode cX10_advance 88 = .ok (.getfield 9, 3) := by decide +kernel
theorem dX10_advance_91 : decode cX10_advance 91 = .ok (.aload_n 0, 1) := by decide +kernel
theorem dX10_advance_92 : decode cX10_advance 92 = .ok (.getfield 19, 3) := by decide +kernel
theorem dX10_advance_95 : decode cX10_advance 95 = .ok (.iaload, 1) := by decide +kernel
theorem dX10_advance_96 : decode cX10_advance 96 = .ok (.istore_n 1, 1) := by decide +kernel
theorem dX10_advance_97 : decode cX10_advance 97 = .ok (.aload_n 0, 1) := by decide +kernel
theorem dX10_advance_98 : decode cX10_advance 98 = .ok (.getfield 22, 3) := by decide +kernel
theorem dX10_advance_101 : decode cX10_advance 101 = .ok (.sipush 600, 3) := by decide +kernel
theorem dX10_advance_104 : decode cX10_advance 104 = .ok (.if_icmp .le 11, 3) := by decide +kernel
theorem dX10_advance_107 : decode cX10_advance 107 = .ok (.aload_n 0, 1) := by decide +kernel
theorem dX10_advance_108 : decode cX10_advance 108 = .ok (.iconst 1, 1) := by decide +kernel
theorem dX10_advance_109 : decode cX10_advance 109 = .ok (.putfield 31, 3) := by decide +kernel
theorem dX10_advance_112 : decode cX10_advance 112 = .ok (.goto 88, 3) := by decide +kernel
theorem dX10_advance_115 : decode cX10_advance 115 = .ok (.iload_n 1, 1) := by decide +kernel
theorem dX10_advance_116 : decode cX10_advance 116 = .ok (.invokestatic 34, 3) := by decide +kernel
theorem dX10_advance_119 : decode cX10_advance 119 = .ok (.ifCond .eq 39, 3) := by decide +kernel
theorem dX10_advance_122 : decode cX10_advance 122 = .ok (.aload_n 0, 1) := by decide +kernel
theorem dX10_advance_123 : decode cX10_advance 123 = .ok (.invokevirtual 38, 3) := by decide +kernel
theorem dX10_advance_126 : decode cX10_advance 126 = .ok (.aload_n 0, 1) := by decide +kernel
theorem dX10_advance_127 : decode cX10_advance 127 = .ok (.aload_n 0, 1) := by decide +kernel
theorem dX10_advance_128 : decode cX10_advance 128 = .ok (.getfield 19, 3) := by decide +kernel
theorem dX10_advance_131 : decode cX10_advance 131 = .ok (.aload_n 0, 1) := by decide +kernel
theorem dX10_advance_132 : decode cX10_advance 132 = .ok (.getfield 28, 3) := by decide +kernel
theorem dX10_advance_135 : decode cX10_advance 135 = .ok (.isub, 1) := by decide +kernel
theorem dX10_advance_136 : decode cX10_advance 136 = .ok (.bipush 8, 2) := by decide +kernel
theorem dX10_advance_138 : decode cX10_advance 138 = .ok (.if_icmp .le 7, 3) := by decide +kernel
theorem dX10_advance_141 : decode cX10_advance 141 = .ok (.iconst 1, 1) := by decide +kernel
theorem dX10_advance_142 : decode cX10_advance 142 = .ok (.goto 10, 3) := by decide +kernel
theorem dX10_advance_145 : decode cX10_advance 145 = .ok (.aload_n 0, 1) := by decide +kernel
theorem dX10_advance_146 : decode cX10_advance 146 = .ok (.getfield 41, 3) := by decide +kernel
theorem dX10_advance_149 : decode cX10_advance 149 = .ok (.invokestatic 45, 3) := by decide +kernel
theorem dX10_advance_152 : decode cX10_advance 152 = .ok (.putfield 31, 3) := by decide +kernel
theorem dX10_advance_155 : decode cX10_advance 155 = .ok (.goto 45, 3) := by decide +kernel
theorem dX10_advance_158 : decode cX10_advance 158 = .ok (.iload_n 1, 1) := by decide +kernel
theorem dX10_advance_159 : decode cX10_advance 159 = .ok (.invokestatic 49, 3) := by decide +kernel
theorem dX10_advance_162 : decode cX10_advance 162 = .ok (.ifCond .eq 33, 3) := by decide +kernel
theorem dX10_advance_165 : decode cX10_advance 165 = .ok (.aload_n 0, 1) := by decide +kernel
theorem dX10_advance_166 : decode cX10_advance 166 = .ok (.invokevirtual 52, 3) := by decide +kernel
theorem dX10_advance_169 : decode cX10_advance 169 = .ok (.aload_n 0, 1) := by decide +kernel
theorem dX10_advance_170 : decode cX10_advance 170 = .ok (.aload_n 0, 1) := by decide +kernel
theorem dX10_advance_171 : decode cX10_advance 171 = .ok (.getfield 19, 3) := by decide +kernel
theorem dX10_advance_174 : decode cX10_advance 174 = .ok (.aload_n 0, 1) := by decide +kernel
theorem dX10_advance_175 : decode cX10_advance 175 = .ok (.getfield 28, 3) := by decide +kernel
theorem dX10_advance_178 : decode cX10_advance 178 = .ok (.isub, 1) := by decide +kernel
theorem dX10_advance_179 : decode cX10_advance 179 = .ok (.bipush 9, 2) := by decide +kernel
theorem dX10_advance_181 : decode cX10_advance 181 = .ok (.if_icmp .le 7, 3) := by decide +kernel
theorem dX10_advance_184 : decode cX10_advance 184 = .ok (.iconst 1, 1) := by decide +kernel
theorem dX10_advance_185 : decode cX10_advance 185 = .ok (.goto 4, 3) := by decide +kernel
theorem dX10_advance_188 : decode cX10_advance 188 = .ok (.iconst 2, 1) := by decide +kernel
theorem dX10_advance_189 : decode cX10_advance 189 = .ok (.putfield 31, 3) := by decide +kernel
theorem dX10_advance_192 : decode cX10_advance 192 = .ok (.goto 8, 3) := by decide +kernel
theorem dX10_advance_195 : decode cX10_advance 195 = .ok (.aload_n 0, 1) := by decide +kernel
theorem dX10_advance_196 : decode cX10_advance 196 = .ok (.iload_n 1, 1) := by decide +kernel
theorem dX10_advance_197 : decode cX10_advance 197 = .ok (.invokevirtual 55, 3) := by decide +kernel
theorem dX10_advance_200 : decode cX10_advance 200 = .ok (.return_, 1) := by decide +kernel
theorem dX10_begin_0 : decode cX10_begin 0 = .ok (.aload_n 0, 1) := by decide +kernel
theorem dX10_begin_1 : decode cX10_begin 1 = .ok (.iconst 0, 1) := by decide +kernel
theorem dX10_begin_2 : decode cX10_begin 2 = .ok (.putfield 19, 3) := by decide +kernel
theorem dX10_begin_5 : decode cX10_begin 5 = .ok (.aload_n 0, 1) := by decide +kernel
theorem dX10_begin_6 : decode cX10_begin 6 = .ok (.iconst 0, 1) := by decide +kernel
theorem dX10_begin_7 : decode cX10_begin 7 = .ok (.putfield 22, 3) := by decide +kernel
theorem dX10_begin_10 : decode cX10_begin 10 = .ok (.aload_n 0, 1) := by decide +kernel
theorem dX10_begin_11 : decode cX10_begin 11 = .ok (.invokevirtual 25, 3) := by decide +kernel
theorem dX10_begin_14 : decode cX10_begin 14 = .ok (.return_, 1) := by decide +kernel
theorem dX10_readSign_0 : decode cX10_readSign 0 = .ok (.aload_n 0, 1) := by decide +kernel
theorem dX10_readSign_1 : decode cX10_readSign 1 = .ok (.dup, 1) := by decide +kernel
theorem dX10_readSign_2 : decode cX10_readSign 2 = .ok (.getfield 19, 3) := by decide +kernel
theorem dX10_readSign_5 : decode cX10_readSign 5 = .ok (.iconst 1, 1) := by decide +kernel
theorem dX10_readSign_6 : decode cX10_readSign 6 = .ok (.iadd, 1) := by decide +kernel
theorem dX10_readSign_7 : decode cX10_readSign 7 = .ok (.putfield 19, 3) := by decide +kernel
theorem dX10_readSign_10 : decode cX10_readSign 10 = .ok (.aload_n 0, 1) := by decide +kernel
theorem dX10_readSign_11 : decode cX10_readSign 11 = .ok (.getfield 19, 3) := by decide +kernel
theorem dX10_readSign_14 : decode cX10_readSign 14 = .ok (.aload_n 0, 1) := by decide +kernel
theorem dX10_readSign_15 : decode cX10_readSign 15 = .ok (.getfield 15, 3) := by decide +kernel
theorem dX10_readSign_18 : decode cX10_readSign 18 = .ok (.if_icmp .ge 15, 3) := by decide +kernel
theorem dX10_readSign_21 : decode cX10_readSign 21 = .ok (.aload_n 0, 1) := by decide +kernel
theorem dX10_readSign_22 : decode cX10_readSign 22 = .ok (.getfield 9, 3) := by decide +kernel
theorem dX10_readSign_25 : decode cX10_readSign 25 = .ok (.aload_n 0, 1) := by decide +kernel
theorem dX10_readSign_26 : decode cX10_readSign 26 = .ok (.getfield 19, 3) := by decide +kernel
theorem dX10_readSign_29 : decode cX10_readSign 29 = .ok (.iaload, 1) := by decide +kernel
theorem dX10_readSign_30 : decode cX10_readSign 30 = .ok (.goto 4, 3) := by decide +kernel
theorem dX10_readSign_33 : decode cX10_readSign 33 = .ok (.iconst 0, 1) := by decide +kernel
theorem dX10_readSign_34 : decode cX10_readSign 34 = .ok (.istore_n 2, 1) := by decide +kernel
theorem dX10_readSign_35 : decode cX10_readSign 35 = .ok (.iload_n 2, 1) := by decide +kernel
theorem dX10_readSign_36 : decode cX10_readSign 36 = .ok (.iload_n 1, 1) := by decide +kernel
theorem dX10_readSign_37 : decode cX10_readSign 37 = .ok (.if_icmp .ne 49, 3) := by decide +kernel
theorem dX10_readSign_40 : decode cX10_readSign 40 = .ok (.iload_n 1, 1) := by decide +kernel
theorem dX10_readSign_41 : decode cX10_readSign 41 = .ok (.bipush 60, 2) := by decide +kernel
theorem dX10_readSign_43 : decode cX10_readSign 43 = .ok (.if_icmp .eq 21, 3) := by decide +kernel
theorem dX10_readSign_46 : decode cX10_readSign 46 = .ok (.iload_n 1, 1) := by decide +kernel
theorem dX10_readSign_47 : decode cX10_readSign 47 = .ok (.bipush 62, 2) := by decide +kernel
theorem dX10_readSign_49 : decode cX10_readSign 49 = .ok (.if_icmp .eq 15, 3) := by decide +kernel
theorem dX10_readSign_52 : decode cX10_readSign 52 = .ok (.iload_n 1, 1) := by decide +kernel
theorem dX10_readSign_53 : decode cX10_readSign 53 = .ok (.bipush 38, 2) := by decide +kernel
theorem dX10_readSign_55 : decode cX10_readSign 55 = .ok (.if_icmp .eq 9, 3) := by decide +kernel
theorem dX10_readSign_58 : decode cX10_readSign 58 = .ok (.iload_n 1, 1) := by decide +kernel
theorem dX10_readSign_59 : decode cX10_readSign 59 = .ok (.bipush 124, 2) := by decide +kernel
theorem dX10_readSign_61 : decode cX10_readSign 61 = .ok (.if_icmp .ne 25, 3) := by decide +kernel
theorem dX10_readSign_64 : decode cX10_readSign 64 = .ok (.aload_n 0, 1) := by decide +kernel
theorem dX10_readSign_65 : decode cX10_readSign 65 = .ok (.sipush 256, 3) := by decide +kernel
theorem dX10_readSign_68 : decode cX10_readSign 68 = .ok (.iload_n 1, 1) := by decide +kernel
theorem dX10_readSign_69 : decode cX10_readSign 69 = .ok (.iadd, 1) := by decide +kernel
theorem dX10_readSign_70 : decode cX10_readSign 70 = .ok (.putfield 31, 3) := by decide +kernel
theorem dX10_readSign_73 : decode cX10_readSign 73 = .ok (.aload_n 0, 1) := by decide +kernel
theorem dX10_readSign_74 : decode cX10_readSign 74 = .ok (.dup, 1) := by decide +kernel
theorem dX10_readSign_75 : decode cX10_readSign 75 = .ok (.getfield 19, 3) := by decide +kernel
theorem dX10_readSign_78 : decode cX10_readSign 78 = .ok (.iconst 1, 1) := by decide +kernel
theorem dX10_readSign_79 : decode cX10_readSign 79 = .ok (.iadd, 1) := by decide +kernel
theorem dX10_readSign_80 : decode cX10_readSign 80 = .ok (.putfield 19, 3) := by decide +kernel
theorem dX10_readSign_83 : decode cX10_readSign 83 = .ok (.goto 74, 3) := by decide +kernel
theorem dX10_readSign_86 : decode cX10_readSign 86 = .ok (.iload_n 2, 1) := by decide +kernel
theorem dX10_readSign_87 : decode cX10_readSign 87 = .ok (.bipush 61, 2) := by decide +kernel
theorem dX10_readSign_89 : decode cX10_readSign 89 = .ok (.if_icmp .ne 49, 3) := by decide +kernel
theorem dX10_readSign_92 : decode cX10_readSign 92 = .ok (.iload_n 1, 1) := by decide +kernel
theorem dX10_readSign_93 : decode cX10_readSign 93 = .ok (.bipush 60, 2) := by decide +kernel
theorem dX10_readSign_95 : decode cX10_readSign 95 = .ok (.if_icmp .eq 21, 3) := by decide +kernel
theorem dX10_readSign_98 : decode cX10_readSign 98 = .ok (.iload_n 1, 1) := by decide +kernel
theorem dX10_readSign_99 : decode cX10_readSign 99 = .ok (.bipush 62, 2) := by decide +kernel
theorem dX10_readSign_101 : decode cX10_readSign 101 = .ok (.if_icmp .eq 15, 3) := by decide +kernel
theorem dX10_readSign_104 : decode cX10_readSign 104 = .ok (.iload_n 1, 1) := by decide +kernel
theorem dX10_readSign_105 : decode cX10_readSign 105 = .ok (.bipush 61, 2) := by decide +kernel
theorem dX10_readSign_107 : decode cX10_readSign 107 = .ok (.if_icmp .eq 9, 3) := by decide +kernel
theorem dX10_readSign_110 : decode cX10_readSign 110 = .ok (.iload_n 1, 1) := by decide +kernel
theorem dX10_readSign_111 : decode cX10_readSign 111 = .ok (.bipush 33, 2) := by decide +kernel
theorem dX10_readSign_113 : decode cX10_readSign 113 = .ok (.if_icmp .ne 25, 3) := by decide +kernel
theorem dX10_readSign_116 : decode cX10_readSign 116 = .ok (.aload_n 0, 1) := by decide +kernel
theorem dX10_readSign_117 : decode cX10_readSign 117 = .ok (.sipush 512, 3) := by decide +kernel
theorem dX10_readSign_120 : decode cX10_readSign 120 = .ok (.iload_n 1, 1) := by decide +kernel
theorem dX10_readSign_121 : decode cX10_readSign 121 = .ok (.iadd, 1) := by decide +kernel
theorem dX10_readSign_122 : decode cX10_readSign 122 = .ok (.putfield 31, 3) := by decide +kernel
theorem dX10_readSign_125 : decode cX10_readSign 125 = .ok (.aload_n 0, 1) := by decide +kernel
theorem dX10_readSign_126 : decode cX10_readSign 126 = .ok (.dup, 1) := by decide +kernel
theorem dX10_readSign_127 : decode cX10_readSign 127 = .ok (.getfield 19, 3) := by decide +kernel
theorem dX10_readSign_130 : decode cX10_readSign 130 = .ok (.iconst 1, 1) := by decide +kernel
theorem dX10_readSign_131 : decode cX10_readSign 131 = .ok (.iadd, 1) := by decide +kernel
theorem dX10_readSign_132 : decode cX10_readSign 132 = .ok (.putfield 19, 3) := by decide +kernel
theorem dX10_readSign_135 : decode cX10_readSign 135 = .ok (.goto 22, 3) := by decide +kernel
theorem dX10_readSign_138 : decode cX10_readSign 138 = .ok (.aload_n 0, 1) := by decide +kernel
theorem dX10_readSign_139 : decode cX10_readSign 139 = .ok (.ldc 80, 2) := by decide +kernel
theorem dX10_readSign_141 : decode cX10_readSign 141 = .ok (.iload_n 1, 1) := by decide +kernel
theorem dX10_readSign_142 : decode cX10_readSign 142 = .ok (.i2c, 1) := by decide +kernel
theorem dX10_readSign_143 : decode cX10_readSign 143 = .ok (.invokevirtual 82, 3) := by decide +kernel
theorem dX10_readSign_146 : decode cX10_readSign 146 = .ok (.ifCond .lt 7, 3) := by decide +kernel
theorem dX10_readSign_149 : decode cX10_readSign 149 = .ok (.iload_n 1, 1) := by decide +kernel
theorem dX10_readSign_150 : decode cX10_readSign 150 = .ok (.goto 4, 3) := by decide +kernel
theorem dX10_readSign_153 : decode cX10_readSign 153 = .ok (.iconst 1, 1) := by decide +kernel
theorem dX10_readSign_154 : decode cX10_readSign 154 = .ok (.putfield 31, 3) := by decide +kernel
theorem dX10_readSign_157 : decode cX10_readSign 157 = .ok (.return_, 1) := by decide +kernel
theorem dX7_expect_0 : decode cX7_expect 0 = .ok (.iload_n 1, 1) := by decide +kernel
theorem dX7_expect_1 : decode cX7_expect 1 = .ok (.bipush 40, 2) := by decide +kernel
theorem dX7_expect_3 : decode cX7_expect 3 = .ok (.if_icmp .eq 15, 3) := by decide +kernel
theorem dX7_expect_6 : decode cX7_expect 6 = .ok (.iload_n 1, 1) := by decide +kernel
theorem dX7_expect_7 : decode cX7_expect 7 = .ok (.bipush 91, 2) := by decide +kernel
theorem dX7_expect_9 : decode cX7_expect 9 = .ok (.if_icmp .eq 9, 3) := by decide +kernel
theorem dX7_expect_12 : decode cX7_expect 12 = .ok (.iload_n 1, 1) := by decide +kernel
theorem dX7_expect_13 : decode cX7_expect 13 = .ok (.bipush 123, 2) := by decide +kernel
theorem dX7_expect_15 : decode cX7_expect 15 = .ok (.if_icmp .ne 7, 3) := by decide +kernel
theorem dX7_expect_18 : decode cX7_expect 18 = .ok (.iconst 1, 1) := by decide +kernel
theorem dX7_expect_19 : decode cX7_expect 19 = .ok (.goto 4, 3) := by decide +kernel
theorem dX7_expect_22 : decode cX7_expect 22 = .ok (.iconst 0, 1) := by decide +kernel
theorem dX7_expect_23 : decode cX7_expect 23 = .ok (.istore_n 2, 1) := by decide +kernel
theorem dX7_expect_24 : decode cX7_expect 24 = .ok (.aload_n 0, 1) := by decide +kernel
theorem dX7_expect_25 : decode cX7_expect 25 = .ok (.getfield 37, 3) := by decide +kernel
theorem dX7_expect_28 : decode cX7_expect 28 = .ok (.getfield 71, 3) := by decide +kernel
theorem dX7_expect_31 : decode cX7_expect 31 = .ok (.iload_n 1, 1) := by decide +kernel
theorem dX7_expect_32 : decode cX7_expect 32 = .ok (.if_icmp .ne 16, 3) := by decide +kernel
theorem dX7_expect_35 : decode cX7_expect 35 = .ok (.iload_n 2, 1) := by decide +kernel
theorem dX7_expect_36 : decode cX7_expect 36 = .ok (.ifCond .eq 16, 3) := by decide +kernel
theorem dX7_expect_39 : decode cX7_expect 39 = .ok (.aload_n 0, 1) := by decide +kernel
theorem dX7_expect_40 : decode cX7_expect 40 = .ok (.getfield 50, 3) := by decide +kernel
theorem dX7_expect_43 : decode cX7_expect 43 = .ok (.bipush 8, 2) := by decide +kernel
theorem dX7_expect_45 : decode cX7_expect 45 = .ok (.if_icmp .ne 7, 3) := by decide +kernel
theorem dX7_expect_48 : decode cX7_expect 48 = .ok (.aload_n 0, 1) := by decide +kernel
theorem dX7_expect_52 : decode cX7_expect 52 = .ok (.iload_n 2, 1) := by decide +kernel
theorem dX7_expect_53 : decode cX7_expect 53 = .ok (.ifCond .eq 16, 3) := by decide +kernel
theorem dX7_expect_56 : decode cX7_expect 56 = .ok (.aload_n 0, 1) := by decide +kernel
theorem dX7_expect_57 : decode cX7_expect 57 = .ok (.dup, 1) := by decide +kernel
theorem dX7_expect_58 : decode cX7_expect 58 = .ok (.getfield 50, 3) := by decide +kernel
theorem dX7_expect_61 : decode cX7_expect 61 = .ok (.iconst 1, 1) := by decide +kernel
theorem dX7_expect_62 : decode cX7_expect 62 = .ok (.iadd, 1) := by decide +kernel
theorem dX7_expect_63 : decode cX7_expect 63 = .ok (.putfield 50, 3) := by decide +kernel
theorem dX7_expect_66 : decode cX7_expect 66 = .ok (.goto 31, 3) := by decide +kernel
theorem dX7_expect_69 : decode cX7_expect 69 = .ok (.iload_n 1, 1) := by decide +kernel
theorem dX7_expect_70 : decode cX7_expect 70 = .ok (.bipush 41, 2) := by decide +kernel
theorem dX7_expect_72 : decode cX7_expect 72 = .ok (.if_icmp .eq 15, 3) := by decide +kernel
theorem dX7_expect_75 : decode cX7_expect 75 = .ok (.iload_n 1, 1) := by decide +kernel
theorem dX7_expect_76 : decode cX7_expect 76 = .ok (.bipush 93, 2) := by decide +kernel
theorem dX7_expect_78 : decode cX7_expect 78 = .ok (.if_icmp .eq 9, 3) := by decide +kernel
theorem dX7_expect_81 : decode cX7_expect 81 = .ok (.iload_n 1, 1) := by decide +kernel
theorem dX7_expect_82 : decode cX7_expect 82 = .ok (.bipush 125, 2) := by decide +kernel
theorem dX7_expect_84 : decode cX7_expect 84 = .ok (.if_icmp .ne 13, 3) := by decide +kernel
theorem dX7_expect_87 : decode cX7_expect 87 = .ok (.aload_n 0, 1) := by decide +kernel
theorem dX7_expect_88 : decode cX7_expect 88 = .ok (.dup, 1) := by decide +kernel
theorem dX7_expect_89 : decode cX7_expect 89 = .ok (.getfield 50, 3) := by decide +kernel
theorem dX7_expect_92 : decode cX7_expect 92 = .ok (.iconst 1, 1) := by decide +kernel
theorem dX7_expect_93 : decode cX7_expect 93 = .ok (.isub, 1) := by decide +kernel
theorem dX7_expect_94 : decode cX7_expect 94 = .ok (.putfield 50, 3) := by decide +kernel
theorem dX7_expect_97 : decode cX7_expect 97 = .ok (.aload_n 0, 1) := by decide +kernel
theorem dX7_expect_98 : decode cX7_expect 98 = .ok (.getfield 37, 3) := by decide +kernel
theorem dX7_expect_101 : decode cX7_expect 101 = .ok (.invokevirtual 190, 3) := by decide +kernel
theorem dX7_expect_104 : decode cX7_expect 104 = .ok (.return_, 1) := by decide +kernel
theorem dX7_readLeave_0 : decode cX7_readLeave 0 = .ok (.aload_n 0, 1) := by decide +kernel
theorem dX7_readLeave_1 : decode cX7_readLeave 1 = .ok (.getfield 95, 3) := by decide +kernel
theorem dX7_readLeave_4 : decode cX7_readLeave 4 = .ok (.ifCond .ne 18, 3) := by decide +kernel
theorem dX7_readLeave_7 : decode cX7_readLeave 7 = .ok (.aload_n 0, 1) := by decide +kernel
theorem dX7_readLeave_8 : decode cX7_readLeave 8 = .ok (.iconst 5, 1) := by decide +kernel
theorem dX7_readLeave_9 : decode cX7_readLeave 9 = .ok (.aload_n 0, 1) := by decide +kernel
theorem dX7_readLeave_10 : decode cX7_readLeave 10 = .ok (.getfield 37, 3) := by decide +kernel
theorem dX7_readLeave_13 : decode cX7_readLeave 13 = .ok (.getfield 80, 3) := by decide +kernel
theorem dX7_readLeave_16 : decode cX7_readLeave 16 = .ok (.invokevirtual 109, 3) := by decide +kernel
theorem dX7_readLeave_19 : decode cX7_readLeave 19 = .ok (.goto 30, 3) := by decide +kernel
theorem dX7_readLeave_22 : decode cX7_readLeave 22 = .ok (.aload_n 0, 1) := by decide +kernel
theorem dX7_readLeave_23 : decode cX7_readLeave 23 = .ok (.getfield 95, 3) := by decide +kernel
theorem dX7_readLeave_26 : decode cX7_readLeave 26 = .ok (.bipush 8, 2) := by decide +kernel
theorem dX7_readLeave_28 : decode cX7_readLeave 28 = .ok (.if_icmp .gt 21, 3) := by decide +kernel
theorem dX7_readLeave_31 : decode cX7_readLeave 31 = .ok (.aload_n 0, 1) := by decide +kernel
theorem dX7_readLeave_32 : decode cX7_readLeave 32 = .ok (.getfield 41, 3) := by decide +kernel
theorem dX7_readLeave_35 : decode cX7_readLeave 35 = .ok (.bipush 22, 2) := by decide +kernel
theorem dX7_readLeave_37 : decode cX7_readLeave 37 = .ok (.aload_n 1, 1) := by decide +kernel
theorem dX7_readLeave_38 : decode cX7_readLeave 38 = .ok (.aload_n 0, 1) := by decide +kernel
theorem dX7_readLeave_39 : decode cX7_readLeave 39 = .ok (.getfield 95, 3) := by decide +kernel
theorem dX7_readLeave_42 : decode cX7_readLeave 42 = .ok (.iconst 1, 1) := by decide +kernel
theorem dX7_readLeave_43 : decode cX7_readLeave 43 = .ok (.isub, 1) := by decide +kernel
theorem dX7_readLeave_44 : decode cX7_readLeave 44 = .ok (.iaload, 1) := by decide +kernel
theorem dX7_readLeave_45 : decode cX7_readLeave 45 = .ok (.iconst 0, 1) := by decide +kernel
theorem dX7_readLeave_46 : decode cX7_readLeave 46 = .ok (.invokevirtual 139, 3) := by decide +kernel
theorem dX7_readLeave_49 : decode cX7_readLeave 49 = .ok (.aload_n 0, 1) := by decide +kernel
theorem dX7_readLeave_50 : decode cX7_readLeave 50 = .ok (.getfield 37, 3) := by decide +kernel
theorem dX7_readLeave_53 : decode cX7_readLeave 53 = .ok (.invokevirtual 190, 3) := by decide +kernel
theorem dX7_readLeave_56 : decode cX7_readLeave 56 = .ok (.aload_n 0, 1) := by decide +kernel
theorem dX7_readLeave_57 : decode cX7_readLeave 57 = .ok (.bipush 59, 2) := by decide +kernel
theorem dX7_readLeave_59 : decode cX7_readLeave 59 = .ok (.invokevirtual 98, 3) := by decide +kernel
theorem dX7_readLeave_62 : decode cX7_readLeave 62 = .ok (.return_, 1) := by decide +kernel
theorem dX7_readNewName_0 : decode cX7_readNewName 0 = .ok (.aload_n 0, 1) := by decide +kernel
theorem dX7_readNewName_1 : decode cX7_readNewName 1 = .ok (.bipush 10, 2) := by decide +kernel
theorem dX7_readNewName_3 : decode cX7_readNewName 3 = .ok (.invokevirtual 98, 3) := by decide +kernel
theorem dX7_readNewName_6 : decode cX7_readNewName 6 = .ok (.aload_n 0, 1) := by decide +kernel
theorem dX7_readNewName_7 : decode cX7_readNewName 7 = .ok (.getfield 37, 3) := by decide +kernel
theorem dX7_readNewName_10 : decode cX7_readNewName 10 = .ok (.getfield 101, 3) := by decide +kernel
theorem dX7_readNewName_13 : decode cX7_readNewName 13 = .ok (.lstore_n 1, 1) := by decide +kernel
theorem dX7_readNewName_14 : decode cX7_readNewName 14 = .ok (.aload_n 0, 1) := by decide +kernel
theorem dX7_readNewName_15 : decode cX7_readNewName 15 = .ok (.getfield 37, 3) := by decide +kernel
theorem dX7_readNewName_18 : decode cX7_readNewName 18 = .ok (.getfield 80, 3) := by decide +kernel
theorem dX7_readNewName_21 : decode cX7_readNewName 21 = .ok (.istore_n 3, 1) := by decide +kernel
theorem dX7_readNewName_22 : decode cX7_readNewName 22 = .ok (.aload_n 0, 1) := by decide +kernel
theorem dX7_readNewName_23 : decode cX7_readNewName 23 = .ok (.iconst 3, 1) := by decide +kernel
theorem dX7_readNewName_24 : decode cX7_readNewName 24 = .ok (.invokevirtual 98, 3) := by decide +kernel
theorem dX7_readNewName_27 : decode cX7_readNewName 27 = .ok (.aload_n 0, 1) := by decide +kernel
theorem dX7_readNewName_28 : decode cX7_readNewName 28 = .ok (.lload_n 1, 1) := by decide +kernel
theorem dX7_readNewName_29 : decode cX7_readNewName 29 = .ok (.invokevirtual 146, 3) := by decide +kernel
theorem dX7_readNewName_32 : decode cX7_readNewName 32 = .ok (.ifCond .lt 9, 3) := by decide +kernel
theorem dX7_readNewName_35 : decode cX7_readNewName 35 = .ok (.aload_n 0, 1) := by decide +kernel
theorem dX7_readNewName_36 : decode cX7_readNewName 36 = .ok (.iconst 3, 1) := by decide +kernel
theorem dX7_readNewName_37 : decode cX7_readNewName 37 = .ok (.iload_n 3, 1) := by decide +kernel
theorem dX7_readNewName_38 : decode cX7_readNewName 38 = .ok (.invokevirtual 109, 3) := by decide +kernel
theorem dX7_readNewName_41 : decode cX7_readNewName 41 = .ok (.aload_n 0, 1) := by decide +kernel
theorem dX7_readNewName_42 : decode cX7_readNewName 42 = .ok (.bipush 61, 2) := by decide +kernel
theorem dX7_readNewName_44 : decode cX7_readNewName 44 = .ok (.invokevirtual 98, 3) := by decide +kernel
theorem dX7_readNewName_47 : decode cX7_readNewName 47 = .ok (.lload_n 1, 1) := by decide +kernel
theorem dX7_readNewName_48 : decode cX7_readNewName 48 = .ok (.lreturn, 1) := by decide +kernel
theorem dX7_readParameters_0 : decode cX7_readParameters 0 = .ok (.iconst 0, 1) := by decide +kernel
theorem dX7_readParameters_1 : decode cX7_readParameters 1 = .ok (.istore_n 1, 1) := by decide +kernel
theorem dX7_readParameters_2 : decode cX7_readParameters 2 = .ok (.iload_n 1, 1) := by decide +kernel
theorem dX7_readParameters_3 : decode cX7_readParameters 3 = .ok (.iconst 4, 1) := by decide +kernel
theorem dX7_readParameters_4 : decode cX7_readParameters 4 = .ok (.if_icmp .gt 109, 3) := by decide +kernel
theorem dX7_readParameters_7 : decode cX7_readParameters 7 = .ok (.aload_n 0, 1) := by decide +kernel
theorem dX7_readParameters_8 : decode cX7_readParameters 8 = .ok (.getfield 37, 3) := by decide +kernel
theorem dX7_readParameters_11 : decode cX7_readParameters 11 = .ok (.getfield 71, 3) := by decide +kernel
theorem dX7_readParameters_14 : decode cX7_readParameters 14 = .ok (.bipush 41, 2) := by decide +kernel
theorem dX7_readParameters_16 : decode cX7_readParameters 16 = .ok (.if_icmp .eq 97, 3) := by decide +kernel
theorem dX7_readParameters_19 : decode cX7_readParameters 19 = .ok (.iload_n 1, 1) := by decide +kernel
theorem dX7_readParameters_20 : decode cX7_readParameters 20 = .ok (.ifCond .le 9, 3) := by decide +kernel
theorem dX7_readParameters_23 : decode cX7_readParameters 23 = .ok (.aload_n 0, 1) := by decide +kernel
theorem dX7_readParameters_24 : decode cX7_readParameters 24 = .ok (.bipush 44, 2) := by decide +kernel
theorem dX7_readParameters_26 : decode cX7_readParameters 26 = .ok (.invokevirtual 98, 3) := by decide +kernel
theorem dX7_readParameters_29 : decode cX7_readParameters 29 = .ok (.iload_n 1, 1) := by decide +kernel
theorem dX7_readParameters_30 : decode cX7_readParameters 30 = .ok (.iconst 4, 1) := by decide +kernel
theorem dX7_readParameters_31 : decode cX7_readParameters 31 = .ok (.if_icmp .ne 7, 3) := by decide +kernel
theorem dX7_readParameters_34 : decode cX7_readParameters 34 = .ok (.aload_n 0, 1) := by decide +kernel
theorem dX7_readParameters_38 : decode cX7_readParameters 38 = .ok (.aload_n 0, 1) := by decide +kernel
theorem dX7_readParameters_39 : decode cX7_readParameters 39 = .ok (.getfield 37, 3) := by decide +kernel
theorem dX7_readParameters_42 : decode cX7_readParameters 42 = .ok (.getfield 101, 3) := by decide +kernel
theorem dX7_readParameters_45 : decode cX7_readParameters 45 = .ok (.lstore_n 2, 1) := by decide +kernel
theorem dX7_readParameters_46 : decode cX7_readParameters 46 = .ok (.aload_n 0, 1) := by decide +kernel
theorem dX7_readParameters_47 : decode cX7_readParameters 47 = .ok (.getfield 37, 3) := by decide +kernel
theorem dX7_readParameters_50 : decode cX7_readParameters 50 = .ok (.getfield 80, 3) := by decide +kernel
theorem dX7_readParameters_53 : decode cX7_readParameters 53 = .ok (.istore 4, 2) := by decide +kernel
theorem dX7_readParameters_55 : decode cX7_readParameters 55 = .ok (.aload_n 0, 1) := by decide +kernel
theorem dX7_readParameters_56 : decode cX7_readParameters 56 = .ok (.iconst 3, 1) := by decide +kernel
theorem dX7_readParameters_57 : decode cX7_readParameters 57 = .ok (.invokevirtual 98, 3) := by decide +kernel
theorem dX7_readParameters_60 : decode cX7_readParameters 60 = .ok (.aload_n 0, 1) := by decide +kernel
theorem dX7_readParameters_61 : decode cX7_readParameters 61 = .ok (.lload_n 2, 1) := by decide +kernel
theorem dX7_readParameters_62 : decode cX7_readParameters 62 = .ok (.invokevirtual 146, 3) := by decide +kernel
theorem dX7_readParameters_65 : decode cX7_readParameters 65 = .ok (.ifCond .lt 10, 3) := by decide +kernel
theorem dX7_readParameters_68 : decode cX7_readParameters 68 = .ok (.aload_n 0, 1) := by decide +kernel
theorem dX7_readParameters_69 : decode cX7_readParameters 69 = .ok (.iconst 3, 1) := by decide +kernel
theorem dX7_readParameters_70 : decode cX7_readParameters 70 = .ok (.iload 4, 2) := by decide +kernel
theorem dX7_readParameters_72 : decode cX7_readParameters 72 = .ok (.invokevirtual 109, 3) := by decide +kernel
theorem dX7_readParameters_75 : decode cX7_readParameters 75 = .ok (.aload_n 0, 1) := by decide +kernel
theorem dX7_readParameters_76 : decode cX7_readParameters 76 = .ok (.lload_n 2, 1) := by decide +kernel
theorem dX7_readParameters_77 : decode cX7_readParameters 77 = .ok (.invokevirtual 150, 3) := by decide +kernel
theorem dX7_readParameters_80 : decode cX7_readParameters 80 = .ok (.pop, 1) := by decide +kernel
theorem dX7_readParameters_81 : decode cX7_readParameters 81 = .ok (.aload_n 0, 1) := by decide +kernel
theorem dX7_readParameters_82 : decode cX7_readParameters 82 = .ok (.getfield 41, 3) := by decide +kernel
theorem dX7_readParameters_85 : decode cX7_readParameters 85 = .ok (.bipush 21, 2) := by decide +kernel
theorem dX7_readParameters_87 : decode cX7_readParameters 87 = .ok (.iload_n 1, 1) := by decide +kernel
theorem dX7_readParameters_88 : decode cX7_readParameters 88 = .ok (.iconst 0, 1) := by decide +kernel
theorem dX7_readParameters_89 : decode cX7_readParameters 89 = .ok (.invokevirtual 139, 3) := by decide +kernel
theorem dX7_readParameters_92 : decode cX7_readParameters 92 = .ok (.aload_n 0, 1) := by decide +kernel
theorem dX7_readParameters_93 : decode cX7_readParameters 93 = .ok (.getfield 41, 3) := by decide +kernel
theorem dX7_readParameters_96 : decode cX7_readParameters 96 = .ok (.getfield 121, 3) := by decide +kernel
theorem dX7_readParameters_99 : decode cX7_readParameters 99 = .ok (.aload_n 0, 1) := by decide +kernel
theorem dX7_readParameters_100 : decode cX7_readParameters 100 = .ok (.getfield 89, 3) := by decide +kernel
theorem dX7_readParameters_103 : decode cX7_readParameters 103 = .ok (.iload_n 1, 1) := by decide +kernel
theorem dX7_readParameters_104 : decode cX7_readParameters 104 = .ok (.iconst 1, 1) := by decide +kernel
theorem dX7_readParameters_105 : decode cX7_readParameters 105 = .ok (.iadd, 1) := by decide +kernel
theorem dX7_readParameters_106 : decode cX7_readParameters 106 = .ok (.iastore, 1) := by decide +kernel
theorem dX7_readParameters_107 : decode cX7_readParameters 107 = .ok (.iinc 1 1, 3) := by decide +kernel
theorem dX7_readParameters_110 : decode cX7_readParameters 110 = .ok (.goto (-108), 3) := by decide +kernel
theorem dX7_readParameters_113 : decode cX7_readParameters 113 = .ok (.return_, 1) := by decide +kernel
theorem qw3 : Cond.fieldLink RX10 28 "Gearbox$Tokens" "place" "I" ∈ gw := mq_1 (i := 56) rfl rfl
theorem qw4 : Cond.fieldLink RX10 22 "Gearbox$Tokens" "count" "I" ∈ gw := mq_1 (i := 62) rfl rfl
theorem qw5 : Cond.code yX10_isLetter cX10_isLetter 1 (Option.some Jvm.ClassFile.FieldType.boolean) ∈ gw := mq_4 (i := 106) rfl rfl
theorem qw6 : Cond.methodLink RX10 34 yX10_isLetter ∈ gw := mq_4 (i := 104) rfl rfl
theorem qw7 : Cond.static yX10_isLetter ∈ gw := mq_4 (i := 105) rfl rfl
theorem qw9 : Cond.code yX10_isDigit cX10_isDigit 1 (Option.some Jvm.ClassFile.FieldType.boolean) ∈ gw := mq_4 (i := 125) rfl rfl
theorem qw10 : Cond.methodLink RX10 49 yX10_isDigit ∈ gw := mq_4 (i := 123) rfl rfl
theorem qw11 : Cond.static yX10_isDigit ∈ gw := mq_4 (i := 124) rfl rfl
theorem qw12 : Cond.fieldLink RX10 31 "Gearbox$Tokens" "kind" "I" ∈ gw := mq_1 (i := 54) rfl rfl
theorem qw46 : Cond.fieldLink RX7 71 "Gearbox$Tokens" "kind" "I" ∈ gw := mq_1 (i := 53) rfl rfl
theorem qw47 : Cond.fieldLink RX7 50 "Gearbox$Reader" "open" "I" ∈ gw := mq_1 (i := 92) rfl rfl
theorem qw68 : Cond.fieldLink RX7 95 "Gearbox$Reader" "loops" "I" ∈ gw := mq_1 (i := 100) rfl rfl
theorem qw69 : Cond.fieldLink RX7 80 "Gearbox$Tokens" "place" "I" ∈ gw := mq_1 (i := 55) rfl rfl
theorem qw70 : Cond.fieldLink RX7 101 "Gearbox$Tokens" "name" "J" ∈ gw := mq_1 (i := 59) rfl rfl
theorem qw1361 : Cond.code yJ0_indexOf_0f7a4 cJ0_indexOf_0f7a4 2 (Option.some Jvm.ClassFile.FieldType.int) ∈ gw := mq_4 (i := 138) rfl rfl
theorem qw1362 : Cond.methodLink RX10 82 yJ0_indexOf_0f7a4 ∈ gw := mq_4 (i := 135) rfl rfl
theorem qw1363 : Cond.instanceMethod yJ0_indexOf_0f7a4 ∈ gw := mq_4 (i := 136) rfl rfl
theorem qw1364 : Cond.selects RJ0 yJ0_indexOf_0f7a4 yJ0_indexOf_0f7a4 ∈ gw := mq_4 (i := 137) rfl rfl
theorem qw1365 : Cond.code yX10_readSign cX10_readSign 3 (Option.none : Option Jvm.ClassFile.FieldType) ∈ gw := mq_4 (i := 133) rfl rfl
theorem qw1366 : Cond.methodLink RX10 55 yX10_readSign ∈ gw := mq_4 (i := 130) rfl rfl
theorem qw1367 : Cond.instanceMethod yX10_readSign ∈ gw := mq_4 (i := 132) rfl rfl
theorem qw1368 : Cond.selects RX10 yX10_readSign yX10_readSign ∈ gw := mk_s (i := 146) rfl rfl
theorem qw1369 : Cond.code yX10_readFigure cX10_readFigure 1 (Option.none : Option Jvm.ClassFile.FieldType) ∈ gw := mq_4 (i := 129) rfl rfl
theorem qw1370 : Cond.methodLink RX10 52 yX10_readFigure ∈ gw := mq_4 (i := 126) rfl rfl
theorem qw1371 : Cond.instanceMethod yX10_readFigure ∈ gw := mq_4 (i := 128) rfl rfl
theorem qw1372 : Cond.selects RX10 yX10_readFigure yX10_readFigure ∈ gw := mk_s (i := 145) rfl rfl
theorem qw1373 : Cond.code yX10_readWord cX10_readWord 2 (Option.none : Option Jvm.ClassFile.FieldType) ∈ gw := mq_4 (i := 110) rfl rfl
theorem qw1374 : Cond.methodLink RX10 38 yX10_readWord ∈ gw := mq_4 (i := 107) rfl rfl
theorem qw1375 : Cond.instanceMethod yX10_readWord ∈ gw := mq_4 (i := 109) rfl rfl
theorem qw1376 : Cond.selects RX10 yX10_readWord yX10_readWord ∈ gw := mk_s (i := 147) rfl rfl
theorem qw1377 : Cond.code yX10_kindOfWord cX10_kindOfWord 2 (Option.some Jvm.ClassFile.FieldType.int) ∈ gw := mq_4 (i := 114) rfl rfl
theorem qw1378 : Cond.methodLink RX10 45 yX10_kindOfWord ∈ gw := mq_4 (i := 112) rfl rfl
theorem qw1379 : Cond.static yX10_kindOfWord ∈ gw := mq_4 (i := 113) rfl rfl
theorem qw1380 : Cond.code yX10_advance cX10_advance 2 (Option.none : Option Jvm.ClassFile.FieldType) ∈ gw := mq_4 (i := 103) rfl rfl
theorem qw1381 : Cond.methodLink RX10 25 yX10_advance ∈ gw := mq_4 (i := 100) rfl rfl
theorem qw1382 : Cond.instanceMethod yX10_advance ∈ gw := mq_4 (i := 101) rfl rfl
theorem qw1383 : Cond.selects RX10 yX10_advance yX10_advance ∈ gw := mq_4 (i := 102) rfl rfl
theorem qw1384 : Cond.methodLink RX7 190 yX10_advance ∈ gw := mq_5 (i := 60) rfl rfl
theorem qw1385 : Cond.code yX7_expect cX7_expect 3 (Option.none : Option Jvm.ClassFile.FieldType) ∈ gw := mq_5 (i := 59) rfl rfl
theorem qw1386 : Cond.methodLink RX7 98 yX7_expect ∈ gw := mq_5 (i := 56) rfl rfl
theorem qw1387 : Cond.instanceMethod yX7_expect ∈ gw := mq_5 (i := 58) rfl rfl
theorem qw1388 : Cond.selects RX7 yX7_expect yX7_expect ∈ gw := mk_s (i := 125) rfl rfl
theorem qw1389 : Cond.code yX7_declare cX7_declare 4 (Option.some Jvm.ClassFile.FieldType.int) ∈ gw := mq_5 (i := 80) rfl rfl
theorem qw1390 : Cond.methodLink RX7 150 yX7_declare ∈ gw := mq_5 (i := 77) rfl rfl
theorem qw1391 : Cond.instanceMethod yX7_declare ∈ gw := mq_5 (i := 79) rfl rfl
theorem qw1392 : Cond.selects RX7 yX7_declare yX7_declare ∈ gw := mk_s (i := 124) rfl rfl
/-! the readers' contracts (laid by wip/p51/g3/r4.py) -/
theorem rmF {a F9 : Nat} (h : a ≤ 8) : a ≤ F9 + 8 := Nat.le_trans h (Nat.le_add_left 8 F9)
theorem rmL {a L9 : Nat} (h : a ≤ 400) : a ≤ L9 + 400 := Nat.le_trans h (Nat.le_add_left 400 L9)
theorem rmF9 {F9 : Nat} : F9 + 1 ≤ F9 + 8 := Nat.add_le_add_left (by decide) F9
theorem rmL9 {n L9 : Nat} (h : n ≤ 400) : n + L9 ≤ L9 + 400 := by omega
set_option maxHeartbeats 16000000 in
set_option maxRecDepth 100000 in
theorem kX10_readSign {zs : ZS} (l : Launch) (dC : Nat → ClassId) (dI : Nat → Nat → Nat) (p0a : Nat → Nat) (p0k : Nat → ClassId) (p0w : ST) (p0l : SL) (p1 : Int32) (aK : Nat → Nat) (aV : Nat → Nat) (sz : Nat) (o : ST) (hrun : fX10_readSign p0w p1 = some o) : Met l yX10_readSign (wz yX10_readSign cX10_readSign 3 (Option.none : Option Jvm.ClassFile.FieldType)) ({ frames := 4, cells := 0, slots := 0, locals := 91 } : Room) (va_Pc [.ref (p0a 0), .int p1] (PRE (zA zs (st9 aK aV)) dC dI (List.flatten ([(oX10 (p0a 0) p0a p0k p0w p0l)] : List va_W)) (List.flatten ([(tX10 p0k)] : List (List (ClassId × FieldType)))) sz)) (va_Qv (fun (_ : Unit) => True) (fun _ t => POST dC dI (List.flatten ([(oX10 (p0a 0) p0a p0k o p0l)] : List va_W)) (List.flatten ([(tX10 p0k)] : List (List (ClassId × FieldType)))) (va_A (List.flatten ([(oX10 (p0a 0) p0a p0k p0w p0l)] : List va_W)) sz) t) (va_A (List.flatten ([(oX10 (p0a 0) p0a p0k p0w p0l)] : List va_W)) sz)) 0 0 (va_A (List.flatten ([(oX10 (p0a 0) p0a p0k p0w p0l)] : List va_W)) sz) := by
  refine Met.ofW (cc := cX10_readSign) (maxL := 3) (ret := (Option.none : Option Jvm.ClassFile.FieldType)) (by decide) rfl ?_
  intro p e s m args below meth c s₁ B hml hv
  obtain ⟨rfl, hsz, hP, hK, hD0, hE⟩ := hv
  have hx := B.exec
  have hb := B.bytes
  have hr := B.returns
  have hts0 := atoms_spec (ws := wz yX10_readSign cX10_readSign 3 (Option.none : Option Jvm.ClassFile.FieldType)) B.pre
  have hts : ∀ w ∈ gw, w.before _ s = true := fun w h => hts0 w (List.mem_cons_of_mem _ h)
  have hown : s.vm.findClass RX10 = some m.cls := findClass_of_methodNamed B.named
  have hlocks := B.notSynchronized
  subst hsz
  have hD := hD0.self (sz := s.heap.size)
  refine gQ9 ?_
  intro Q hQ
  generalize hAe : va_A (List.flatten ([(oX10 (p0a 0) p0a p0k p0w p0l)] : List va_W)) s.heap.size = A at hD hE hQ
  have hA : ∀ q : Nat, s.heap.size ≤ q → A q := fun q h => by rw [← hAe]; exact Or.inr h
  have hro := ENV.ex hE
  have hro_st := hro.2
  replace hro := hro.1
  have hS : va_S A s.heap s.heap [] := va_S.rf
  have hP : va_P (dC, dI) cls (List.flatten ([(oX10 (p0a 0) p0a p0k p0w p0l)] : List va_W)) s.heap := hP
  have hl := lv_entry ([.ref (p0a 0), .int p1]) (n := 3) (Nat.le_of_ble_eq_true rfl)
  rw [lg_entry_eq]
  generalize (lg_sl ([.ref (p0a 0), .int p1]) ++ List.replicate (3 - (lg_sl ([.ref (p0a 0), .int p1])).length) Slot.unset).toArray = ls at hl ⊢
  have hl : lv_has ls 3 [(0, .ref (p0a 0)), (1, .int p1)] := hl
  obtain ⟨H, hHe⟩ : ∃ H, H = s.heap := ⟨_, rfl⟩
  obtain ⟨locs, hle⟩ : ∃ locs : List Loc, locs = [] := ⟨_, rfl⟩
  rw [← hHe] at hP
  have hS : va_S A s.heap H locs := by rw [hHe, hle]; exact hS
  show W p l e ({ frames := 4, cells := 0, slots := 0, locals := 91 } : Room) s m ([.ref (p0a 0), .int p1] : List Value).toArray below meth c s.heap [] 0 0 Q (F0 m 0 ls [])
  rw [← hle]
  refine wH9 hHe ?_
  unfold fX10_readSign at hrun
  refine lv_aload_n hx hb dX10_readSign_0 rfl (lv_at hl 0 rfl) ?_
  refine lv_dup hx hb dX10_readSign_1 rfl ?_
  refine va_get (D := (dC, dI)) (ci := 0) (v := .int (p0w 0 6)) (C := RX10) (T := TX10) (N := 8) hx hb hts i_X10 hown hK hP 0 rfl rfl 6 (by decide) (hts _ qw0) (fun _ h9 => h9) rfl dX10_readSign_2 ?_
  refine lv_iconst (v := 1) hx hb dX10_readSign_5 (by decide) ?_
  refine lv_iadd hx hb dX10_readSign_6 ?_
  refine va_put (D := (dC, dI)) (ci := 0) (v := .int ((p0w 0 6) + 1)) (ty := .int) (C := RX10) (T := TX10) (N := 8) hx hb hts i_X10 tyX10 tyX10_ok nmX10 hown hK hP hD hS 0 rfl rfl 6 (by decide) (hts _ qw0) (fun _ h9 => h9) rfl (by decide +kernel) rfl rfl (Nat.le_of_ble_eq_true rfl) dX10_readSign_7 (fun H locs hP hD hS => ?_)
  have hP : va_P (dC, dI) cls (List.flatten ([(oX10 (p0a 0) p0a p0k (upw p0w 0 6 ((p0w 0 6) + 1)) p0l)] : List va_W)) H := hP
  have hD : va_D A (List.flatten ([(oX10 (p0a 0) p0a p0k (upw p0w 0 6 ((p0w 0 6) + 1)) p0l)] : List va_W)) := hD
  obtain ⟨w1, ew1, hrun⟩ := let9 hrun
  rw [← ew1] at hP hD
  refine lv_aload_n hx hb dX10_readSign_10 rfl (lv_at hl 0 rfl) ?_
  refine va_get (D := (dC, dI)) (ci := 0) (v := .int (w1 0 6)) (C := RX10) (T := TX10) (N := 8) hx hb hts i_X10 hown hK hP 0 rfl rfl 6 (by decide) (hts _ qw0) (fun _ h9 => h9) rfl dX10_readSign_11 ?_
  refine lv_aload_n hx hb dX10_readSign_14 rfl (lv_at hl 0 rfl) ?_
  refine va_get (D := (dC, dI)) (ci := 0) (v := .int (w1 0 1)) (C := RX10) (T := TX10) (N := 8) hx hb hts i_X10 hown hK hP 0 rfl rfl 1 (by decide) (hts _ qw1) (fun _ h9 => h9) rfl dX10_readSign_15 ?_
  have J34 : ∀ (y0_34 : Int32) (H : Heap) (locs : List Loc) (ls : Array Slot), (fX10_readSign_J34 p1 w1 y0_34) = some o → va_P (dC, dI) cls (List.flatten ([(oX10 (p0a 0) p0a p0k w1 p0l)] : List va_W)) H → va_D A (List.flatten ([(oX10 (p0a 0) p0a p0k w1 p0l)] : List va_W)) → va_K (dC, dI) cls (List.flatten ([(tX10 p0k)] : List (List (ClassId × FieldType)))) s → va_S A s.heap H locs → lv_has ls 3 [(0, .ref (p0a 0)), (1, .int p1)] → W p l e ({ frames := 4, cells := 0, slots := 0, locals := 91 } : Room) s m ([.ref (p0a 0), .int p1] : List Value).toArray below meth c H locs 0 0 Q (F0 m 34 ls [.int y0_34]) := by
    intro y0_34 H locs ls hrun hP hD hK hS hl 
    unfold fX10_readSign_J34 at hrun
    refine lv_istore_n (lv' := [(2, .int y0_34), (0, .ref (p0a 0)), (1, .int p1)]) hx hb dX10_readSign_34 rfl hl (by decide) rfl (fun ls hl => ?_)
    refine lv_iload_n hx hb dX10_readSign_35 rfl (lv_at hl 0 rfl) ?_
    refine lv_iload_n hx hb dX10_readSign_36 rfl (lv_at hl 2 rfl) ?_
    have J157 : ∀ (p0w_157 : ST) (H : Heap) (locs : List Loc) (ls : Array Slot), (fX10_readSign_J157 p0w_157) = some o → va_P (dC, dI) cls (List.flatten ([(oX10 (p0a 0) p0a p0k p0w_157 p0l)] : List va_W)) H → va_D A (List.flatten ([(oX10 (p0a 0) p0a p0k p0w_157 p0l)] : List va_W)) → va_K (dC, dI) cls (List.flatten ([(tX10 p0k)] : List (List (ClassId × FieldType)))) s → va_S A s.heap H locs → lv_has ls 3 [] → W p l e ({ frames := 4, cells := 0, slots := 0, locals := 91 } : Room) s m ([.ref (p0a 0), .int p1] : List Value).toArray below meth c H locs 0 0 Q (F0 m 157 ls []) := by
      intro p0w_157 H locs ls hrun hP hD hK hS hl 
      unfold fX10_readSign_J157 at hrun
      have ho9 : p0w_157 = o := Option.some.inj hrun
      have hP9 : va_P (dC, dI) cls (List.flatten ([(oX10 (p0a 0) p0a p0k o p0l)] : List va_W)) H := by first | exact hP | (rw [← ho9]; exact hP)
      have hD9 : va_D A (List.flatten ([(oX10 (p0a 0) p0a p0k o p0l)] : List va_W)) := by first | exact hD | (rw [← ho9]; exact hD)
      subst hQ
      exact W.vret hx hb hr (fun t ht hW => ⟨⟨(), rfl, trivial, ⟨by rw [ht]; exact hP9, va_K.moved hW.alike hK, hD9⟩⟩, hS.F ht⟩) hS.2.2 dX10_readSign_157
    have J86 : ∀ (H : Heap) (locs : List Loc) (ls : Array Slot), (fX10_readSign_J86 p1 w1 y0_34) = some o → va_P (dC, dI) cls (List.flatten ([(oX10 (p0a 0) p0a p0k w1 p0l)] : List va_W)) H → va_D A (List.flatten ([(oX10 (p0a 0) p0a p0k w1 p0l)] : List va_W)) → va_K (dC, dI) cls (List.flatten ([(tX10 p0k)] : List (List (ClassId × FieldType)))) s → va_S A s.heap H locs → lv_has ls 3 [(0, .ref (p0a 0)), (1, .int p1), (2, .int y0_34)] → W p l e ({ frames := 4, cells := 0, slots := 0, locals := 91 } : Room) s m ([.ref (p0a 0), .int p1] : List Value).toArray below meth c H locs 0 0 Q (F0 m 86 ls []) := by
      intro  H locs ls hrun hP hD hK hS hl 
      unfold fX10_readSign_J86 at hrun
      refine lv_iload_n hx hb dX10_readSign_86 rfl (lv_at hl 2 rfl) ?_
      refine lv_bipush (v := 61) hx hb dX10_readSign_87 (by decide) ?_
      have J138 : ∀ (H : Heap) (locs : List Loc) (ls : Array Slot), (fX10_readSign_J138 p1 w1) = some o → va_P (dC, dI) cls (List.flatten ([(oX10 (p0a 0) p0a p0k w1 p0l)] : List va_W)) H → va_D A (List.flatten ([(oX10 (p0a 0) p0a p0k w1 p0l)] : List va_W)) → va_K (dC, dI) cls (List.flatten ([(tX10 p0k)] : List (List (ClassId × FieldType)))) s → va_S A s.heap H locs → lv_has ls 3 [(0, .ref (p0a 0)), (1, .int p1)] → W p l e ({ frames := 4, cells := 0, slots := 0, locals := 91 } : Room) s m ([.ref (p0a 0), .int p1] : List Value).toArray below meth c H locs 0 0 Q (F0 m 138 ls []) := by
        intro  H locs ls hrun hP hD hK hS hl 
        unfold fX10_readSign_J138 at hrun
        refine lv_aload_n hx hb dX10_readSign_138 rfl (lv_at hl 0 rfl) ?_
        refine va_ldcS hx hb hown (hro_st 0 _ rfl).2 dX10_readSign_139 ?_
        refine lv_iload_n hx hb dX10_readSign_141 rfl (lv_at hl 1 rfl) ?_
        refine lv_i2c hx hb dX10_readSign_142 rfl ?_
        have hc_901 := sx_ixok (((p1 : Int32).toUInt32 % 65536).toInt32)
        have hPx : va_P (dC, dI) cls ((List.flatten ([] : List va_W)) ++ (List.flatten ([(oX10 (p0a 0) p0a p0k w1 p0l)] : List va_W))) H := vP_fa (vP_perm hP (bP (List.Perm.refl _)))
        have hDx : va_D A ((List.flatten ([] : List va_W)) ++ (List.flatten ([(oX10 (p0a 0) p0a p0k w1 p0l)] : List va_W))) := vD_fa (vD_perm hD (bP (List.Perm.refl _)))
        have hKx : va_K (dC, dI) cls ((List.flatten ([] : List (List (ClassId × FieldType)))) ++ (List.flatten ([(tX10 p0k)] : List (List (ClassId × FieldType))))) s := vK_fa (vK_perm hK (bP (List.Perm.refl _)))
        have hPc := vP_l hPx
        have hDc := vD_l hDx
        have hKc := vK_l hKx
        have hFc := vfree hDx hS hA
        refine va_calli (va_runV (As := [.int (((p1 : Int32).toUInt32 % 65536).toInt32)]) (rest := [.ref (p0a 0)]) ⟨hx, hb, hml, hown, hts⟩ (kJ0_indexOf_0f7a4 l dC dI (p0s := (aK 0)) (p0v := (aV 0)) (p0m := (litN 0)) (p0f := (litB 0)) (p1 := (((p1 : Int32).toUInt32 % 65536).toInt32)) (sz := _) (o := (sx_ix (((p1 : Int32).toUInt32 % 65536).toInt32))) (hrun := hc_901)) (cwV 1 hts (gi_V qw1362 qw1363 qw1364 qw1184 (gi_z qw1361)) rfl rfl rfl (by decide +kernel) ⟨Nat.le_of_ble_eq_true rfl, Nat.le_of_ble_eq_true rfl⟩) ⟨PRE.blind, vk_rcv (st9_q hro_st 0 _ rfl) hS, PRE.of (ENV.add hE sq9_m (st9_q hro_st 0 _ rfl)) hS hFc hPc hKc hDc⟩ rfl rfl hl.1 rfl (lv_room (Nat.le_of_ble_eq_true rfl)) dX10_readSign_143 ⟨(Nat.le_of_ble_eq_true rfl), (Nat.le_of_ble_eq_true rfl)⟩) hS (fun q _ h => hFc q h) hFc (fun r902 u t H locs ht hvm hw hB hz1 hk1 hS => ?_)
        obtain ⟨b1, b2, b3⟩ := hB
        rw [ht] at b1
        obtain ⟨hP, hD, hK⟩ := JOINC (wc := (List.flatten ([] : List va_W))) (wr := (List.flatten ([(oX10 (p0a 0) p0a p0k w1 p0l)] : List va_W))) (w1 := (List.flatten ([] : List va_W))) (t1 := (List.flatten ([] : List (List (ClassId × FieldType))))) hPx hDx hKx hk1 hFc b1 (va_K.moved hvm.symm b2) b3
        have hP : va_P (dC, dI) cls (List.flatten ([(oX10 (p0a 0) p0a p0k w1 p0l)] : List va_W)) H := vP_perm (vP_fb hP) (bP (List.Perm.refl _))
        have hD : va_D A (List.flatten ([(oX10 (p0a 0) p0a p0k w1 p0l)] : List va_W)) := vD_perm (vD_fb hD) (bP (List.Perm.refl _))
        have hK : va_K (dC, dI) cls (List.flatten ([(tX10 p0k)] : List (List (ClassId × FieldType)))) s := vK_perm (vK_fb hK) (bP (List.Perm.refl _))
        obtain rfl : (sx_ix (((p1 : Int32).toUInt32 % 65536).toInt32)) = r902 := hw.symm
        have J154 : ∀ (y0_154 : Int32) (H : Heap) (locs : List Loc) (ls : Array Slot), (fX10_readSign_J154 w1 y0_154) = some o → va_P (dC, dI) cls (List.flatten ([(oX10 (p0a 0) p0a p0k w1 p0l)] : List va_W)) H → va_D A (List.flatten ([(oX10 (p0a 0) p0a p0k w1 p0l)] : List va_W)) → va_K (dC, dI) cls (List.flatten ([(tX10 p0k)] : List (List (ClassId × FieldType)))) s → va_S A s.heap H locs → lv_has ls 3 [] → W p l e ({ frames := 4, cells := 0, slots := 0, locals := 91 } : Room) s m ([.ref (p0a 0), .int p1] : List Value).toArray below meth c H locs 0 0 Q (F0 m 154 ls [.int y0_154, .ref (p0a 0)]) := by
          intro y0_154 H locs ls hrun hP hD hK hS hl 
          unfold fX10_readSign_J154 at hrun
          refine va_put (D := (dC, dI)) (ci := 0) (v := .int y0_154) (ty := .int) (C := RX10) (T := TX10) (N := 8) hx hb hts i_X10 tyX10 tyX10_ok nmX10 hown hK hP hD hS 0 rfl rfl 2 (by decide) (hts _ qw12) (fun _ h9 => h9) rfl (by decide +kernel) rfl rfl (Nat.le_of_ble_eq_true rfl) dX10_readSign_154 (fun H locs hP hD hS => ?_)
          have hP : va_P (dC, dI) cls (List.flatten ([(oX10 (p0a 0) p0a p0k (upw w1 0 2 y0_154) p0l)] : List va_W)) H := hP
          have hD : va_D A (List.flatten ([(oX10 (p0a 0) p0a p0k (upw w1 0 2 y0_154) p0l)] : List va_W)) := hD
          obtain ⟨w2, ew2, hrun⟩ := let9 hrun
          rw [← ew2] at hP hD
          exact J157 w2 _ _ _ hrun hP hD hK hS (lv_sub hl [] rfl)
        rcases br9 hrun with ⟨hc3, hrun⟩ | ⟨hc3, hrun⟩
        · refine lv_if_lt (tgt := 153) hx hb dX10_readSign_146 (by decide) (fun _ => ?_) (fun c => absurd hc3 c)
          refine lv_iconst (v := 1) hx hb dX10_readSign_153 (by decide) ?_
          exact J154 1 _ _ _ hrun hP hD hK hS (lv_sub hl [] rfl)
        · refine lv_if_lt (tgt := 153) hx hb dX10_readSign_146 (by decide) (fun c => absurd c hc3) (fun _ => ?_)
          refine lv_iload_n hx hb dX10_readSign_149 rfl (lv_at hl 1 rfl) ?_
          refine lv_goto (tgt := 154) hx hb dX10_readSign_150 (by decide) ?_
          exact J154 p1 _ _ _ hrun hP hD hK hS (lv_sub hl [] rfl)
      rcases br9 hrun with ⟨hc4, hrun⟩ | ⟨hc4, hrun⟩
      · refine lv_icmp_ne (tgt := 138) hx hb dX10_readSign_89 (by decide) (fun c => absurd hc4 c) (fun _ => ?_)
        refine lv_iload_n hx hb dX10_readSign_92 rfl (lv_at hl 1 rfl) ?_
        refine lv_bipush (v := 60) hx hb dX10_readSign_93 (by decide) ?_
        have J116 : ∀ (H : Heap) (locs : List Loc) (ls : Array Slot), (fX10_readSign_J116 p1 w1) = some o → va_P (dC, dI) cls (List.flatten ([(oX10 (p0a 0) p0a p0k w1 p0l)] : List va_W)) H → va_D A (List.flatten ([(oX10 (p0a 0) p0a p0k w1 p0l)] : List va_W)) → va_K (dC, dI) cls (List.flatten ([(tX10 p0k)] : List (List (ClassId × FieldType)))) s → va_S A s.heap H locs → lv_has ls 3 [(0, .ref (p0a 0)), (1, .int p1)] → W p l e ({ frames := 4, cells := 0, slots := 0, locals := 91 } : Room) s m ([.ref (p0a 0), .int p1] : List Value).toArray below meth c H locs 0 0 Q (F0 m 116 ls []) := by
          intro  H locs ls hrun hP hD hK hS hl 
          unfold fX10_readSign_J116 at hrun
          refine lv_aload_n hx hb dX10_readSign_116 rfl (lv_at hl 0 rfl) ?_
          refine lv_sipush (v := 512) hx hb dX10_readSign_117 (by decide) ?_
          refine lv_iload_n hx hb dX10_readSign_120 rfl (lv_at hl 1 rfl) ?_
          refine lv_iadd hx hb dX10_readSign_121 ?_
          refine va_put (D := (dC, dI)) (ci := 0) (v := .int (512 + p1)) (ty := .int) (C := RX10) (T := TX10) (N := 8) hx hb hts i_X10 tyX10 tyX10_ok nmX10 hown hK hP hD hS 0 rfl rfl 2 (by decide) (hts _ qw12) (fun _ h9 => h9) rfl (by decide +kernel) rfl rfl (Nat.le_of_ble_eq_true rfl) dX10_readSign_122 (fun H locs hP hD hS => ?_)
          have hP : va_P (dC, dI) cls (List.flatten ([(oX10 (p0a 0) p0a p0k (upw w1 0 2 (512 + p1)) p0l)] : List va_W)) H := hP
          have hD : va_D A (List.flatten ([(oX10 (p0a 0) p0a p0k (upw w1 0 2 (512 + p1)) p0l)] : List va_W)) := hD
          obtain ⟨w5, ew5, hrun⟩ := let9 hrun
          rw [← ew5] at hP hD
          refine lv_aload_n hx hb dX10_readSign_125 rfl (lv_at hl 0 rfl) ?_
          refine lv_dup hx hb dX10_readSign_126 rfl ?_
          refine va_get (D := (dC, dI)) (ci := 0) (v := .int (w5 0 6)) (C := RX10) (T := TX10) (N := 8) hx hb hts i_X10 hown hK hP 0 rfl rfl 6 (by decide) (hts _ qw0) (fun _ h9 => h9) rfl dX10_readSign_127 ?_
          refine lv_iconst (v := 1) hx hb dX10_readSign_130 (by decide) ?_
          refine lv_iadd hx hb dX10_readSign_131 ?_
          refine va_put (D := (dC, dI)) (ci := 0) (v := .int ((w5 0 6) + 1)) (ty := .int) (C := RX10) (T := TX10) (N := 8) hx hb hts i_X10 tyX10 tyX10_ok nmX10 hown hK hP hD hS 0 rfl rfl 6 (by decide) (hts _ qw0) (fun _ h9 => h9) rfl (by decide +kernel) rfl rfl (Nat.le_of_ble_eq_true rfl) dX10_readSign_132 (fun H locs hP hD hS => ?_)
          have hP : va_P (dC, dI) cls (List.flatten ([(oX10 (p0a 0) p0a p0k (upw w5 0 6 ((w5 0 6) + 1)) p0l)] : List va_W)) H := hP
          have hD : va_D A (List.flatten ([(oX10 (p0a 0) p0a p0k (upw w5 0 6 ((w5 0 6) + 1)) p0l)] : List va_W)) := hD
          obtain ⟨w6, ew6, hrun⟩ := let9 hrun
          rw [← ew6] at hP hD
          refine lv_goto (tgt := 157) hx hb dX10_readSign_135 (by decide) ?_
          exact J157 w6 _ _ _ hrun hP hD hK hS (lv_sub hl [] rfl)
        rcases br9 hrun with ⟨hc7, hrun⟩ | ⟨hc7, hrun⟩
        · refine lv_icmp_eq (tgt := 116) hx hb dX10_readSign_95 (by decide) (fun _ => ?_) (fun c => absurd hc7 c)
          exact J116 _ _ _ hrun hP hD hK hS (lv_sub hl [0, 1] rfl)
        · refine lv_icmp_eq (tgt := 116) hx hb dX10_readSign_95 (by decide) (fun c => absurd c hc7) (fun _ => ?_)
          refine lv_iload_n hx hb dX10_readSign_98 rfl (lv_at hl 1 rfl) ?_
          refine lv_bipush (v := 62) hx hb dX10_readSign_99 (by decide) ?_
          rcases br9 hrun with ⟨hc8, hrun⟩ | ⟨hc8, hrun⟩
          · refine lv_icmp_eq (tgt := 116) hx hb dX10_readSign_101 (by decide) (fun _ => ?_) (fun c => absurd hc8 c)
            exact J116 _ _ _ hrun hP hD hK hS (lv_sub hl [0, 1] rfl)
          · refine lv_icmp_eq (tgt := 116) hx hb dX10_readSign_101 (by decide) (fun c => absurd c hc8) (fun _ => ?_)
            refine lv_iload_n hx hb dX10_readSign_104 rfl (lv_at hl 1 rfl) ?_
            refine lv_bipush (v := 61) hx hb dX10_readSign_105 (by decide) ?_
            rcases br9 hrun with ⟨hc9, hrun⟩ | ⟨hc9, hrun⟩
            · refine lv_icmp_eq (tgt := 116) hx hb dX10_readSign_107 (by decide) (fun _ => ?_) (fun c => absurd hc9 c)
              exact J116 _ _ _ hrun hP hD hK hS (lv_sub hl [0, 1] rfl)
            · refine lv_icmp_eq (tgt := 116) hx hb dX10_readSign_107 (by decide) (fun c => absurd c hc9) (fun _ => ?_)
              refine lv_iload_n hx hb dX10_readSign_110 rfl (lv_at hl 1 rfl) ?_
              refine lv_bipush (v := 33) hx hb dX10_readSign_111 (by decide) ?_
              rcases br9 hrun with ⟨hc10, hrun⟩ | ⟨hc10, hrun⟩
              · refine lv_icmp_ne (tgt := 138) hx hb dX10_readSign_113 (by decide) (fun c => absurd hc10 c) (fun _ => ?_)
                exact J116 _ _ _ hrun hP hD hK hS (lv_sub hl [0, 1] rfl)
              · refine lv_icmp_ne (tgt := 138) hx hb dX10_readSign_113 (by decide) (fun _ => ?_) (fun c => absurd c hc10)
                exact J138 _ _ _ hrun hP hD hK hS (lv_sub hl [0, 1] rfl)
      · refine lv_icmp_ne (tgt := 138) hx hb dX10_readSign_89 (by decide) (fun _ => ?_) (fun c => absurd c hc4)
        exact J138 _ _ _ hrun hP hD hK hS (lv_sub hl [0, 1] rfl)
    rcases br9 hrun with ⟨hc11, hrun⟩ | ⟨hc11, hrun⟩
    · refine lv_icmp_ne (tgt := 86) hx hb dX10_readSign_37 (by decide) (fun c => absurd hc11 c) (fun _ => ?_)
      refine lv_iload_n hx hb dX10_readSign_40 rfl (lv_at hl 2 rfl) ?_
      refine lv_bipush (v := 60) hx hb dX10_readSign_41 (by decide) ?_
      have J64 : ∀ (H : Heap) (locs : List Loc) (ls : Array Slot), (fX10_readSign_J64 p1 w1) = some o → va_P (dC, dI) cls (List.flatten ([(oX10 (p0a 0) p0a p0k w1 p0l)] : List va_W)) H → va_D A (List.flatten ([(oX10 (p0a 0) p0a p0k w1 p0l)] : List va_W)) → va_K (dC, dI) cls (List.flatten ([(tX10 p0k)] : List (List (ClassId × FieldType)))) s → va_S A s.heap H locs → lv_has ls 3 [(0, .ref (p0a 0)), (1, .int p1)] → W p l e ({ frames := 4, cells := 0, slots := 0, locals := 91 } : Room) s m ([.ref (p0a 0), .int p1] : List Value).toArray below meth c H locs 0 0 Q (F0 m 64 ls []) := by
        intro  H locs ls hrun hP hD hK hS hl 
        unfold fX10_readSign_J64 at hrun
        refine lv_aload_n hx hb dX10_readSign_64 rfl (lv_at hl 0 rfl) ?_
        refine lv_sipush (v := 256) hx hb dX10_readSign_65 (by decide) ?_
        refine lv_iload_n hx hb dX10_readSign_68 rfl (lv_at hl 1 rfl) ?_
        refine lv_iadd hx hb dX10_readSign_69 ?_
        refine va_put (D := (dC, dI)) (ci := 0) (v := .int (256 + p1)) (ty := .int) (C := RX10) (T := TX10) (N := 8) hx hb hts i_X10 tyX10 tyX10_ok nmX10 hown hK hP hD hS 0 rfl rfl 2 (by decide) (hts _ qw12) (fun _ h9 => h9) rfl (by decide +kernel) rfl rfl (Nat.le_of_ble_eq_true rfl) dX10_readSign_70 (fun H locs hP hD hS => ?_)
        have hP : va_P (dC, dI) cls (List.flatten ([(oX10 (p0a 0) p0a p0k (upw w1 0 2 (256 + p1)) p0l)] : List va_W)) H := hP
        have hD : va_D A (List.flatten ([(oX10 (p0a 0) p0a p0k (upw w1 0 2 (256 + p1)) p0l)] : List va_W)) := hD
        obtain ⟨w12, ew12, hrun⟩ := let9 hrun
        rw [← ew12] at hP hD
        refine lv_aload_n hx hb dX10_readSign_73 rfl (lv_at hl 0 rfl) ?_
        refine lv_dup hx hb dX10_readSign_74 rfl ?_
        refine va_get (D := (dC, dI)) (ci := 0) (v := .int (w12 0 6)) (C := RX10) (T := TX10) (N := 8) hx hb hts i_X10 hown hK hP 0 rfl rfl 6 (by decide) (hts _ qw0) (fun _ h9 => h9) rfl dX10_readSign_75 ?_
        refine lv_iconst (v := 1) hx hb dX10_readSign_78 (by decide) ?_
        refine lv_iadd hx hb dX10_readSign_79 ?_
        refine va_put (D := (dC, dI)) (ci := 0) (v := .int ((w12 0 6) + 1)) (ty := .int) (C := RX10) (T := TX10) (N := 8) hx hb hts i_X10 tyX10 tyX10_ok nmX10 hown hK hP hD hS 0 rfl rfl 6 (by decide) (hts _ qw0) (fun _ h9 => h9) rfl (by decide +kernel) rfl rfl (Nat.le_of_ble_eq_true rfl) dX10_readSign_80 (fun H locs hP hD hS => ?_)
        have hP : va_P (dC, dI) cls (List.flatten ([(oX10 (p0a 0) p0a p0k (upw w12 0 6 ((w12 0 6) + 1)) p0l)] : List va_W)) H := hP
        have hD : va_D A (List.flatten ([(oX10 (p0a 0) p0a p0k (upw w12 0 6 ((w12 0 6) + 1)) p0l)] : List va_W)) := hD
        obtain ⟨w13, ew13, hrun⟩ := let9 hrun
        rw [← ew13] at hP hD
        refine lv_goto (tgt := 157) hx hb dX10_readSign_83 (by decide) ?_
        exact J157 w13 _ _ _ hrun hP hD hK hS (lv_sub hl [] rfl)
      rcases br9 hrun with ⟨hc14, hrun⟩ | ⟨hc14, hrun⟩
      · refine lv_icmp_eq (tgt := 64) hx hb dX10_readSign_43 (by decide) (fun _ => ?_) (fun c => absurd hc14 c)
        exact J64 _ _ _ hrun hP hD hK hS (lv_sub hl [1, 2] rfl)
      · refine lv_icmp_eq (tgt := 64) hx hb dX10_readSign_43 (by decide) (fun c => absurd c hc14) (fun _ => ?_)
        refine lv_iload_n hx hb dX10_readSign_46 rfl (lv_at hl 2 rfl) ?_
        refine lv_bipush (v := 62) hx hb dX10_readSign_47 (by decide) ?_
        rcases br9 hrun with ⟨hc15, hrun⟩ | ⟨hc15, hrun⟩
        · refine lv_icmp_eq (tgt := 64) hx hb dX10_readSign_49 (by decide) (fun _ => ?_) (fun c => absurd hc15 c)
          exact J64 _ _ _ hrun hP hD hK hS (lv_sub hl [1, 2] rfl)
        · refine lv_icmp_eq (tgt := 64) hx hb dX10_readSign_49 (by decide) (fun c => absurd c hc15) (fun _ => ?_)
          refine lv_iload_n hx hb dX10_readSign_52 rfl (lv_at hl 2 rfl) ?_
          refine lv_bipush (v := 38) hx hb dX10_readSign_53 (by decide) ?_
          rcases br9 hrun with ⟨hc16, hrun⟩ | ⟨hc16, hrun⟩
          · refine lv_icmp_eq (tgt := 64) hx hb dX10_readSign_55 (by decide) (fun _ => ?_) (fun c => absurd hc16 c)
            exact J64 _ _ _ hrun hP hD hK hS (lv_sub hl [1, 2] rfl)
          · refine lv_icmp_eq (tgt := 64) hx hb dX10_readSign_55 (by decide) (fun c => absurd c hc16) (fun _ => ?_)
            refine lv_iload_n hx hb dX10_readSign_58 rfl (lv_at hl 2 rfl) ?_
            refine lv_bipush (v := 124) hx hb dX10_readSign_59 (by decide) ?_
            rcases br9 hrun with ⟨hc17, hrun⟩ | ⟨hc17, hrun⟩
            · refine lv_icmp_ne (tgt := 86) hx hb dX10_readSign_61 (by decide) (fun c => absurd hc17 c) (fun _ => ?_)
              exact J64 _ _ _ hrun hP hD hK hS (lv_sub hl [1, 2] rfl)
            · refine lv_icmp_ne (tgt := 86) hx hb dX10_readSign_61 (by decide) (fun _ => ?_) (fun c => absurd c hc17)
              exact J86 _ _ _ hrun hP hD hK hS (lv_sub hl [1, 2, 0] rfl)
    · refine lv_icmp_ne (tgt := 86) hx hb dX10_readSign_37 (by decide) (fun _ => ?_) (fun c => absurd c hc11)
      exact J86 _ _ _ hrun hP hD hK hS (lv_sub hl [1, 2, 0] rfl)
  rcases br9 hrun with ⟨hc18, hrun⟩ | ⟨hc18, hrun⟩
  · refine lv_icmp_ge (tgt := 33) hx hb dX10_readSign_18 (by decide) (fun _ => ?_) (fun c => absurd hc18 c)
    refine lv_iconst (v := 0) hx hb dX10_readSign_33 (by decide) ?_
    exact J34 0 _ _ _ hrun hP hD hK hS (lv_sub hl [0, 1] rfl)
  · refine lv_icmp_ge (tgt := 33) hx hb dX10_readSign_18 (by decide) (fun c => absurd c hc18) (fun _ => ?_)
    refine lv_aload_n hx hb dX10_readSign_21 rfl (lv_at hl 0 rfl) ?_
    refine va_get (D := (dC, dI)) (ci := 0) (v := .ref (p0a 1)) (C := RX10) (T := TX10) (N := 8) hx hb hts i_X10 hown hK hP 0 rfl rfl 0 (by decide) (hts _ qw2) (fun _ h9 => h9) rfl dX10_readSign_22 ?_
    refine lv_aload_n hx hb dX10_readSign_25 rfl (lv_at hl 0 rfl) ?_
    refine va_get (D := (dC, dI)) (ci := 0) (v := .int (w1 0 6)) (C := RX10) (T := TX10) (N := 8) hx hb hts i_X10 hown hK hP 0 rfl rfl 6 (by decide) (hts _ qw0) (fun _ h9 => h9) rfl dX10_readSign_26 ?_
    obtain ⟨hq19, hrun⟩ := chk9 hrun
    refine va_iald hx hb hK hP 1 0 rfl rfl (ixb_in hq19) dX10_readSign_29 ?_
    refine lv_goto (tgt := 34) hx hb dX10_readSign_30 (by decide) ?_
    exact J34 (w1 1 (nn (w1 0 6))) _ _ _ hrun hP hD hK hS (lv_sub hl [0, 1] rfl)
set_option maxHeartbeats 16000000 in
set_option maxRecDepth 100000 in
theorem kX10_advance {zs : ZS} (l : Launch) (dC : Nat → ClassId) (dI : Nat → Nat → Nat) (p0a : Nat → Nat) (p0k : Nat → ClassId) (p0w : ST) (p0l : SL) (aK : Nat → Nat) (aV : Nat → Nat) (sz : Nat) (o : ST × SL) (hrun : fX10_advance p0w p0l = some o) : Met l yX10_advance (wz yX10_advance cX10_advance 2 (Option.none : Option Jvm.ClassFile.FieldType)) ({ frames := 5, cells := 0, slots := 0, locals := 113 } : Room) (va_Pc [.ref (p0a 0)] (PRE (zA zs (st9 aK aV)) dC dI (List.flatten ([(oX10 (p0a 0) p0a p0k p0w p0l)] : List va_W)) (List.flatten ([(tX10 p0k)] : List (List (ClassId × FieldType)))) sz)) (va_Qv (fun (_ : Unit) => True) (fun _ t => POST dC dI (List.flatten ([(oX10 (p0a 0) p0a p0k (o.1) (o.2))] : List va_W)) (List.flatten ([(tX10 p0k)] : List (List (ClassId × FieldType)))) (va_A (List.flatten ([(oX10 (p0a 0) p0a p0k p0w p0l)] : List va_W)) sz) t) (va_A (List.flatten ([(oX10 (p0a 0) p0a p0k p0w p0l)] : List va_W)) sz)) 0 0 (va_A (List.flatten ([(oX10 (p0a 0) p0a p0k p0w p0l)] : List va_W)) sz) := by
  refine Met.ofW (cc := cX10_advance) (maxL := 2) (ret := (Option.none : Option Jvm.ClassFile.FieldType)) (by decide) rfl ?_
  intro p e s m args below meth c s₁ B hml hv
  obtain ⟨rfl, hsz, hP, hK, hD0, hE⟩ := hv
  have hx := B.exec
  have hb := B.bytes
  have hr := B.returns
  have hts0 := atoms_spec (ws := wz yX10_advance cX10_advance 2 (Option.none : Option Jvm.ClassFile.FieldType)) B.pre
  have hts : ∀ w ∈ gw, w.before _ s = true := fun w h => hts0 w (List.mem_cons_of_mem _ h)
  have hown : s.vm.findClass RX10 = some m.cls := findClass_of_methodNamed B.named
  have hlocks := B.notSynchronized
  subst hsz
  have hD := hD0.self (sz := s.heap.size)
  refine gQ9 ?_
  intro Q hQ
  generalize hAe : va_A (List.flatten ([(oX10 (p0a 0) p0a p0k p0w p0l)] : List va_W)) s.heap.size = A at hD hE hQ
  have hA : ∀ q : Nat, s.heap.size ≤ q → A q := fun q h => by rw [← hAe]; exact Or.inr h
  have hro := ENV.ex hE
  have hro_st := hro.2
  replace hro := hro.1
  have hS : va_S A s.heap s.heap [] := va_S.rf
  have hP : va_P (dC, dI) cls (List.flatten ([(oX10 (p0a 0) p0a p0k p0w p0l)] : List va_W)) s.heap := hP
  have hl := lv_entry ([.ref (p0a 0)]) (n := 2) (Nat.le_of_ble_eq_true rfl)
  rw [lg_entry_eq]
  generalize (lg_sl ([.ref (p0a 0)]) ++ List.replicate (2 - (lg_sl ([.ref (p0a 0)])).length) Slot.unset).toArray = ls at hl ⊢
  have hl : lv_has ls 2 [(0, .ref (p0a 0))] := hl
  obtain ⟨H, hHe⟩ : ∃ H, H = s.heap := ⟨_, rfl⟩
  obtain ⟨locs, hle⟩ : ∃ locs : List Loc, locs = [] := ⟨_, rfl⟩
  rw [← hHe] at hP
  have hS : va_S A s.heap H locs := by rw [hHe, hle]; exact hS
  show W p l e ({ frames := 5, cells := 0, slots := 0, locals := 113 } : Room) s m ([.ref (p0a 0)] : List Value).toArray below meth c s.heap [] 0 0 Q (F0 m 0 ls [])
  rw [← hle]
  refine wH9 hHe ?_
  unfold fX10_advance at hrun
  have L0 : ∀ (n_0 : Nat) (p0w_0 : ST) (o0 : ST) (H : Heap) (locs : List Loc) (ls : Array Slot), (fX10_advance_L0 n_0) p0w_0 = some o0 → va_P (dC, dI) cls (List.flatten ([(oX10 (p0a 0) p0a p0k p0w_0 p0l)] : List va_W)) H → va_D A (List.flatten ([(oX10 (p0a 0) p0a p0k p0w_0 p0l)] : List va_W)) → va_K (dC, dI) cls (List.flatten ([(tX10 p0k)] : List (List (ClassId × FieldType)))) s → va_S A s.heap H locs → lv_has ls 2 [(0, .ref (p0a 0))] → (∀ (H : Heap) (locs : List Loc) (ls : Array Slot), va_P (dC, dI) cls (List.flatten ([(oX10 (p0a 0) p0a p0k o0 p0l)] : List va_W)) H → va_D A (List.flatten ([(oX10 (p0a 0) p0a p0k o0 p0l)] : List va_W)) → va_K (dC, dI) cls (List.flatten ([(tX10 p0k)] : List (List (ClassId × FieldType)))) s → va_S A s.heap H locs → lv_has ls 2 [(0, .ref (p0a 0))] → W p l e ({ frames := 5, cells := 0, slots := 0, locals := 113 } : Room) s m ([.ref (p0a 0)] : List Value).toArray below meth c H locs 0 0 Q (F0 m 52 ls [])) → W p l e ({ frames := 5, cells := 0, slots := 0, locals := 113 } : Room) s m ([.ref (p0a 0)] : List Value).toArray below meth c H locs 0 0 Q (F0 m 0 ls []) := by
    intro n_0
    induction n_0 with
    | zero => intro p0w_0 o0 H locs ls hrun; exact (no9 rfl hrun).elim
    | succ n_0 IH0 =>
      intro p0w_0 o0 H locs ls hrun hP hD hK hS hl hk0
      unfold fX10_advance_L0 at hrun
      refine lv_aload_n hx hb dX10_advance_0 rfl (lv_at hl 0 rfl) ?_
      refine va_get (D := (dC, dI)) (ci := 0) (v := .int (p0w_0 0 6)) (C := RX10) (T := TX10) (N := 8) hx hb hts i_X10 hown hK hP 0 rfl rfl 6 (by decide) (hts _ qw0) (fun _ h9 => h9) rfl dX10_advance_1 ?_
      refine lv_aload_n hx hb dX10_advance_4 rfl (lv_at hl 0 rfl) ?_
      refine va_get (D := (dC, dI)) (ci := 0) (v := .int (p0w_0 0 1)) (C := RX10) (T := TX10) (N := 8) hx hb hts i_X10 hown hK hP 0 rfl rfl 1 (by decide) (hts _ qw1) (fun _ h9 => h9) rfl dX10_advance_5 ?_
      rcases br9 hrun with ⟨hc1, hrun⟩ | ⟨hc1, hrun⟩
      · refine lv_icmp_ge (tgt := 52) hx hb dX10_advance_8 (by decide) (fun _ => ?_) (fun c => absurd hc1 c)
        obtain rfl := (Option.some.inj hrun)
        exact hk0 _ _ _ hP hD hK hS (lv_sub hl [0] rfl)
      · refine lv_icmp_ge (tgt := 52) hx hb dX10_advance_8 (by decide) (fun c => absurd c hc1) (fun _ => ?_)
        refine lv_aload_n hx hb dX10_advance_11 rfl (lv_at hl 0 rfl) ?_
        refine va_get (D := (dC, dI)) (ci := 0) (v := .ref (p0a 1)) (C := RX10) (T := TX10) (N := 8) hx hb hts i_X10 hown hK hP 0 rfl rfl 0 (by decide) (hts _ qw2) (fun _ h9 => h9) rfl dX10_advance_12 ?_
        refine lv_aload_n hx hb dX10_advance_15 rfl (lv_at hl 0 rfl) ?_
        refine va_get (D := (dC, dI)) (ci := 0) (v := .int (p0w_0 0 6)) (C := RX10) (T := TX10) (N := 8) hx hb hts i_X10 hown hK hP 0 rfl rfl 6 (by decide) (hts _ qw0) (fun _ h9 => h9) rfl dX10_advance_16 ?_
        obtain ⟨hq2, hrun⟩ := chk9 hrun
        refine va_iald hx hb hK hP 1 0 rfl rfl (ixb_in hq2) dX10_advance_19 ?_
        refine lv_bipush (v := 32) hx hb dX10_advance_20 (by decide) ?_
        have J39 : ∀ (H : Heap) (locs : List Loc) (ls : Array Slot), (fX10_advance_J39 (fX10_advance_L0 n_0) p0w_0) = some o0 → va_P (dC, dI) cls (List.flatten ([(oX10 (p0a 0) p0a p0k p0w_0 p0l)] : List va_W)) H → va_D A (List.flatten ([(oX10 (p0a 0) p0a p0k p0w_0 p0l)] : List va_W)) → va_K (dC, dI) cls (List.flatten ([(tX10 p0k)] : List (List (ClassId × FieldType)))) s → va_S A s.heap H locs → lv_has ls 2 [(0, .ref (p0a 0))] → W p l e ({ frames := 5, cells := 0, slots := 0, locals := 113 } : Room) s m ([.ref (p0a 0)] : List Value).toArray below meth c H locs 0 0 Q (F0 m 39 ls []) := by
          intro  H locs ls hrun hP hD hK hS hl 
          unfold fX10_advance_J39 at hrun
          refine lv_aload_n hx hb dX10_advance_39 rfl (lv_at hl 0 rfl) ?_
          refine lv_dup hx hb dX10_advance_40 rfl ?_
          refine va_get (D := (dC, dI)) (ci := 0) (v := .int (p0w_0 0 6)) (C := RX10) (T := TX10) (N := 8) hx hb hts i_X10 hown hK hP 0 rfl rfl 6 (by decide) (hts _ qw0) (fun _ h9 => h9) rfl dX10_advance_41 ?_
          refine lv_iconst (v := 1) hx hb dX10_advance_44 (by decide) ?_
          refine lv_iadd hx hb dX10_advance_45 ?_
          refine va_put (D := (dC, dI)) (ci := 0) (v := .int ((p0w_0 0 6) + 1)) (ty := .int) (C := RX10) (T := TX10) (N := 8) hx hb hts i_X10 tyX10 tyX10_ok nmX10 hown hK hP hD hS 0 rfl rfl 6 (by decide) (hts _ qw0) (fun _ h9 => h9) rfl (by decide +kernel) rfl rfl (Nat.le_of_ble_eq_true rfl) dX10_advance_46 (fun H locs hP hD hS => ?_)
          have hP : va_P (dC, dI) cls (List.flatten ([(oX10 (p0a 0) p0a p0k (upw p0w_0 0 6 ((p0w_0 0 6) + 1)) p0l)] : List va_W)) H := hP
          have hD : va_D A (List.flatten ([(oX10 (p0a 0) p0a p0k (upw p0w_0 0 6 ((p0w_0 0 6) + 1)) p0l)] : List va_W)) := hD
          obtain ⟨w3, ew3, hrun⟩ := let9 hrun
          rw [← ew3] at hP hD
          refine lv_goto (tgt := 0) hx hb dX10_advance_49 (by decide) ?_
          exact IH0 w3 o0 _ _ _ hrun hP hD hK hS (lv_sub hl [0] rfl) hk0
        rcases br9 hrun with ⟨hc4, hrun⟩ | ⟨hc4, hrun⟩
        · refine lv_icmp_eq (tgt := 39) hx hb dX10_advance_22 (by decide) (fun _ => ?_) (fun c => absurd hc4 c)
          exact J39 _ _ _ hrun hP hD hK hS (lv_sub hl [0] rfl)
        · refine lv_icmp_eq (tgt := 39) hx hb dX10_advance_22 (by decide) (fun c => absurd c hc4) (fun _ => ?_)
          refine lv_aload_n hx hb dX10_advance_25 rfl (lv_at hl 0 rfl) ?_
          refine va_get (D := (dC, dI)) (ci := 0) (v := .ref (p0a 1)) (C := RX10) (T := TX10) (N := 8) hx hb hts i_X10 hown hK hP 0 rfl rfl 0 (by decide) (hts _ qw2) (fun _ h9 => h9) rfl dX10_advance_26 ?_
          refine lv_aload_n hx hb dX10_advance_29 rfl (lv_at hl 0 rfl) ?_
          refine va_get (D := (dC, dI)) (ci := 0) (v := .int (p0w_0 0 6)) (C := RX10) (T := TX10) (N := 8) hx hb hts i_X10 hown hK hP 0 rfl rfl 6 (by decide) (hts _ qw0) (fun _ h9 => h9) rfl dX10_advance_30 ?_
          obtain ⟨hq5, hrun⟩ := chk9 hrun
          refine va_iald hx hb hK hP 1 0 rfl rfl (ixb_in hq5) dX10_advance_33 ?_
          refine lv_bipush (v := 10) hx hb dX10_advance_34 (by decide) ?_
          rcases br9 hrun with ⟨hc6, hrun⟩ | ⟨hc6, hrun⟩
          · refine lv_icmp_ne (tgt := 52) hx hb dX10_advance_36 (by decide) (fun c => absurd hc6 c) (fun _ => ?_)
            exact J39 _ _ _ hrun hP hD hK hS (lv_sub hl [0] rfl)
          · refine lv_icmp_ne (tgt := 52) hx hb dX10_advance_36 (by decide) (fun _ => ?_) (fun c => absurd c hc6)
            obtain rfl := (Option.some.inj hrun)
            exact hk0 _ _ _ hP hD hK hS (lv_sub hl [0] rfl)
  obtain ⟨o0, hc0, hrun⟩ := bnd9 hrun
  refine L0 NF p0w o0 _ _ _ hc0 hP hD hK hS (lv_sub hl [0] rfl) ?_
  intro H locs ls hP hD hK hS hl
  have hl := hl
  refine lv_aload_n hx hb dX10_advance_52 rfl (lv_at hl 0 rfl) ?_
  refine lv_aload_n hx hb dX10_advance_53 rfl (lv_at hl 0 rfl) ?_
  refine va_get (D := (dC, dI)) (ci := 0) (v := .int (o0 0 6)) (C := RX10) (T := TX10) (N := 8) hx hb hts i_X10 hown hK hP 0 rfl rfl 6 (by decide) (hts _ qw0) (fun _ h9 => h9) rfl dX10_advance_54 ?_
  refine va_put (D := (dC, dI)) (ci := 0) (v := .int (o0 0 6)) (ty := .int) (C := RX10) (T := TX10) (N := 8) hx hb hts i_X10 tyX10 tyX10_ok nmX10 hown hK hP hD hS 0 rfl rfl 3 (by decide) (hts _ qw3) (fun _ h9 => h9) rfl (by decide +kernel) rfl rfl (Nat.le_of_ble_eq_true rfl) dX10_advance_57 (fun H locs hP hD hS => ?_)
  have hP : va_P (dC, dI) cls (List.flatten ([(oX10 (p0a 0) p0a p0k (upw o0 0 3 (o0 0 6)) p0l)] : List va_W)) H := hP
  have hD : va_D A (List.flatten ([(oX10 (p0a 0) p0a p0k (upw o0 0 3 (o0 0 6)) p0l)] : List va_W)) := hD
  obtain ⟨w7, ew7, hrun⟩ := let9 hrun
  rw [← ew7] at hP hD
  refine lv_aload_n hx hb dX10_advance_60 rfl (lv_at hl 0 rfl) ?_
  refine va_get (D := (dC, dI)) (ci := 0) (v := .int (w7 0 6)) (C := RX10) (T := TX10) (N := 8) hx hb hts i_X10 hown hK hP 0 rfl rfl 6 (by decide) (hts _ qw0) (fun _ h9 => h9) rfl dX10_advance_61 ?_
  refine lv_aload_n hx hb dX10_advance_64 rfl (lv_at hl 0 rfl) ?_
  refine va_get (D := (dC, dI)) (ci := 0) (v := .int (w7 0 1)) (C := RX10) (T := TX10) (N := 8) hx hb hts i_X10 hown hK hP 0 rfl rfl 1 (by decide) (hts _ qw1) (fun _ h9 => h9) rfl dX10_advance_65 ?_
  rcases br9 hrun with ⟨hc8, hrun⟩ | ⟨hc8, hrun⟩
  · refine lv_icmp_lt (tgt := 77) hx hb dX10_advance_68 (by decide) (fun _ => ?_) (fun c => absurd hc8 c)
    refine lv_aload_n hx hb dX10_advance_77 rfl (lv_at hl 0 rfl) ?_
    refine lv_dup hx hb dX10_advance_78 rfl ?_
    refine va_get (D := (dC, dI)) (ci := 0) (v := .int (w7 0 7)) (C := RX10) (T := TX10) (N := 8) hx hb hts i_X10 hown hK hP 0 rfl rfl 7 (by decide) (hts _ qw4) (fun _ h9 => h9) rfl dX10_advance_79 ?_
    refine lv_iconst (v := 1) hx hb dX10_advance_82 (by decide) ?_
    refine lv_iadd hx hb dX10_advance_83 ?_
    refine va_put (D := (dC, dI)) (ci := 0) (v := .int ((w7 0 7) + 1)) (ty := .int) (C := RX10) (T := TX10) (N := 8) hx hb hts i_X10 tyX10 tyX10_ok nmX10 hown hK hP hD hS 0 rfl rfl 7 (by decide) (hts _ qw4) (fun _ h9 => h9) rfl (by decide +kernel) rfl rfl (Nat.le_of_ble_eq_true rfl) dX10_advance_84 (fun H locs hP hD hS => ?_)
    have hP : va_P (dC, dI) cls (List.flatten ([(oX10 (p0a 0) p0a p0k (upw w7 0 7 ((w7 0 7) + 1)) p0l)] : List va_W)) H := hP
    have hD : va_D A (List.flatten ([(oX10 (p0a 0) p0a p0k (upw w7 0 7 ((w7 0 7) + 1)) p0l)] : List va_W)) := hD
    obtain ⟨w9, ew9, hrun⟩ := let9 hrun
    rw [← ew9] at hP hD
    refine lv_aload_n hx hb dX10_advance_87 rfl (lv_at hl 0 rfl) ?_
    refine va_get (D := (dC, dI)) (ci := 0) (v := .ref (p0a 1)) (C := RX10) (T := TX10) (N := 8) hx hb hts i_X10 hown hK hP 0 rfl rfl 0 (by decide) (hts _ qw2) (fun _ h9 => h9) rfl dX10_advance_88 ?_
    refine lv_aload_n hx hb dX10_advance_91 rfl (lv_at hl 0 rfl) ?_
    refine va_get (D := (dC, dI)) (ci := 0) (v := .int (w9 0 6)) (C := RX10) (T := TX10) (N := 8) hx hb hts i_X10 hown hK hP 0 rfl rfl 6 (by decide) (hts _ qw0) (fun _ h9 => h9) rfl dX10_advance_92 ?_
    obtain ⟨hq10, hrun⟩ := chk9 hrun
    refine va_iald hx hb hK hP 1 0 rfl rfl (ixb_in hq10) dX10_advance_95 ?_
    refine lv_istore_n (lv' := [(1, .int (w9 1 (nn (w9 0 6)))), (0, .ref (p0a 0))]) hx hb dX10_advance_96 rfl hl (by decide) rfl (fun ls hl => ?_)
    refine lv_aload_n hx hb dX10_advance_97 rfl (lv_at hl 1 rfl) ?_
    refine va_get (D := (dC, dI)) (ci := 0) (v := .int (w9 0 7)) (C := RX10) (T := TX10) (N := 8) hx hb hts i_X10 hown hK hP 0 rfl rfl 7 (by decide) (hts _ qw4) (fun _ h9 => h9) rfl dX10_advance_98 ?_
    refine lv_sipush (v := 600) hx hb dX10_advance_101 (by decide) ?_
    have J200 : ∀ (p0w_200 : ST) (p0l_200 : SL) (H : Heap) (locs : List Loc) (ls : Array Slot), (fX10_advance_J200 p0w_200 p0l_200) = some o → va_P (dC, dI) cls (List.flatten ([(oX10 (p0a 0) p0a p0k p0w_200 p0l_200)] : List va_W)) H → va_D A (List.flatten ([(oX10 (p0a 0) p0a p0k p0w_200 p0l_200)] : List va_W)) → va_K (dC, dI) cls (List.flatten ([(tX10 p0k)] : List (List (ClassId × FieldType)))) s → va_S A s.heap H locs → lv_has ls 2 [] → W p l e ({ frames := 5, cells := 0, slots := 0, locals := 113 } : Room) s m ([.ref (p0a 0)] : List Value).toArray below meth c H locs 0 0 Q (F0 m 200 ls []) := by
      intro p0w_200 p0l_200 H locs ls hrun hP hD hK hS hl 
      unfold fX10_advance_J200 at hrun
      have ho9 : (p0w_200, p0l_200) = o := Option.some.inj hrun
      have hP9 : va_P (dC, dI) cls (List.flatten ([(oX10 (p0a 0) p0a p0k (o.1) (o.2))] : List va_W)) H := by first | exact hP | (rw [← ho9]; exact hP)
      have hD9 : va_D A (List.flatten ([(oX10 (p0a 0) p0a p0k (o.1) (o.2))] : List va_W)) := by first | exact hD | (rw [← ho9]; exact hD)
      subst hQ
      exact W.vret hx hb hr (fun t ht hW => ⟨⟨(), rfl, trivial, ⟨by rw [ht]; exact hP9, va_K.moved hW.alike hK, hD9⟩⟩, hS.F ht⟩) hS.2.2 dX10_advance_200
    rcases br9 hrun with ⟨hc11, hrun⟩ | ⟨hc11, hrun⟩
    · refine lv_icmp_le (tgt := 115) hx hb dX10_advance_104 (by decide) (fun _ => ?_) (fun c => absurd hc11 c)
      refine lv_iload_n hx hb dX10_advance_115 rfl (lv_at hl 0 rfl) ?_
      obtain ⟨o_12, hc_12, hrun⟩ := bnd9 hrun
      have hPx : va_P (dC, dI) cls ((List.flatten ([] : List va_W)) ++ (List.flatten ([(oX10 (p0a 0) p0a p0k w9 p0l)] : List va_W))) H := vP_fa (vP_perm hP (bP (List.Perm.refl _)))
      have hDx : va_D A ((List.flatten ([] : List va_W)) ++ (List.flatten ([(oX10 (p0a 0) p0a p0k w9 p0l)] : List va_W))) := vD_fa (vD_perm hD (bP (List.Perm.refl _)))
      have hKx : va_K (dC, dI) cls ((List.flatten ([] : List (List (ClassId × FieldType)))) ++ (List.flatten ([(tX10 p0k)] : List (List (ClassId × FieldType))))) s := vK_fa (vK_perm hK (bP (List.Perm.refl _)))
      have hPc := vP_l hPx
      have hDc := vD_l hDx
      have hKc := vK_l hKx
      have hFc := vfree hDx hS hA
      refine va_calli (va_runS (As := [.int (w9 1 (nn (w9 0 6)))]) (rest := []) ⟨hx, hb, hml, hown, hts⟩ (kX10_isLetter l dC dI (p0 := (w9 1 (nn (w9 0 6)))) (sz := _) (o := o_12) (hrun := hc_12)) (va_cwS 1 hts (gi_S qw6 qw7 qw8 (gi_z qw5)) rfl rfl rfl (by decide +kernel) ⟨Nat.le_of_ble_eq_true rfl, Nat.le_of_ble_eq_true rfl⟩) ⟨PRE.blind, PRE.of hE hS hFc hPc hKc hDc⟩ rfl rfl hl.1 rfl (lv_room (Nat.le_of_ble_eq_true rfl)) dX10_advance_116 ⟨(Nat.le_of_ble_eq_true rfl), (Nat.le_of_ble_eq_true rfl)⟩) hS (fun q _ h => hFc q h) hFc (fun r13 u t H locs ht hvm hw hB hz1 hk1 hS => ?_)
      obtain ⟨b1, b2, b3⟩ := hB
      rw [ht] at b1
      obtain ⟨hP, hD, hK⟩ := JOINC (wc := (List.flatten ([] : List va_W))) (wr := (List.flatten ([(oX10 (p0a 0) p0a p0k w9 p0l)] : List va_W))) (w1 := (List.flatten ([] : List va_W))) (t1 := (List.flatten ([] : List (List (ClassId × FieldType))))) hPx hDx hKx hk1 hFc b1 (va_K.moved hvm.symm b2) b3
      have hP : va_P (dC, dI) cls (List.flatten ([(oX10 (p0a 0) p0a p0k w9 p0l)] : List va_W)) H := vP_perm (vP_fb hP) (bP (List.Perm.refl _))
      have hD : va_D A (List.flatten ([(oX10 (p0a 0) p0a p0k w9 p0l)] : List va_W)) := vD_perm (vD_fb hD) (bP (List.Perm.refl _))
      have hK : va_K (dC, dI) cls (List.flatten ([(tX10 p0k)] : List (List (ClassId × FieldType)))) s := vK_perm (vK_fb hK) (bP (List.Perm.refl _))
      obtain rfl : o_12 = r13 := hw.symm
      rcases br9 hrun with ⟨hc14, hrun⟩ | ⟨hc14, hrun⟩
      · refine lv_if_eq (tgt := 158) hx hb dX10_advance_119 (by decide) (fun _ => ?_) (fun c => absurd hc14 c)
        refine lv_iload_n hx hb dX10_advance_158 rfl (lv_at hl 0 rfl) ?_
        obtain ⟨o_15, hc_15, hrun⟩ := bnd9 hrun
        have hPx : va_P (dC, dI) cls ((List.flatten ([] : List va_W)) ++ (List.flatten ([(oX10 (p0a 0) p0a p0k w9 p0l)] : List va_W))) H := vP_fa (vP_perm hP (bP (List.Perm.refl _)))
        have hDx : va_D A ((List.flatten ([] : List va_W)) ++ (List.flatten ([(oX10 (p0a 0) p0a p0k w9 p0l)] : List va_W))) := vD_fa (vD_perm hD (bP (List.Perm.refl _)))
        have hKx : va_K (dC, dI) cls ((List.flatten ([] : List (List (ClassId × FieldType)))) ++ (List.flatten ([(tX10 p0k)] : List (List (ClassId × FieldType))))) s := vK_fa (vK_perm hK (bP (List.Perm.refl _)))
        have hPc := vP_l hPx
        have hDc := vD_l hDx
        have hKc := vK_l hKx
        have hFc := vfree hDx hS hA
        refine va_calli (va_runS (As := [.int (w9 1 (nn (w9 0 6)))]) (rest := []) ⟨hx, hb, hml, hown, hts⟩ (kX10_isDigit l dC dI (p0 := (w9 1 (nn (w9 0 6)))) (sz := _) (o := o_15) (hrun := hc_15)) (va_cwS 1 hts (gi_S qw10 qw11 qw8 (gi_z qw9)) rfl rfl rfl (by decide +kernel) ⟨Nat.le_of_ble_eq_true rfl, Nat.le_of_ble_eq_true rfl⟩) ⟨PRE.blind, PRE.of hE hS hFc hPc hKc hDc⟩ rfl rfl hl.1 rfl (lv_room (Nat.le_of_ble_eq_true rfl)) dX10_advance_159 ⟨(Nat.le_of_ble_eq_true rfl), (Nat.le_of_ble_eq_true rfl)⟩) hS (fun q _ h => hFc q h) hFc (fun r16 u t H locs ht hvm hw hB hz1 hk1 hS => ?_)
        obtain ⟨b1, b2, b3⟩ := hB
        rw [ht] at b1
        obtain ⟨hP, hD, hK⟩ := JOINC (wc := (List.flatten ([] : List va_W))) (wr := (List.flatten ([(oX10 (p0a 0) p0a p0k w9 p0l)] : List va_W))) (w1 := (List.flatten ([] : List va_W))) (t1 := (List.flatten ([] : List (List (ClassId × FieldType))))) hPx hDx hKx hk1 hFc b1 (va_K.moved hvm.symm b2) b3
        have hP : va_P (dC, dI) cls (List.flatten ([(oX10 (p0a 0) p0a p0k w9 p0l)] : List va_W)) H := vP_perm (vP_fb hP) (bP (List.Perm.refl _))
        have hD : va_D A (List.flatten ([(oX10 (p0a 0) p0a p0k w9 p0l)] : List va_W)) := vD_perm (vD_fb hD) (bP (List.Perm.refl _))
        have hK : va_K (dC, dI) cls (List.flatten ([(tX10 p0k)] : List (List (ClassId × FieldType)))) s := vK_perm (vK_fb hK) (bP (List.Perm.refl _))
        obtain rfl : o_15 = r16 := hw.symm
        rcases br9 hrun with ⟨hc17, hrun⟩ | ⟨hc17, hrun⟩
        · refine lv_if_eq (tgt := 195) hx hb dX10_advance_162 (by decide) (fun _ => ?_) (fun c => absurd hc17 c)
          refine lv_aload_n hx hb dX10_advance_195 rfl (lv_at hl 1 rfl) ?_
          refine lv_iload_n hx hb dX10_advance_196 rfl (lv_at hl 0 rfl) ?_
          obtain ⟨o_18, hc_18, hrun⟩ := bnd9 hrun
          have hPx : va_P (dC, dI) cls ((List.flatten ([(oX10 (p0a 0) p0a p0k w9 p0l)] : List va_W)) ++ (List.flatten ([] : List va_W))) H := vP_fa (vP_perm hP (bP (List.Perm.refl _)))
          have hDx : va_D A ((List.flatten ([(oX10 (p0a 0) p0a p0k w9 p0l)] : List va_W)) ++ (List.flatten ([] : List va_W))) := vD_fa (vD_perm hD (bP (List.Perm.refl _)))
          have hKx : va_K (dC, dI) cls ((List.flatten ([(tX10 p0k)] : List (List (ClassId × FieldType)))) ++ (List.flatten ([] : List (List (ClassId × FieldType))))) s := vK_fa (vK_perm hK (bP (List.Perm.refl _)))
          have hPc := vP_l hPx
          have hDc := vD_l hDx
          have hKc := vK_l hKx
          have hFc := vfree hDx hS hA
          refine va_callv (va_runV (As := [.int (w9 1 (nn (w9 0 6)))]) (rest := []) ⟨hx, hb, hml, hown, hts⟩ (kX10_readSign l dC dI (p0a := p0a) (p0k := p0k) (p0w := w9) (p0l := p0l) (p1 := (w9 1 (nn (w9 0 6)))) (aK := aK) (aV := aV) (sz := _) (o := o_18) (hrun := hc_18)) (cwV 1 hts (gi_V qw1366 qw1367 qw1368 qw8 (gi_z qw1365)) rfl rfl rfl (by decide +kernel) ⟨Nat.le_of_ble_eq_true rfl, Nat.le_of_ble_eq_true rfl⟩) ⟨PRE.blind, va_recv hKc hPc (ci := 0) (q0 := 0) rfl rfl, PRE.of (ENV.add hE st9_m hro_st) hS hFc hPc hKc hDc⟩ rfl rfl hl.1 rfl (lv_room (Nat.le_of_ble_eq_true rfl)) dX10_advance_197 ⟨(Nat.le_of_ble_eq_true rfl), (Nat.le_of_ble_eq_true rfl)⟩) hS (fun q _ h => hFc q h) hFc (fun u t H locs ht hvm hw hB hz1 hk1 hS => ?_)
          obtain ⟨b1, b2, b3⟩ := hB
          rw [ht] at b1
          obtain ⟨hP, hD, hK⟩ := JOINC (wc := (List.flatten ([(oX10 (p0a 0) p0a p0k w9 p0l)] : List va_W))) (wr := (List.flatten ([] : List va_W))) (w1 := (List.flatten ([(oX10 (p0a 0) p0a p0k o_18 p0l)] : List va_W))) (t1 := (List.flatten ([(tX10 p0k)] : List (List (ClassId × FieldType))))) hPx hDx hKx hk1 hFc b1 (va_K.moved hvm.symm b2) b3
          have hP : va_P (dC, dI) cls (List.flatten ([(oX10 (p0a 0) p0a p0k o_18 p0l)] : List va_W)) H := vP_perm (vP_fb hP) (bP (List.Perm.refl _))
          have hD : va_D A (List.flatten ([(oX10 (p0a 0) p0a p0k o_18 p0l)] : List va_W)) := vD_perm (vD_fb hD) (bP (List.Perm.refl _))
          have hK : va_K (dC, dI) cls (List.flatten ([(tX10 p0k)] : List (List (ClassId × FieldType)))) s := vK_perm (vK_fb hK) (bP (List.Perm.refl _))
          exact J200 o_18 p0l _ _ _ hrun hP hD hK hS (lv_sub hl [] rfl)
        · refine lv_if_eq (tgt := 195) hx hb dX10_advance_162 (by decide) (fun c => absurd c hc17) (fun _ => ?_)
          refine lv_aload_n hx hb dX10_advance_165 rfl (lv_at hl 1 rfl) ?_
          obtain ⟨o_19, hc_19, hrun⟩ := bnd9 hrun
          have hPx : va_P (dC, dI) cls ((List.flatten ([(oX10 (p0a 0) p0a p0k w9 p0l)] : List va_W)) ++ (List.flatten ([] : List va_W))) H := vP_fa (vP_perm hP (bP (List.Perm.refl _)))
          have hDx : va_D A ((List.flatten ([(oX10 (p0a 0) p0a p0k w9 p0l)] : List va_W)) ++ (List.flatten ([] : List va_W))) := vD_fa (vD_perm hD (bP (List.Perm.refl _)))
          have hKx : va_K (dC, dI) cls ((List.flatten ([(tX10 p0k)] : List (List (ClassId × FieldType)))) ++ (List.flatten ([] : List (List (ClassId × FieldType))))) s := vK_fa (vK_perm hK (bP (List.Perm.refl _)))
          have hPc := vP_l hPx
          have hDc := vD_l hDx
          have hKc := vK_l hKx
          have hFc := vfree hDx hS hA
          refine va_callv (va_runV (As := []) (rest := []) ⟨hx, hb, hml, hown, hts⟩ (kX10_readFigure l dC dI (p0a := p0a) (p0k := p0k) (p0w := w9) (p0l := p0l) (sz := _) (o := o_19) (hrun := hc_19)) (cwV 0 hts (gi_V qw1370 qw1371 qw1372 qw8 (gi_z qw1369)) rfl rfl rfl (by decide +kernel) ⟨Nat.le_of_ble_eq_true rfl, Nat.le_of_ble_eq_true rfl⟩) ⟨PRE.blind, va_recv hKc hPc (ci := 0) (q0 := 0) rfl rfl, PRE.of hE hS hFc hPc hKc hDc⟩ rfl rfl hl.1 rfl (lv_room (Nat.le_of_ble_eq_true rfl)) dX10_advance_166 ⟨(Nat.le_of_ble_eq_true rfl), (Nat.le_of_ble_eq_true rfl)⟩) hS (fun q _ h => hFc q h) hFc (fun u t H locs ht hvm hw hB hz1 hk1 hS => ?_)
          obtain ⟨b1, b2, b3⟩ := hB
          rw [ht] at b1
          obtain ⟨hP, hD, hK⟩ := JOINC (wc := (List.flatten ([(oX10 (p0a 0) p0a p0k w9 p0l)] : List va_W))) (wr := (List.flatten ([] : List va_W))) (w1 := (List.flatten ([(oX10 (p0a 0) p0a p0k o_19 p0l)] : List va_W))) (t1 := (List.flatten ([(tX10 p0k)] : List (List (ClassId × FieldType))))) hPx hDx hKx hk1 hFc b1 (va_K.moved hvm.symm b2) b3
          have hP : va_P (dC, dI) cls (List.flatten ([(oX10 (p0a 0) p0a p0k o_19 p0l)] : List va_W)) H := vP_perm (vP_fb hP) (bP (List.Perm.refl _))
          have hD : va_D A (List.flatten ([(oX10 (p0a 0) p0a p0k o_19 p0l)] : List va_W)) := vD_perm (vD_fb hD) (bP (List.Perm.refl _))
          have hK : va_K (dC, dI) cls (List.flatten ([(tX10 p0k)] : List (List (ClassId × FieldType)))) s := vK_perm (vK_fb hK) (bP (List.Perm.refl _))
          refine lv_aload_n hx hb dX10_advance_169 rfl (lv_at hl 1 rfl) ?_
          refine lv_aload_n hx hb dX10_advance_170 rfl (lv_at hl 1 rfl) ?_
          refine va_get (D := (dC, dI)) (ci := 0) (v := .int (o_19 0 6)) (C := RX10) (T := TX10) (N := 8) hx hb hts i_X10 hown hK hP 0 rfl rfl 6 (by decide) (hts _ qw0) (fun _ h9 => h9) rfl dX10_advance_171 ?_
          refine lv_aload_n hx hb dX10_advance_174 rfl (lv_at hl 1 rfl) ?_
          refine va_get (D := (dC, dI)) (ci := 0) (v := .int (o_19 0 3)) (C := RX10) (T := TX10) (N := 8) hx hb hts i_X10 hown hK hP 0 rfl rfl 3 (by decide) (hts _ qw3) (fun _ h9 => h9) rfl dX10_advance_175 ?_
          refine lv_isub hx hb dX10_advance_178 ?_
          refine lv_bipush (v := 9) hx hb dX10_advance_179 (by decide) ?_
          have J189 : ∀ (y0_189 : Int32) (H : Heap) (locs : List Loc) (ls : Array Slot), (fX10_advance_J189 p0l o_19 y0_189) = some o → va_P (dC, dI) cls (List.flatten ([(oX10 (p0a 0) p0a p0k o_19 p0l)] : List va_W)) H → va_D A (List.flatten ([(oX10 (p0a 0) p0a p0k o_19 p0l)] : List va_W)) → va_K (dC, dI) cls (List.flatten ([(tX10 p0k)] : List (List (ClassId × FieldType)))) s → va_S A s.heap H locs → lv_has ls 2 [] → W p l e ({ frames := 5, cells := 0, slots := 0, locals := 113 } : Room) s m ([.ref (p0a 0)] : List Value).toArray below meth c H locs 0 0 Q (F0 m 189 ls [.int y0_189, .ref (p0a 0)]) := by
            intro y0_189 H locs ls hrun hP hD hK hS hl 
            unfold fX10_advance_J189 at hrun
            refine va_put (D := (dC, dI)) (ci := 0) (v := .int y0_189) (ty := .int) (C := RX10) (T := TX10) (N := 8) hx hb hts i_X10 tyX10 tyX10_ok nmX10 hown hK hP hD hS 0 rfl rfl 2 (by decide) (hts _ qw12) (fun _ h9 => h9) rfl (by decide +kernel) rfl rfl (Nat.le_of_ble_eq_true rfl) dX10_advance_189 (fun H locs hP hD hS => ?_)
            have hP : va_P (dC, dI) cls (List.flatten ([(oX10 (p0a 0) p0a p0k (upw o_19 0 2 y0_189) p0l)] : List va_W)) H := hP
            have hD : va_D A (List.flatten ([(oX10 (p0a 0) p0a p0k (upw o_19 0 2 y0_189) p0l)] : List va_W)) := hD
            obtain ⟨w20, ew20, hrun⟩ := let9 hrun
            rw [← ew20] at hP hD
            refine lv_goto (tgt := 200) hx hb dX10_advance_192 (by decide) ?_
            exact J200 w20 p0l _ _ _ hrun hP hD hK hS (lv_sub hl [] rfl)
          rcases br9 hrun with ⟨hc21, hrun⟩ | ⟨hc21, hrun⟩
          · refine lv_icmp_le (tgt := 188) hx hb dX10_advance_181 (by decide) (fun _ => ?_) (fun c => absurd hc21 c)
            refine lv_iconst (v := 2) hx hb dX10_advance_188 (by decide) ?_
            exact J189 2 _ _ _ hrun hP hD hK hS (lv_sub hl [] rfl)
          · refine lv_icmp_le (tgt := 188) hx hb dX10_advance_181 (by decide) (fun c => absurd c hc21) (fun _ => ?_)
            refine lv_iconst (v := 1) hx hb dX10_advance_184 (by decide) ?_
            refine lv_goto (tgt := 189) hx hb dX10_advance_185 (by decide) ?_
            exact J189 1 _ _ _ hrun hP hD hK hS (lv_sub hl [] rfl)
      · refine lv_if_eq (tgt := 158) hx hb dX10_advance_119 (by decide) (fun c => absurd c hc14) (fun _ => ?_)
        refine lv_aload_n hx hb dX10_advance_122 rfl (lv_at hl 1 rfl) ?_
        obtain ⟨o_22, hc_22, hrun⟩ := bnd9 hrun
        have hPx : va_P (dC, dI) cls ((List.flatten ([(oX10 (p0a 0) p0a p0k w9 p0l)] : List va_W)) ++ (List.flatten ([] : List va_W))) H := vP_fa (vP_perm hP (bP (List.Perm.refl _)))
        have hDx : va_D A ((List.flatten ([(oX10 (p0a 0) p0a p0k w9 p0l)] : List va_W)) ++ (List.flatten ([] : List va_W))) := vD_fa (vD_perm hD (bP (List.Perm.refl _)))
        have hKx : va_K (dC, dI) cls ((List.flatten ([(tX10 p0k)] : List (List (ClassId × FieldType)))) ++ (List.flatten ([] : List (List (ClassId × FieldType))))) s := vK_fa (vK_perm hK (bP (List.Perm.refl _)))
        have hPc := vP_l hPx
        have hDc := vD_l hDx
        have hKc := vK_l hKx
        have hFc := vfree hDx hS hA
        refine va_callv (va_runV (As := []) (rest := []) ⟨hx, hb, hml, hown, hts⟩ (kX10_readWord l dC dI (p0a := p0a) (p0k := p0k) (p0w := w9) (p0l := p0l) (sz := _) (o := o_22) (hrun := hc_22)) (cwV 0 hts (gi_V qw1374 qw1375 qw1376 qw8 (gi_z qw1373)) rfl rfl rfl (by decide +kernel) ⟨Nat.le_of_ble_eq_true rfl, Nat.le_of_ble_eq_true rfl⟩) ⟨PRE.blind, va_recv hKc hPc (ci := 0) (q0 := 0) rfl rfl, PRE.of hE hS hFc hPc hKc hDc⟩ rfl rfl hl.1 rfl (lv_room (Nat.le_of_ble_eq_true rfl)) dX10_advance_123 ⟨(Nat.le_of_ble_eq_true rfl), (Nat.le_of_ble_eq_true rfl)⟩) hS (fun q _ h => hFc q h) hFc (fun u t H locs ht hvm hw hB hz1 hk1 hS => ?_)
        obtain ⟨b1, b2, b3⟩ := hB
        rw [ht] at b1
        obtain ⟨hP, hD, hK⟩ := JOINC (wc := (List.flatten ([(oX10 (p0a 0) p0a p0k w9 p0l)] : List va_W))) (wr := (List.flatten ([] : List va_W))) (w1 := (List.flatten ([(oX10 (p0a 0) p0a p0k (o_22.1) (o_22.2))] : List va_W))) (t1 := (List.flatten ([(tX10 p0k)] : List (List (ClassId × FieldType))))) hPx hDx hKx hk1 hFc b1 (va_K.moved hvm.symm b2) b3
        have hP : va_P (dC, dI) cls (List.flatten ([(oX10 (p0a 0) p0a p0k (o_22.1) (o_22.2))] : List va_W)) H := vP_perm (vP_fb hP) (bP (List.Perm.refl _))
        have hD : va_D A (List.flatten ([(oX10 (p0a 0) p0a p0k (o_22.1) (o_22.2))] : List va_W)) := vD_perm (vD_fb hD) (bP (List.Perm.refl _))
        have hK : va_K (dC, dI) cls (List.flatten ([(tX10 p0k)] : List (List (ClassId × FieldType)))) s := vK_perm (vK_fb hK) (bP (List.Perm.refl _))
        refine lv_aload_n hx hb dX10_advance_126 rfl (lv_at hl 1 rfl) ?_
        refine lv_aload_n hx hb dX10_advance_127 rfl (lv_at hl 1 rfl) ?_
        refine va_get (D := (dC, dI)) (ci := 0) (v := .int ((o_22.1) 0 6)) (C := RX10) (T := TX10) (N := 8) hx hb hts i_X10 hown hK hP 0 rfl rfl 6 (by decide) (hts _ qw0) (fun _ h9 => h9) rfl dX10_advance_128 ?_
        refine lv_aload_n hx hb dX10_advance_131 rfl (lv_at hl 1 rfl) ?_
        refine va_get (D := (dC, dI)) (ci := 0) (v := .int ((o_22.1) 0 3)) (C := RX10) (T := TX10) (N := 8) hx hb hts i_X10 hown hK hP 0 rfl rfl 3 (by decide) (hts _ qw3) (fun _ h9 => h9) rfl dX10_advance_132 ?_
        refine lv_isub hx hb dX10_advance_135 ?_
        refine lv_bipush (v := 8) hx hb dX10_advance_136 (by decide) ?_
        have J152 : ∀ (y0_152 : Int32) (H : Heap) (locs : List Loc) (ls : Array Slot), (fX10_advance_J152 o_22 y0_152) = some o → va_P (dC, dI) cls (List.flatten ([(oX10 (p0a 0) p0a p0k (o_22.1) (o_22.2))] : List va_W)) H → va_D A (List.flatten ([(oX10 (p0a 0) p0a p0k (o_22.1) (o_22.2))] : List va_W)) → va_K (dC, dI) cls (List.flatten ([(tX10 p0k)] : List (List (ClassId × FieldType)))) s → va_S A s.heap H locs → lv_has ls 2 [] → W p l e ({ frames := 5, cells := 0, slots := 0, locals := 113 } : Room) s m ([.ref (p0a 0)] : List Value).toArray below meth c H locs 0 0 Q (F0 m 152 ls [.int y0_152, .ref (p0a 0)]) := by
          intro y0_152 H locs ls hrun hP hD hK hS hl 
          unfold fX10_advance_J152 at hrun
          refine va_put (D := (dC, dI)) (ci := 0) (v := .int y0_152) (ty := .int) (C := RX10) (T := TX10) (N := 8) hx hb hts i_X10 tyX10 tyX10_ok nmX10 hown hK hP hD hS 0 rfl rfl 2 (by decide) (hts _ qw12) (fun _ h9 => h9) rfl (by decide +kernel) rfl rfl (Nat.le_of_ble_eq_true rfl) dX10_advance_152 (fun H locs hP hD hS => ?_)
          have hP : va_P (dC, dI) cls (List.flatten ([(oX10 (p0a 0) p0a p0k (upw (o_22.1) 0 2 y0_152) (o_22.2))] : List va_W)) H := hP
          have hD : va_D A (List.flatten ([(oX10 (p0a 0) p0a p0k (upw (o_22.1) 0 2 y0_152) (o_22.2))] : List va_W)) := hD
          obtain ⟨w23, ew23, hrun⟩ := let9 hrun
          rw [← ew23] at hP hD
          refine lv_goto (tgt := 200) hx hb dX10_advance_155 (by decide) ?_
          exact J200 w23 (o_22.2) _ _ _ hrun hP hD hK hS (lv_sub hl [] rfl)
        rcases br9 hrun with ⟨hc24, hrun⟩ | ⟨hc24, hrun⟩
        · refine lv_icmp_le (tgt := 145) hx hb dX10_advance_138 (by decide) (fun _ => ?_) (fun c => absurd hc24 c)
          refine lv_aload_n hx hb dX10_advance_145 rfl (lv_at hl 1 rfl) ?_
          refine va_get (D := (dC, dI)) (ci := 0) (v := .long ((o_22.2) 0 5)) (C := RX10) (T := TX10) (N := 8) hx hb hts i_X10 hown hK hP 0 rfl rfl 5 (by decide) (hts _ qw22) (fun _ h9 => h9) rfl dX10_advance_146 ?_
          obtain ⟨o_25, hc_25, hrun⟩ := bnd9 hrun
          have hPx : va_P (dC, dI) cls ((List.flatten ([] : List va_W)) ++ (List.flatten ([(oX10 (p0a 0) p0a p0k (o_22.1) (o_22.2))] : List va_W))) H := vP_fa (vP_perm hP (bP (List.Perm.refl _)))
          have hDx : va_D A ((List.flatten ([] : List va_W)) ++ (List.flatten ([(oX10 (p0a 0) p0a p0k (o_22.1) (o_22.2))] : List va_W))) := vD_fa (vD_perm hD (bP (List.Perm.refl _)))
          have hKx : va_K (dC, dI) cls ((List.flatten ([] : List (List (ClassId × FieldType)))) ++ (List.flatten ([(tX10 p0k)] : List (List (ClassId × FieldType))))) s := vK_fa (vK_perm hK (bP (List.Perm.refl _)))
          have hPc := vP_l hPx
          have hDc := vD_l hDx
          have hKc := vK_l hKx
          have hFc := vfree hDx hS hA
          refine va_calli (va_runS (As := [.long ((o_22.2) 0 5)]) (rest := [.ref (p0a 0)]) ⟨hx, hb, hml, hown, hts⟩ (kX10_kindOfWord l dC dI (p0 := ((o_22.2) 0 5)) (sz := _) (o := o_25) (hrun := hc_25)) (va_cwS 1 hts (gi_S qw1378 qw1379 qw8 (gi_z qw1377)) rfl rfl rfl (by decide +kernel) ⟨Nat.le_of_ble_eq_true rfl, Nat.le_of_ble_eq_true rfl⟩) ⟨PRE.blind, PRE.of hE hS hFc hPc hKc hDc⟩ rfl rfl hl.1 rfl (lv_room (Nat.le_of_ble_eq_true rfl)) dX10_advance_149 ⟨(Nat.le_of_ble_eq_true rfl), (Nat.le_of_ble_eq_true rfl)⟩) hS (fun q _ h => hFc q h) hFc (fun r26 u t H locs ht hvm hw hB hz1 hk1 hS => ?_)
          obtain ⟨b1, b2, b3⟩ := hB
          rw [ht] at b1
          obtain ⟨hP, hD, hK⟩ := JOINC (wc := (List.flatten ([] : List va_W))) (wr := (List.flatten ([(oX10 (p0a 0) p0a p0k (o_22.1) (o_22.2))] : List va_W))) (w1 := (List.flatten ([] : List va_W))) (t1 := (List.flatten ([] : List (List (ClassId × FieldType))))) hPx hDx hKx hk1 hFc b1 (va_K.moved hvm.symm b2) b3
          have hP : va_P (dC, dI) cls (List.flatten ([(oX10 (p0a 0) p0a p0k (o_22.1) (o_22.2))] : List va_W)) H := vP_perm (vP_fb hP) (bP (List.Perm.refl _))
          have hD : va_D A (List.flatten ([(oX10 (p0a 0) p0a p0k (o_22.1) (o_22.2))] : List va_W)) := vD_perm (vD_fb hD) (bP (List.Perm.refl _))
          have hK : va_K (dC, dI) cls (List.flatten ([(tX10 p0k)] : List (List (ClassId × FieldType)))) s := vK_perm (vK_fb hK) (bP (List.Perm.refl _))
          obtain rfl : o_25 = r26 := hw.symm
          exact J152 o_25 _ _ _ hrun hP hD hK hS (lv_sub hl [] rfl)
        · refine lv_icmp_le (tgt := 145) hx hb dX10_advance_138 (by decide) (fun c => absurd c hc24) (fun _ => ?_)
          refine lv_iconst (v := 1) hx hb dX10_advance_141 (by decide) ?_
          refine lv_goto (tgt := 152) hx hb dX10_advance_142 (by decide) ?_
          exact J152 1 _ _ _ hrun hP hD hK hS (lv_sub hl [] rfl)
    · refine lv_icmp_le (tgt := 115) hx hb dX10_advance_104 (by decide) (fun c => absurd c hc11) (fun _ => ?_)
      refine lv_aload_n hx hb dX10_advance_107 rfl (lv_at hl 1 rfl) ?_
      refine lv_iconst (v := 1) hx hb dX10_advance_108 (by decide) ?_
      refine va_put (D := (dC, dI)) (ci := 0) (v := .int 1) (ty := .int) (C := RX10) (T := TX10) (N := 8) hx hb hts i_X10 tyX10 tyX10_ok nmX10 hown hK hP hD hS 0 rfl rfl 2 (by decide) (hts _ qw12) (fun _ h9 => h9) rfl (by decide +kernel) rfl rfl (Nat.le_of_ble_eq_true rfl) dX10_advance_109 (fun H locs hP hD hS => ?_)
      have hP : va_P (dC, dI) cls (List.flatten ([(oX10 (p0a 0) p0a p0k (upw w9 0 2 1) p0l)] : List va_W)) H := hP
      have hD : va_D A (List.flatten ([(oX10 (p0a 0) p0a p0k (upw w9 0 2 1) p0l)] : List va_W)) := hD
      obtain ⟨w27, ew27, hrun⟩ := let9 hrun
      rw [← ew27] at hP hD
      refine lv_goto (tgt := 200) hx hb dX10_advance_112 (by decide) ?_
      exact J200 w27 p0l _ _ _ hrun hP hD hK hS (lv_sub hl [] rfl)
  · refine lv_icmp_lt (tgt := 77) hx hb dX10_advance_68 (by decide) (fun c => absurd c hc8) (fun _ => ?_)
    refine lv_aload_n hx hb dX10_advance_71 rfl (lv_at hl 0 rfl) ?_
    refine lv_iconst (v := 0) hx hb dX10_advance_72 (by decide) ?_
    refine va_put (D := (dC, dI)) (ci := 0) (v := .int 0) (ty := .int) (C := RX10) (T := TX10) (N := 8) hx hb hts i_X10 tyX10 tyX10_ok nmX10 hown hK hP hD hS 0 rfl rfl 2 (by decide) (hts _ qw12) (fun _ h9 => h9) rfl (by decide +kernel) rfl rfl (Nat.le_of_ble_eq_true rfl) dX10_advance_73 (fun H locs hP hD hS => ?_)
    have hP : va_P (dC, dI) cls (List.flatten ([(oX10 (p0a 0) p0a p0k (upw w7 0 2 0) p0l)] : List va_W)) H := hP
    have hD : va_D A (List.flatten ([(oX10 (p0a 0) p0a p0k (upw w7 0 2 0) p0l)] : List va_W)) := hD
    obtain ⟨w28, ew28, hrun⟩ := let9 hrun
    rw [← ew28] at hP hD
    have ho9 : (w28, p0l) = o := Option.some.inj hrun
    have hP9 : va_P (dC, dI) cls (List.flatten ([(oX10 (p0a 0) p0a p0k (o.1) (o.2))] : List va_W)) H := by first | exact hP | (rw [← ho9]; exact hP)
    have hD9 : va_D A (List.flatten ([(oX10 (p0a 0) p0a p0k (o.1) (o.2))] : List va_W)) := by first | exact hD | (rw [← ho9]; exact hD)
    subst hQ
    exact W.vret hx hb hr (fun t ht hW => ⟨⟨(), rfl, trivial, ⟨by rw [ht]; exact hP9, va_K.moved hW.alike hK, hD9⟩⟩, hS.F ht⟩) hS.2.2 dX10_advance_76
set_option maxHeartbeats 16000000 in
set_option maxRecDepth 100000 in
theorem kX10_begin {zs : ZS} (l : Launch) (dC : Nat → ClassId) (dI : Nat → Nat → Nat) (p0a : Nat → Nat) (p0k : Nat → ClassId) (p0w : ST) (p0l : SL) (aK : Nat → Nat) (aV : Nat → Nat) (sz : Nat) (o : ST × SL) (hrun : fX10_begin p0w p0l = some o) : Met l yX10_begin (wz yX10_begin cX10_begin 1 (Option.none : Option Jvm.ClassFile.FieldType)) ({ frames := 6, cells := 0, slots := 0, locals := 134 } : Room) (va_Pc [.ref (p0a 0)] (PRE (zA zs (st9 aK aV)) dC dI (List.flatten ([(oX10 (p0a 0) p0a p0k p0w p0l)] : List va_W)) (List.flatten ([(tX10 p0k)] : List (List (ClassId × FieldType)))) sz)) (va_Qv (fun (_ : Unit) => True) (fun _ t => POST dC dI (List.flatten ([(oX10 (p0a 0) p0a p0k (o.1) (o.2))] : List va_W)) (List.flatten ([(tX10 p0k)] : List (List (ClassId × FieldType)))) (va_A (List.flatten ([(oX10 (p0a 0) p0a p0k p0w p0l)] : List va_W)) sz) t) (va_A (List.flatten ([(oX10 (p0a 0) p0a p0k p0w p0l)] : List va_W)) sz)) 0 0 (va_A (List.flatten ([(oX10 (p0a 0) p0a p0k p0w p0l)] : List va_W)) sz) := by
  refine Met.ofW (cc := cX10_begin) (maxL := 1) (ret := (Option.none : Option Jvm.ClassFile.FieldType)) (by decide) rfl ?_
  intro p e s m args below meth c s₁ B hml hv
  obtain ⟨rfl, hsz, hP, hK, hD0, hE⟩ := hv
  have hx := B.exec
  have hb := B.bytes
  have hr := B.returns
  have hts0 := atoms_spec (ws := wz yX10_begin cX10_begin 1 (Option.none : Option Jvm.ClassFile.FieldType)) B.pre
  have hts : ∀ w ∈ gw, w.before _ s = true := fun w h => hts0 w (List.mem_cons_of_mem _ h)
  have hown : s.vm.findClass RX10 = some m.cls := findClass_of_methodNamed B.named
  have hlocks := B.notSynchronized
  subst hsz
  have hD := hD0.self (sz := s.heap.size)
  refine gQ9 ?_
  intro Q hQ
  generalize hAe : va_A (List.flatten ([(oX10 (p0a 0) p0a p0k p0w p0l)] : List va_W)) s.heap.size = A at hD hE hQ
  have hA : ∀ q : Nat, s.heap.size ≤ q → A q := fun q h => by rw [← hAe]; exact Or.inr h
  have hro := ENV.ex hE
  have hro_st := hro.2
  replace hro := hro.1
  have hS : va_S A s.heap s.heap [] := va_S.rf
  have hP : va_P (dC, dI) cls (List.flatten ([(oX10 (p0a 0) p0a p0k p0w p0l)] : List va_W)) s.heap := hP
  have hl := lv_entry ([.ref (p0a 0)]) (n := 1) (Nat.le_of_ble_eq_true rfl)
  rw [lg_entry_eq]
  generalize (lg_sl ([.ref (p0a 0)]) ++ List.replicate (1 - (lg_sl ([.ref (p0a 0)])).length) Slot.unset).toArray = ls at hl ⊢
  have hl : lv_has ls 1 [(0, .ref (p0a 0))] := hl
  obtain ⟨H, hHe⟩ : ∃ H, H = s.heap := ⟨_, rfl⟩
  obtain ⟨locs, hle⟩ : ∃ locs : List Loc, locs = [] := ⟨_, rfl⟩
  rw [← hHe] at hP
  have hS : va_S A s.heap H locs := by rw [hHe, hle]; exact hS
  show W p l e ({ frames := 6, cells := 0, slots := 0, locals := 134 } : Room) s m ([.ref (p0a 0)] : List Value).toArray below meth c s.heap [] 0 0 Q (F0 m 0 ls [])
  rw [← hle]
  refine wH9 hHe ?_
  unfold fX10_begin at hrun
  refine lv_aload_n hx hb dX10_begin_0 rfl (lv_at hl 0 rfl) ?_
  refine lv_iconst (v := 0) hx hb dX10_begin_1 (by decide) ?_
  refine va_put (D := (dC, dI)) (ci := 0) (v := .int 0) (ty := .int) (C := RX10) (T := TX10) (N := 8) hx hb hts i_X10 tyX10 tyX10_ok nmX10 hown hK hP hD hS 0 rfl rfl 6 (by decide) (hts _ qw0) (fun _ h9 => h9) rfl (by decide +kernel) rfl rfl (Nat.le_of_ble_eq_true rfl) dX10_begin_2 (fun H locs hP hD hS => ?_)
  have hP : va_P (dC, dI) cls (List.flatten ([(oX10 (p0a 0) p0a p0k (upw p0w 0 6 0) p0l)] : List va_W)) H := hP
  have hD : va_D A (List.flatten ([(oX10 (p0a 0) p0a p0k (upw p0w 0 6 0) p0l)] : List va_W)) := hD
  obtain ⟨w1, ew1, hrun⟩ := let9 hrun
  rw [← ew1] at hP hD
  refine lv_aload_n hx hb dX10_begin_5 rfl (lv_at hl 0 rfl) ?_
  refine lv_iconst (v := 0) hx hb dX10_begin_6 (by decide) ?_
  refine va_put (D := (dC, dI)) (ci := 0) (v := .int 0) (ty := .int) (C := RX10) (T := TX10) (N := 8) hx hb hts i_X10 tyX10 tyX10_ok nmX10 hown hK hP hD hS 0 rfl rfl 7 (by decide) (hts _ qw4) (fun _ h9 => h9) rfl (by decide +kernel) rfl rfl (Nat.le_of_ble_eq_true rfl) dX10_begin_7 (fun H locs hP hD hS => ?_)
  have hP : va_P (dC, dI) cls (List.flatten ([(oX10 (p0a 0) p0a p0k (upw w1 0 7 0) p0l)] : List va_W)) H := hP
  have hD : va_D A (List.flatten ([(oX10 (p0a 0) p0a p0k (upw w1 0 7 0) p0l)] : List va_W)) := hD
  obtain ⟨w2, ew2, hrun⟩ := let9 hrun
  rw [← ew2] at hP hD
  refine lv_aload_n hx hb dX10_begin_10 rfl (lv_at hl 0 rfl) ?_
  obtain ⟨o_3, hc_3, hrun⟩ := bnd9 hrun
  have hPx : va_P (dC, dI) cls ((List.flatten ([(oX10 (p0a 0) p0a p0k w2 p0l)] : List va_W)) ++ (List.flatten ([] : List va_W))) H := vP_fa (vP_perm hP (bP (List.Perm.refl _)))
  have hDx : va_D A ((List.flatten ([(oX10 (p0a 0) p0a p0k w2 p0l)] : List va_W)) ++ (List.flatten ([] : List va_W))) := vD_fa (vD_perm hD (bP (List.Perm.refl _)))
  have hKx : va_K (dC, dI) cls ((List.flatten ([(tX10 p0k)] : List (List (ClassId × FieldType)))) ++ (List.flatten ([] : List (List (ClassId × FieldType))))) s := vK_fa (vK_perm hK (bP (List.Perm.refl _)))
  have hPc := vP_l hPx
  have hDc := vD_l hDx
  have hKc := vK_l hKx
  have hFc := vfree hDx hS hA
  refine va_callv (va_runV (As := []) (rest := []) ⟨hx, hb, hml, hown, hts⟩ (kX10_advance l dC dI (p0a := p0a) (p0k := p0k) (p0w := w2) (p0l := p0l) (aK := aK) (aV := aV) (sz := _) (o := o_3) (hrun := hc_3)) (cwV 0 hts (gi_V qw1381 qw1382 qw1383 qw8 (gi_z qw1380)) rfl rfl rfl (by decide +kernel) ⟨Nat.le_of_ble_eq_true rfl, Nat.le_of_ble_eq_true rfl⟩) ⟨PRE.blind, va_recv hKc hPc (ci := 0) (q0 := 0) rfl rfl, PRE.of (ENV.add hE st9_m hro_st) hS hFc hPc hKc hDc⟩ rfl rfl hl.1 rfl (lv_room (Nat.le_of_ble_eq_true rfl)) dX10_begin_11 ⟨(Nat.le_of_ble_eq_true rfl), (Nat.le_of_ble_eq_true rfl)⟩) hS (fun q _ h => hFc q h) hFc (fun u t H locs ht hvm hw hB hz1 hk1 hS => ?_)
  obtain ⟨b1, b2, b3⟩ := hB
  rw [ht] at b1
  obtain ⟨hP, hD, hK⟩ := JOINC (wc := (List.flatten ([(oX10 (p0a 0) p0a p0k w2 p0l)] : List va_W))) (wr := (List.flatten ([] : List va_W))) (w1 := (List.flatten ([(oX10 (p0a 0) p0a p0k (o_3.1) (o_3.2))] : List va_W))) (t1 := (List.flatten ([(tX10 p0k)] : List (List (ClassId × FieldType))))) hPx hDx hKx hk1 hFc b1 (va_K.moved hvm.symm b2) b3
  have hP : va_P (dC, dI) cls (List.flatten ([(oX10 (p0a 0) p0a p0k (o_3.1) (o_3.2))] : List va_W)) H := vP_perm (vP_fb hP) (bP (List.Perm.refl _))
  have hD : va_D A (List.flatten ([(oX10 (p0a 0) p0a p0k (o_3.1) (o_3.2))] : List va_W)) := vD_perm (vD_fb hD) (bP (List.Perm.refl _))
  have hK : va_K (dC, dI) cls (List.flatten ([(tX10 p0k)] : List (List (ClassId × FieldType)))) s := vK_perm (vK_fb hK) (bP (List.Perm.refl _))
  have ho9 : ((o_3.1), (o_3.2)) = o := Option.some.inj hrun
  have hP9 : va_P (dC, dI) cls (List.flatten ([(oX10 (p0a 0) p0a p0k (o.1) (o.2))] : List va_W)) H := by first | exact hP | (rw [← ho9]; exact hP)
  have hD9 : va_D A (List.flatten ([(oX10 (p0a 0) p0a p0k (o.1) (o.2))] : List va_W)) := by first | exact hD | (rw [← ho9]; exact hD)
  subst hQ
  exact W.vret hx hb hr (fun t ht hW => ⟨⟨(), rfl, trivial, ⟨by rw [ht]; exact hP9, va_K.moved hW.alike hK, hD9⟩⟩, hS.F ht⟩) hS.2.2 dX10_begin_14
set_option maxHeartbeats 16000000 in
set_option maxRecDepth 100000 in
theorem kX7_expect {zs : ZS} (l : Launch) (dC : Nat → ClassId) (dI : Nat → Nat → Nat) (p0a : Nat → Nat) (p0k : Nat → ClassId) (p0w : ST) (p0l : SL) (p1 : Int32) (aK : Nat → Nat) (aV : Nat → Nat) (p0_1a : Nat → Nat) (p0_1k : Nat → ClassId) (p0_1w : ST) (p0_1l : SL) (sz : Nat) (o : ST × ST × SL) (hrun : fX7_expect p0w p1 p0_1w p0_1l = some o) : Met l yX7_expect (wz yX7_expect cX7_expect 3 (Option.none : Option Jvm.ClassFile.FieldType)) ({ frames := 6, cells := 0, slots := 0, locals := 134 } : Room) (va_Pc [.ref (p0a 0), .int p1] (PRE (zA zs (st9 aK aV)) dC dI (List.flatten ([(oX7 (p0a 0) p0a p0k p0w p0l), (oX10 (p0a 2) p0_1a p0_1k p0_1w p0_1l)] : List va_W)) (List.flatten ([(tX7 p0k), (tX10 p0_1k)] : List (List (ClassId × FieldType)))) sz)) (va_Qv (fun (_ : Unit) => True) (fun _ t => POST dC dI (List.flatten ([(oX7 (p0a 0) p0a p0k (o.1) p0l), (oX10 (p0a 2) p0_1a p0_1k (o.2.1) (o.2.2))] : List va_W)) (List.flatten ([(tX7 p0k), (tX10 p0_1k)] : List (List (ClassId × FieldType)))) (va_A (List.flatten ([(oX7 (p0a 0) p0a p0k p0w p0l), (oX10 (p0a 2) p0_1a p0_1k p0_1w p0_1l)] : List va_W)) sz) t) (va_A (List.flatten ([(oX7 (p0a 0) p0a p0k p0w p0l), (oX10 (p0a 2) p0_1a p0_1k p0_1w p0_1l)] : List va_W)) sz)) 0 0 (va_A (List.flatten ([(oX7 (p0a 0) p0a p0k p0w p0l), (oX10 (p0a 2) p0_1a p0_1k p0_1w p0_1l)] : List va_W)) sz) := by
  refine Met.ofW (cc := cX7_expect) (maxL := 3) (ret := (Option.none : Option Jvm.ClassFile.FieldType)) (by decide) rfl ?_
  intro p e s m args below meth c s₁ B hml hv
  obtain ⟨rfl, hsz, hP, hK, hD0, hE⟩ := hv
  have hx := B.exec
  have hb := B.bytes
  have hr := B.returns
  have hts0 := atoms_spec (ws := wz yX7_expect cX7_expect 3 (Option.none : Option Jvm.ClassFile.FieldType)) B.pre
  have hts : ∀ w ∈ gw, w.before _ s = true := fun w h => hts0 w (List.mem_cons_of_mem _ h)
  have hown : s.vm.findClass RX7 = some m.cls := findClass_of_methodNamed B.named
  have hlocks := B.notSynchronized
  subst hsz
  have hD := hD0.self (sz := s.heap.size)
  refine gQ9 ?_
  intro Q hQ
  generalize hAe : va_A (List.flatten ([(oX7 (p0a 0) p0a p0k p0w p0l), (oX10 (p0a 2) p0_1a p0_1k p0_1w p0_1l)] : List va_W)) s.heap.size = A at hD hE hQ
  have hA : ∀ q : Nat, s.heap.size ≤ q → A q := fun q h => by rw [← hAe]; exact Or.inr h
  have hro := ENV.ex hE
  have hro_st := hro.2
  replace hro := hro.1
  have hS : va_S A s.heap s.heap [] := va_S.rf
  have hP : va_P (dC, dI) cls (List.flatten ([(oX7 (p0a 0) p0a p0k p0w p0l), (oX10 (p0a 2) p0_1a p0_1k p0_1w p0_1l)] : List va_W)) s.heap := hP
  have hl := lv_entry ([.ref (p0a 0), .int p1]) (n := 3) (Nat.le_of_ble_eq_true rfl)
  rw [lg_entry_eq]
  generalize (lg_sl ([.ref (p0a 0), .int p1]) ++ List.replicate (3 - (lg_sl ([.ref (p0a 0), .int p1])).length) Slot.unset).toArray = ls at hl ⊢
  have hl : lv_has ls 3 [(0, .ref (p0a 0)), (1, .int p1)] := hl
  obtain ⟨H, hHe⟩ : ∃ H, H = s.heap := ⟨_, rfl⟩
  obtain ⟨locs, hle⟩ : ∃ locs : List Loc, locs = [] := ⟨_, rfl⟩
  rw [← hHe] at hP
  have hS : va_S A s.heap H locs := by rw [hHe, hle]; exact hS
  show W p l e ({ frames := 6, cells := 0, slots := 0, locals := 134 } : Room) s m ([.ref (p0a 0), .int p1] : List Value).toArray below meth c s.heap [] 0 0 Q (F0 m 0 ls [])
  rw [← hle]
  refine wH9 hHe ?_
  unfold fX7_expect at hrun
  refine lv_iload_n hx hb dX7_expect_0 rfl (lv_at hl 1 rfl) ?_
  refine lv_bipush (v := 40) hx hb dX7_expect_1 (by decide) ?_
  have J23 : ∀ (y0_23 : Int32) (H : Heap) (locs : List Loc) (ls : Array Slot), (fX7_expect_J23 p0w p1 p0_1w p0_1l y0_23) = some o → va_P (dC, dI) cls (List.flatten ([(oX7 (p0a 0) p0a p0k p0w p0l), (oX10 (p0a 2) p0_1a p0_1k p0_1w p0_1l)] : List va_W)) H → va_D A (List.flatten ([(oX7 (p0a 0) p0a p0k p0w p0l), (oX10 (p0a 2) p0_1a p0_1k p0_1w p0_1l)] : List va_W)) → va_K (dC, dI) cls (List.flatten ([(tX7 p0k), (tX10 p0_1k)] : List (List (ClassId × FieldType)))) s → va_S A s.heap H locs → lv_has ls 3 [(0, .ref (p0a 0)), (1, .int p1)] → W p l e ({ frames := 6, cells := 0, slots := 0, locals := 134 } : Room) s m ([.ref (p0a 0), .int p1] : List Value).toArray below meth c H locs 0 0 Q (F0 m 23 ls [.int y0_23]) := by
    intro y0_23 H locs ls hrun hP hD hK hS hl 
    unfold fX7_expect_J23 at hrun
    refine lv_istore_n (lv' := [(2, .int y0_23), (0, .ref (p0a 0)), (1, .int p1)]) hx hb dX7_expect_23 rfl hl (by decide) rfl (fun ls hl => ?_)
    refine lv_aload_n hx hb dX7_expect_24 rfl (lv_at hl 1 rfl) ?_
    refine va_get (D := (dC, dI)) (ci := 1) (v := .ref (p0a 2)) (C := RX7) (T := TX7) (N := 18) hx hb hts i_X7 hown hK hP 0 rfl rfl 1 (by decide) (hts _ qw45) (fun _ h9 => h9) rfl dX7_expect_25 ?_
    refine va_get (D := (dC, dI)) (ci := 0) (v := .int (p0_1w 0 2)) (C := RX10) (T := TX10) (N := 8) hx hb hts i_X10 hown hK hP 9 rfl rfl 2 (by decide) (hts _ qw46) (fun _ h9 => h9) rfl dX7_expect_28 ?_
    refine lv_iload_n hx hb dX7_expect_31 rfl (lv_at hl 2 rfl) ?_
    have J52 : ∀ (H : Heap) (locs : List Loc) (ls : Array Slot), (fX7_expect_J52 p0w p1 p0_1w p0_1l y0_23) = some o → va_P (dC, dI) cls (List.flatten ([(oX7 (p0a 0) p0a p0k p0w p0l), (oX10 (p0a 2) p0_1a p0_1k p0_1w p0_1l)] : List va_W)) H → va_D A (List.flatten ([(oX7 (p0a 0) p0a p0k p0w p0l), (oX10 (p0a 2) p0_1a p0_1k p0_1w p0_1l)] : List va_W)) → va_K (dC, dI) cls (List.flatten ([(tX7 p0k), (tX10 p0_1k)] : List (List (ClassId × FieldType)))) s → va_S A s.heap H locs → lv_has ls 3 [(0, .ref (p0a 0)), (1, .int p1), (2, .int y0_23)] → W p l e ({ frames := 6, cells := 0, slots := 0, locals := 134 } : Room) s m ([.ref (p0a 0), .int p1] : List Value).toArray below meth c H locs 0 0 Q (F0 m 52 ls []) := by
      intro  H locs ls hrun hP hD hK hS hl 
      unfold fX7_expect_J52 at hrun
      refine lv_iload_n hx hb dX7_expect_52 rfl (lv_at hl 2 rfl) ?_
      have J97 : ∀ (p0w_97 : ST) (H : Heap) (locs : List Loc) (ls : Array Slot), (fX7_expect_J97 p0_1w p0_1l p0w_97) = some o → va_P (dC, dI) cls (List.flatten ([(oX7 (p0a 0) p0a p0k p0w_97 p0l), (oX10 (p0a 2) p0_1a p0_1k p0_1w p0_1l)] : List va_W)) H → va_D A (List.flatten ([(oX7 (p0a 0) p0a p0k p0w_97 p0l), (oX10 (p0a 2) p0_1a p0_1k p0_1w p0_1l)] : List va_W)) → va_K (dC, dI) cls (List.flatten ([(tX7 p0k), (tX10 p0_1k)] : List (List (ClassId × FieldType)))) s → va_S A s.heap H locs → lv_has ls 3 [(0, .ref (p0a 0))] → W p l e ({ frames := 6, cells := 0, slots := 0, locals := 134 } : Room) s m ([.ref (p0a 0), .int p1] : List Value).toArray below meth c H locs 0 0 Q (F0 m 97 ls []) := by
        intro p0w_97 H locs ls hrun hP hD hK hS hl 
        unfold fX7_expect_J97 at hrun
        refine lv_aload_n hx hb dX7_expect_97 rfl (lv_at hl 0 rfl) ?_
        refine va_get (D := (dC, dI)) (ci := 1) (v := .ref (p0a 2)) (C := RX7) (T := TX7) (N := 18) hx hb hts i_X7 hown hK hP 0 rfl rfl 1 (by decide) (hts _ qw45) (fun _ h9 => h9) rfl dX7_expect_98 ?_
        obtain ⟨o_1, hc_1, hrun⟩ := bnd9 hrun
        have hPx : va_P (dC, dI) cls ((List.flatten ([(oX10 (p0a 2) p0_1a p0_1k p0_1w p0_1l)] : List va_W)) ++ (List.flatten ([(oX7 (p0a 0) p0a p0k p0w_97 p0l)] : List va_W))) H := vP_fa (vP_perm hP (bP ((((List.Perm.refl _)).cons _).trans (List.Perm.swap _ _ _))))
        have hDx : va_D A ((List.flatten ([(oX10 (p0a 2) p0_1a p0_1k p0_1w p0_1l)] : List va_W)) ++ (List.flatten ([(oX7 (p0a 0) p0a p0k p0w_97 p0l)] : List va_W))) := vD_fa (vD_perm hD (bP ((((List.Perm.refl _)).cons _).trans (List.Perm.swap _ _ _))))
        have hKx : va_K (dC, dI) cls ((List.flatten ([(tX10 p0_1k)] : List (List (ClassId × FieldType)))) ++ (List.flatten ([(tX7 p0k)] : List (List (ClassId × FieldType))))) s := vK_fa (vK_perm hK (bP ((((List.Perm.refl _)).cons _).trans (List.Perm.swap _ _ _))))
        have hPc := vP_l hPx
        have hDc := vD_l hDx
        have hKc := vK_l hKx
        have hFc := vfree hDx hS hA
        refine va_callv (va_runV (As := []) (rest := []) ⟨hx, hb, hml, hown, hts⟩ (kX10_advance l dC dI (p0a := (st0 (p0a 2) p0_1a)) (p0k := p0_1k) (p0w := p0_1w) (p0l := p0_1l) (aK := aK) (aV := aV) (sz := _) (o := o_1) (hrun := hc_1)) (cwV 0 hts (gi_V qw1384 qw1382 qw1383 qw8 (gi_z qw1380)) rfl rfl rfl (by decide +kernel) ⟨Nat.le_of_ble_eq_true rfl, Nat.le_of_ble_eq_true rfl⟩) ⟨PRE.blind, va_recv hKc hPc (ci := 0) (q0 := 0) rfl rfl, PRE.of (ENV.add hE st9_m hro_st) hS hFc hPc hKc hDc⟩ rfl rfl hl.1 rfl (lv_room (Nat.le_of_ble_eq_true rfl)) dX7_expect_101 ⟨(Nat.le_of_ble_eq_true rfl), (Nat.le_of_ble_eq_true rfl)⟩) hS (fun q _ h => hFc q h) hFc (fun u t H locs ht hvm hw hB hz1 hk1 hS => ?_)
        obtain ⟨b1, b2, b3⟩ := hB
        rw [ht] at b1
        obtain ⟨hP, hD, hK⟩ := JOINC (wc := (List.flatten ([(oX10 (p0a 2) p0_1a p0_1k p0_1w p0_1l)] : List va_W))) (wr := (List.flatten ([(oX7 (p0a 0) p0a p0k p0w_97 p0l)] : List va_W))) (w1 := (List.flatten ([(oX10 (p0a 2) p0_1a p0_1k (o_1.1) (o_1.2))] : List va_W))) (t1 := (List.flatten ([(tX10 p0_1k)] : List (List (ClassId × FieldType))))) hPx hDx hKx hk1 hFc b1 (va_K.moved hvm.symm b2) b3
        have hP : va_P (dC, dI) cls (List.flatten ([(oX7 (p0a 0) p0a p0k p0w_97 p0l), (oX10 (p0a 2) p0_1a p0_1k (o_1.1) (o_1.2))] : List va_W)) H := vP_perm (vP_fb hP) (bP ((((List.Perm.refl _)).cons _).trans (List.Perm.swap _ _ _)))
        have hD : va_D A (List.flatten ([(oX7 (p0a 0) p0a p0k p0w_97 p0l), (oX10 (p0a 2) p0_1a p0_1k (o_1.1) (o_1.2))] : List va_W)) := vD_perm (vD_fb hD) (bP ((((List.Perm.refl _)).cons _).trans (List.Perm.swap _ _ _)))
        have hK : va_K (dC, dI) cls (List.flatten ([(tX7 p0k), (tX10 p0_1k)] : List (List (ClassId × FieldType)))) s := vK_perm (vK_fb hK) (bP ((((List.Perm.refl _)).cons _).trans (List.Perm.swap _ _ _)))
        have ho9 : (p0w_97, (o_1.1), (o_1.2)) = o := Option.some.inj hrun
        have hP9 : va_P (dC, dI) cls (List.flatten ([(oX7 (p0a 0) p0a p0k (o.1) p0l), (oX10 (p0a 2) p0_1a p0_1k (o.2.1) (o.2.2))] : List va_W)) H := by first | exact hP | (rw [← ho9]; exact hP)
        have hD9 : va_D A (List.flatten ([(oX7 (p0a 0) p0a p0k (o.1) p0l), (oX10 (p0a 2) p0_1a p0_1k (o.2.1) (o.2.2))] : List va_W)) := by first | exact hD | (rw [← ho9]; exact hD)
        subst hQ
        exact W.vret hx hb hr (fun t ht hW => ⟨⟨(), rfl, trivial, ⟨by rw [ht]; exact hP9, va_K.moved hW.alike hK, hD9⟩⟩, hS.F ht⟩) hS.2.2 dX7_expect_104
      rcases br9 hrun with ⟨hc2, hrun⟩ | ⟨hc2, hrun⟩
      · refine lv_if_eq (tgt := 69) hx hb dX7_expect_53 (by decide) (fun _ => ?_) (fun c => absurd hc2 c)
        refine lv_iload_n hx hb dX7_expect_69 rfl (lv_at hl 1 rfl) ?_
        refine lv_bipush (v := 41) hx hb dX7_expect_70 (by decide) ?_
        have J87 : ∀ (H : Heap) (locs : List Loc) (ls : Array Slot), (fX7_expect_J87 p0w p0_1w p0_1l) = some o → va_P (dC, dI) cls (List.flatten ([(oX7 (p0a 0) p0a p0k p0w p0l), (oX10 (p0a 2) p0_1a p0_1k p0_1w p0_1l)] : List va_W)) H → va_D A (List.flatten ([(oX7 (p0a 0) p0a p0k p0w p0l), (oX10 (p0a 2) p0_1a p0_1k p0_1w p0_1l)] : List va_W)) → va_K (dC, dI) cls (List.flatten ([(tX7 p0k), (tX10 p0_1k)] : List (List (ClassId × FieldType)))) s → va_S A s.heap H locs → lv_has ls 3 [(0, .ref (p0a 0))] → W p l e ({ frames := 6, cells := 0, slots := 0, locals := 134 } : Room) s m ([.ref (p0a 0), .int p1] : List Value).toArray below meth c H locs 0 0 Q (F0 m 87 ls []) := by
          intro  H locs ls hrun hP hD hK hS hl 
          unfold fX7_expect_J87 at hrun
          refine lv_aload_n hx hb dX7_expect_87 rfl (lv_at hl 0 rfl) ?_
          refine lv_dup hx hb dX7_expect_88 rfl ?_
          refine va_get (D := (dC, dI)) (ci := 1) (v := .int (p0w 0 4)) (C := RX7) (T := TX7) (N := 18) hx hb hts i_X7 hown hK hP 0 rfl rfl 4 (by decide) (hts _ qw47) (fun _ h9 => h9) rfl dX7_expect_89 ?_
          refine lv_iconst (v := 1) hx hb dX7_expect_92 (by decide) ?_
          refine lv_isub hx hb dX7_expect_93 ?_
          refine va_put (D := (dC, dI)) (ci := 1) (v := .int ((p0w 0 4) - 1)) (ty := .int) (C := RX7) (T := TX7) (N := 18) hx hb hts i_X7 tyX7 tyX7_ok nmX7 hown hK hP hD hS 0 rfl rfl 4 (by decide) (hts _ qw47) (fun _ h9 => h9) rfl (by decide +kernel) rfl rfl (Nat.le_of_ble_eq_true rfl) dX7_expect_94 (fun H locs hP hD hS => ?_)
          have hP : va_P (dC, dI) cls (List.flatten ([(oX7 (p0a 0) p0a p0k (upw p0w 0 4 ((p0w 0 4) - 1)) p0l), (oX10 (p0a 2) p0_1a p0_1k p0_1w p0_1l)] : List va_W)) H := hP
          have hD : va_D A (List.flatten ([(oX7 (p0a 0) p0a p0k (upw p0w 0 4 ((p0w 0 4) - 1)) p0l), (oX10 (p0a 2) p0_1a p0_1k p0_1w p0_1l)] : List va_W)) := hD
          obtain ⟨w3, ew3, hrun⟩ := let9 hrun
          rw [← ew3] at hP hD
          exact J97 w3 _ _ _ hrun hP hD hK hS (lv_sub hl [0] rfl)
        rcases br9 hrun with ⟨hc4, hrun⟩ | ⟨hc4, hrun⟩
        · refine lv_icmp_eq (tgt := 87) hx hb dX7_expect_72 (by decide) (fun _ => ?_) (fun c => absurd hc4 c)
          exact J87 _ _ _ hrun hP hD hK hS (lv_sub hl [0] rfl)
        · refine lv_icmp_eq (tgt := 87) hx hb dX7_expect_72 (by decide) (fun c => absurd c hc4) (fun _ => ?_)
          refine lv_iload_n hx hb dX7_expect_75 rfl (lv_at hl 1 rfl) ?_
          refine lv_bipush (v := 93) hx hb dX7_expect_76 (by decide) ?_
          rcases br9 hrun with ⟨hc5, hrun⟩ | ⟨hc5, hrun⟩
          · refine lv_icmp_eq (tgt := 87) hx hb dX7_expect_78 (by decide) (fun _ => ?_) (fun c => absurd hc5 c)
            exact J87 _ _ _ hrun hP hD hK hS (lv_sub hl [0] rfl)
          · refine lv_icmp_eq (tgt := 87) hx hb dX7_expect_78 (by decide) (fun c => absurd c hc5) (fun _ => ?_)
            refine lv_iload_n hx hb dX7_expect_81 rfl (lv_at hl 1 rfl) ?_
            refine lv_bipush (v := 125) hx hb dX7_expect_82 (by decide) ?_
            rcases br9 hrun with ⟨hc6, hrun⟩ | ⟨hc6, hrun⟩
            · refine lv_icmp_ne (tgt := 97) hx hb dX7_expect_84 (by decide) (fun c => absurd hc6 c) (fun _ => ?_)
              exact J87 _ _ _ hrun hP hD hK hS (lv_sub hl [0] rfl)
            · refine lv_icmp_ne (tgt := 97) hx hb dX7_expect_84 (by decide) (fun _ => ?_) (fun c => absurd c hc6)
              exact J97 p0w _ _ _ hrun hP hD hK hS (lv_sub hl [0] rfl)
      · refine lv_if_eq (tgt := 69) hx hb dX7_expect_53 (by decide) (fun c => absurd c hc2) (fun _ => ?_)
        refine lv_aload_n hx hb dX7_expect_56 rfl (lv_at hl 0 rfl) ?_
        refine lv_dup hx hb dX7_expect_57 rfl ?_
        refine va_get (D := (dC, dI)) (ci := 1) (v := .int (p0w 0 4)) (C := RX7) (T := TX7) (N := 18) hx hb hts i_X7 hown hK hP 0 rfl rfl 4 (by decide) (hts _ qw47) (fun _ h9 => h9) rfl dX7_expect_58 ?_
        refine lv_iconst (v := 1) hx hb dX7_expect_61 (by decide) ?_
        refine lv_iadd hx hb dX7_expect_62 ?_
        refine va_put (D := (dC, dI)) (ci := 1) (v := .int ((p0w 0 4) + 1)) (ty := .int) (C := RX7) (T := TX7) (N := 18) hx hb hts i_X7 tyX7 tyX7_ok nmX7 hown hK hP hD hS 0 rfl rfl 4 (by decide) (hts _ qw47) (fun _ h9 => h9) rfl (by decide +kernel) rfl rfl (Nat.le_of_ble_eq_true rfl) dX7_expect_63 (fun H locs hP hD hS => ?_)
        have hP : va_P (dC, dI) cls (List.flatten ([(oX7 (p0a 0) p0a p0k (upw p0w 0 4 ((p0w 0 4) + 1)) p0l), (oX10 (p0a 2) p0_1a p0_1k p0_1w p0_1l)] : List va_W)) H := hP
        have hD : va_D A (List.flatten ([(oX7 (p0a 0) p0a p0k (upw p0w 0 4 ((p0w 0 4) + 1)) p0l), (oX10 (p0a 2) p0_1a p0_1k p0_1w p0_1l)] : List va_W)) := hD
        obtain ⟨w7, ew7, hrun⟩ := let9 hrun
        rw [← ew7] at hP hD
        refine lv_goto (tgt := 97) hx hb dX7_expect_66 (by decide) ?_
        exact J97 w7 _ _ _ hrun hP hD hK hS (lv_sub hl [0] rfl)
    have J48 : ∀ (H : Heap) (locs : List Loc) (ls : Array Slot), (fX7_expect_J48) = some o → va_P (dC, dI) cls (List.flatten ([(oX7 (p0a 0) p0a p0k p0w p0l), (oX10 (p0a 2) p0_1a p0_1k p0_1w p0_1l)] : List va_W)) H → va_D A (List.flatten ([(oX7 (p0a 0) p0a p0k p0w p0l), (oX10 (p0a 2) p0_1a p0_1k p0_1w p0_1l)] : List va_W)) → va_K (dC, dI) cls (List.flatten ([(tX7 p0k), (tX10 p0_1k)] : List (List (ClassId × FieldType)))) s → va_S A s.heap H locs → lv_has ls 3 [(0, .ref (p0a 0)), (1, .int p1), (2, .int y0_23)] → W p l e ({ frames := 6, cells := 0, slots := 0, locals := 134 } : Room) s m ([.ref (p0a 0), .int p1] : List Value).toArray below meth c H locs 0 0 Q (F0 m 48 ls []) := by
      intro  H locs ls hrun hP hD hK hS hl 
      unfold fX7_expect_J48 at hrun
      refine lv_aload_n hx hb dX7_expect_48 rfl (lv_at hl 0 rfl) ?_
      cases hrun
    rcases br9 hrun with ⟨hc8, hrun⟩ | ⟨hc8, hrun⟩
    · refine lv_icmp_ne (tgt := 48) hx hb dX7_expect_32 (by decide) (fun c => absurd hc8 c) (fun _ => ?_)
      refine lv_iload_n hx hb dX7_expect_35 rfl (lv_at hl 0 rfl) ?_
      rcases br9 hrun with ⟨hc9, hrun⟩ | ⟨hc9, hrun⟩
      · refine lv_if_eq (tgt := 52) hx hb dX7_expect_36 (by decide) (fun _ => ?_) (fun c => absurd hc9 c)
        exact J52 _ _ _ hrun hP hD hK hS (lv_sub hl [1, 2, 0] rfl)
      · refine lv_if_eq (tgt := 52) hx hb dX7_expect_36 (by decide) (fun c => absurd c hc9) (fun _ => ?_)
        refine lv_aload_n hx hb dX7_expect_39 rfl (lv_at hl 1 rfl) ?_
        refine va_get (D := (dC, dI)) (ci := 1) (v := .int (p0w 0 4)) (C := RX7) (T := TX7) (N := 18) hx hb hts i_X7 hown hK hP 0 rfl rfl 4 (by decide) (hts _ qw47) (fun _ h9 => h9) rfl dX7_expect_40 ?_
        refine lv_bipush (v := 8) hx hb dX7_expect_43 (by decide) ?_
        rcases br9 hrun with ⟨hc10, hrun⟩ | ⟨hc10, hrun⟩
        · refine lv_icmp_ne (tgt := 52) hx hb dX7_expect_45 (by decide) (fun c => absurd hc10 c) (fun _ => ?_)
          exact J48 _ _ _ hrun hP hD hK hS (lv_sub hl [1, 2, 0] rfl)
        · refine lv_icmp_ne (tgt := 52) hx hb dX7_expect_45 (by decide) (fun _ => ?_) (fun c => absurd c hc10)
          exact J52 _ _ _ hrun hP hD hK hS (lv_sub hl [1, 2, 0] rfl)
    · refine lv_icmp_ne (tgt := 48) hx hb dX7_expect_32 (by decide) (fun _ => ?_) (fun c => absurd c hc8)
      exact J48 _ _ _ hrun hP hD hK hS (lv_sub hl [1, 2, 0] rfl)
  have J18 : ∀ (H : Heap) (locs : List Loc) (ls : Array Slot), (fX7_expect_J18 p0w p1 p0_1w p0_1l) = some o → va_P (dC, dI) cls (List.flatten ([(oX7 (p0a 0) p0a p0k p0w p0l), (oX10 (p0a 2) p0_1a p0_1k p0_1w p0_1l)] : List va_W)) H → va_D A (List.flatten ([(oX7 (p0a 0) p0a p0k p0w p0l), (oX10 (p0a 2) p0_1a p0_1k p0_1w p0_1l)] : List va_W)) → va_K (dC, dI) cls (List.flatten ([(tX7 p0k), (tX10 p0_1k)] : List (List (ClassId × FieldType)))) s → va_S A s.heap H locs → lv_has ls 3 [(0, .ref (p0a 0)), (1, .int p1)] → W p l e ({ frames := 6, cells := 0, slots := 0, locals := 134 } : Room) s m ([.ref (p0a 0), .int p1] : List Value).toArray below meth c H locs 0 0 Q (F0 m 18 ls []) := by
    intro  H locs ls hrun hP hD hK hS hl 
    unfold fX7_expect_J18 at hrun
    refine lv_iconst (v := 1) hx hb dX7_expect_18 (by decide) ?_
    refine lv_goto (tgt := 23) hx hb dX7_expect_19 (by decide) ?_
    exact J23 1 _ _ _ hrun hP hD hK hS (lv_sub hl [0, 1] rfl)
  rcases br9 hrun with ⟨hc11, hrun⟩ | ⟨hc11, hrun⟩
  · refine lv_icmp_eq (tgt := 18) hx hb dX7_expect_3 (by decide) (fun _ => ?_) (fun c => absurd hc11 c)
    exact J18 _ _ _ hrun hP hD hK hS (lv_sub hl [0, 1] rfl)
  · refine lv_icmp_eq (tgt := 18) hx hb dX7_expect_3 (by decide) (fun c => absurd c hc11) (fun _ => ?_)
    refine lv_iload_n hx hb dX7_expect_6 rfl (lv_at hl 1 rfl) ?_
    refine lv_bipush (v := 91) hx hb dX7_expect_7 (by decide) ?_
    rcases br9 hrun with ⟨hc12, hrun⟩ | ⟨hc12, hrun⟩
    · refine lv_icmp_eq (tgt := 18) hx hb dX7_expect_9 (by decide) (fun _ => ?_) (fun c => absurd hc12 c)
      exact J18 _ _ _ hrun hP hD hK hS (lv_sub hl [0, 1] rfl)
    · refine lv_icmp_eq (tgt := 18) hx hb dX7_expect_9 (by decide) (fun c => absurd c hc12) (fun _ => ?_)
      refine lv_iload_n hx hb dX7_expect_12 rfl (lv_at hl 1 rfl) ?_
      refine lv_bipush (v := 123) hx hb dX7_expect_13 (by decide) ?_
      rcases br9 hrun with ⟨hc13, hrun⟩ | ⟨hc13, hrun⟩
      · refine lv_icmp_ne (tgt := 22) hx hb dX7_expect_15 (by decide) (fun c => absurd hc13 c) (fun _ => ?_)
        exact J18 _ _ _ hrun hP hD hK hS (lv_sub hl [0, 1] rfl)
      · refine lv_icmp_ne (tgt := 22) hx hb dX7_expect_15 (by decide) (fun _ => ?_) (fun c => absurd c hc13)
        refine lv_iconst (v := 0) hx hb dX7_expect_22 (by decide) ?_
        exact J23 0 _ _ _ hrun hP hD hK hS (lv_sub hl [0, 1] rfl)
set_option maxHeartbeats 16000000 in
set_option maxRecDepth 100000 in
theorem kX7_readNewName {zs : ZS} (l : Launch) (dC : Nat → ClassId) (dI : Nat → Nat → Nat) (p0a : Nat → Nat) (p0k : Nat → ClassId) (p0w : ST) (p0l : SL) (aK : Nat → Nat) (aV : Nat → Nat) (p0_1a : Nat → Nat) (p0_1k : Nat → ClassId) (p0_1w : ST) (p0_1l : SL) (sz : Nat) (o : Int64 × ST × ST × SL) (hrun : fX7_readNewName p0w p0l p0_1w p0_1l = some o) : Met l yX7_readNewName (wz yX7_readNewName cX7_readNewName 4 (Option.some Jvm.ClassFile.FieldType.long)) ({ frames := 7, cells := 0, slots := 0, locals := 156 } : Room) (va_Pc [.ref (p0a 0)] (PRE (zA zs (st9 aK aV)) dC dI (List.flatten ([(oX7 (p0a 0) p0a p0k p0w p0l), (oX10 (p0a 2) p0_1a p0_1k p0_1w p0_1l)] : List va_W)) (List.flatten ([(tX7 p0k), (tX10 p0_1k)] : List (List (ClassId × FieldType)))) sz)) (va_Ql (fun (r : Int64) (_ : Unit) => r = (o.1)) (fun _ t => POST dC dI (List.flatten ([(oX7 (p0a 0) p0a p0k (o.2.1) p0l), (oX10 (p0a 2) p0_1a p0_1k (o.2.2.1) (o.2.2.2))] : List va_W)) (List.flatten ([(tX7 p0k), (tX10 p0_1k)] : List (List (ClassId × FieldType)))) (va_A (List.flatten ([(oX7 (p0a 0) p0a p0k p0w p0l), (oX10 (p0a 2) p0_1a p0_1k p0_1w p0_1l)] : List va_W)) sz) t) (va_A (List.flatten ([(oX7 (p0a 0) p0a p0k p0w p0l), (oX10 (p0a 2) p0_1a p0_1k p0_1w p0_1l)] : List va_W)) sz)) 0 0 (va_A (List.flatten ([(oX7 (p0a 0) p0a p0k p0w p0l), (oX10 (p0a 2) p0_1a p0_1k p0_1w p0_1l)] : List va_W)) sz) := by
  refine Met.ofW (cc := cX7_readNewName) (maxL := 4) (ret := (Option.some Jvm.ClassFile.FieldType.long)) (by decide) rfl ?_
  intro p e s m args below meth c s₁ B hml hv
  obtain ⟨rfl, hsz, hP, hK, hD0, hE⟩ := hv
  have hx := B.exec
  have hb := B.bytes
  have hr := B.returns
  have hts0 := atoms_spec (ws := wz yX7_readNewName cX7_readNewName 4 (Option.some Jvm.ClassFile.FieldType.long)) B.pre
  have hts : ∀ w ∈ gw, w.before _ s = true := fun w h => hts0 w (List.mem_cons_of_mem _ h)
  have hown : s.vm.findClass RX7 = some m.cls := findClass_of_methodNamed B.named
  have hlocks := B.notSynchronized
  subst hsz
  have hD := hD0.self (sz := s.heap.size)
  refine gQ9 ?_
  intro Q hQ
  generalize hAe : va_A (List.flatten ([(oX7 (p0a 0) p0a p0k p0w p0l), (oX10 (p0a 2) p0_1a p0_1k p0_1w p0_1l)] : List va_W)) s.heap.size = A at hD hE hQ
  have hA : ∀ q : Nat, s.heap.size ≤ q → A q := fun q h => by rw [← hAe]; exact Or.inr h
  have hro := ENV.ex hE
  have hro_st := hro.2
  replace hro := hro.1
  have hS : va_S A s.heap s.heap [] := va_S.rf
  have hP : va_P (dC, dI) cls (List.flatten ([(oX7 (p0a 0) p0a p0k p0w p0l), (oX10 (p0a 2) p0_1a p0_1k p0_1w p0_1l)] : List va_W)) s.heap := hP
  have hl := lv_entry ([.ref (p0a 0)]) (n := 4) (Nat.le_of_ble_eq_true rfl)
  rw [lg_entry_eq]
  generalize (lg_sl ([.ref (p0a 0)]) ++ List.replicate (4 - (lg_sl ([.ref (p0a 0)])).length) Slot.unset).toArray = ls at hl ⊢
  have hl : lv_has ls 4 [(0, .ref (p0a 0))] := hl
  obtain ⟨H, hHe⟩ : ∃ H, H = s.heap := ⟨_, rfl⟩
  obtain ⟨locs, hle⟩ : ∃ locs : List Loc, locs = [] := ⟨_, rfl⟩
  rw [← hHe] at hP
  have hS : va_S A s.heap H locs := by rw [hHe, hle]; exact hS
  show W p l e ({ frames := 7, cells := 0, slots := 0, locals := 156 } : Room) s m ([.ref (p0a 0)] : List Value).toArray below meth c s.heap [] 0 0 Q (F0 m 0 ls [])
  rw [← hle]
  refine wH9 hHe ?_
  unfold fX7_readNewName at hrun
  refine lv_aload_n hx hb dX7_readNewName_0 rfl (lv_at hl 0 rfl) ?_
  refine lv_bipush (v := 10) hx hb dX7_readNewName_1 (by decide) ?_
  obtain ⟨o_1, hc_1, hrun⟩ := bnd9 hrun
  have hPx : va_P (dC, dI) cls ((List.flatten ([(oX7 (p0a 0) p0a p0k p0w p0l), (oX10 (p0a 2) p0_1a p0_1k p0_1w p0_1l)] : List va_W)) ++ (List.flatten ([] : List va_W))) H := vP_fa (vP_perm hP (bP (List.Perm.refl _)))
  have hDx : va_D A ((List.flatten ([(oX7 (p0a 0) p0a p0k p0w p0l), (oX10 (p0a 2) p0_1a p0_1k p0_1w p0_1l)] : List va_W)) ++ (List.flatten ([] : List va_W))) := vD_fa (vD_perm hD (bP (List.Perm.refl _)))
  have hKx : va_K (dC, dI) cls ((List.flatten ([(tX7 p0k), (tX10 p0_1k)] : List (List (ClassId × FieldType)))) ++ (List.flatten ([] : List (List (ClassId × FieldType))))) s := vK_fa (vK_perm hK (bP (List.Perm.refl _)))
  have hPc := vP_l hPx
  have hDc := vD_l hDx
  have hKc := vK_l hKx
  have hFc := vfree hDx hS hA
  refine va_callv (va_runV (As := [.int 10]) (rest := []) ⟨hx, hb, hml, hown, hts⟩ (kX7_expect l dC dI (p0a := p0a) (p0k := p0k) (p0w := p0w) (p0l := p0l) (p1 := 10) (aK := aK) (aV := aV) (p0_1a := p0_1a) (p0_1k := p0_1k) (p0_1w := p0_1w) (p0_1l := p0_1l) (sz := _) (o := o_1) (hrun := hc_1)) (cwV 1 hts (gi_V qw1386 qw1387 qw1388 qw65 (gi_z qw1385)) rfl rfl rfl (by decide +kernel) ⟨Nat.le_of_ble_eq_true rfl, Nat.le_of_ble_eq_true rfl⟩) ⟨PRE.blind, va_recv hKc hPc (ci := 1) (q0 := 0) rfl rfl, PRE.of (ENV.add hE st9_m hro_st) hS hFc hPc hKc hDc⟩ rfl rfl hl.1 rfl (lv_room (Nat.le_of_ble_eq_true rfl)) dX7_readNewName_3 ⟨(Nat.le_of_ble_eq_true rfl), (Nat.le_of_ble_eq_true rfl)⟩) hS (fun q _ h => hFc q h) hFc (fun u t H locs ht hvm hw hB hz1 hk1 hS => ?_)
  obtain ⟨b1, b2, b3⟩ := hB
  rw [ht] at b1
  obtain ⟨hP, hD, hK⟩ := JOINC (wc := (List.flatten ([(oX7 (p0a 0) p0a p0k p0w p0l), (oX10 (p0a 2) p0_1a p0_1k p0_1w p0_1l)] : List va_W))) (wr := (List.flatten ([] : List va_W))) (w1 := (List.flatten ([(oX7 (p0a 0) p0a p0k (o_1.1) p0l), (oX10 (p0a 2) p0_1a p0_1k (o_1.2.1) (o_1.2.2))] : List va_W))) (t1 := (List.flatten ([(tX7 p0k), (tX10 p0_1k)] : List (List (ClassId × FieldType))))) hPx hDx hKx hk1 hFc b1 (va_K.moved hvm.symm b2) b3
  have hP : va_P (dC, dI) cls (List.flatten ([(oX7 (p0a 0) p0a p0k (o_1.1) p0l), (oX10 (p0a 2) p0_1a p0_1k (o_1.2.1) (o_1.2.2))] : List va_W)) H := vP_perm (vP_fb hP) (bP (List.Perm.refl _))
  have hD : va_D A (List.flatten ([(oX7 (p0a 0) p0a p0k (o_1.1) p0l), (oX10 (p0a 2) p0_1a p0_1k (o_1.2.1) (o_1.2.2))] : List va_W)) := vD_perm (vD_fb hD) (bP (List.Perm.refl _))
  have hK : va_K (dC, dI) cls (List.flatten ([(tX7 p0k), (tX10 p0_1k)] : List (List (ClassId × FieldType)))) s := vK_perm (vK_fb hK) (bP (List.Perm.refl _))
  refine lv_aload_n hx hb dX7_readNewName_6 rfl (lv_at hl 0 rfl) ?_
  refine va_get (D := (dC, dI)) (ci := 1) (v := .ref (p0a 2)) (C := RX7) (T := TX7) (N := 18) hx hb hts i_X7 hown hK hP 0 rfl rfl 1 (by decide) (hts _ qw45) (fun _ h9 => h9) rfl dX7_readNewName_7 ?_
  refine va_get (D := (dC, dI)) (ci := 0) (v := .long ((o_1.2.2) 0 5)) (C := RX10) (T := TX10) (N := 8) hx hb hts i_X10 hown hK hP 9 rfl rfl 5 (by decide) (hts _ qw70) (fun _ h9 => h9) rfl dX7_readNewName_10 ?_
  refine lv_lstore_n (lv' := [(1, .long ((o_1.2.2) 0 5)), (0, .ref (p0a 0))]) hx hb dX7_readNewName_13 rfl hl (by decide) rfl (fun ls hl => ?_)
  refine lv_aload_n hx hb dX7_readNewName_14 rfl (lv_at hl 1 rfl) ?_
  refine va_get (D := (dC, dI)) (ci := 1) (v := .ref (p0a 2)) (C := RX7) (T := TX7) (N := 18) hx hb hts i_X7 hown hK hP 0 rfl rfl 1 (by decide) (hts _ qw45) (fun _ h9 => h9) rfl dX7_readNewName_15 ?_
  refine va_get (D := (dC, dI)) (ci := 0) (v := .int ((o_1.2.1) 0 3)) (C := RX10) (T := TX10) (N := 8) hx hb hts i_X10 hown hK hP 9 rfl rfl 3 (by decide) (hts _ qw69) (fun _ h9 => h9) rfl dX7_readNewName_18 ?_
  refine lv_istore_n (lv' := [(3, .int ((o_1.2.1) 0 3)), (1, .long ((o_1.2.2) 0 5)), (0, .ref (p0a 0))]) hx hb dX7_readNewName_21 rfl hl (by decide) rfl (fun ls hl => ?_)
  refine lv_aload_n hx hb dX7_readNewName_22 rfl (lv_at hl 2 rfl) ?_
  refine lv_iconst (v := 3) hx hb dX7_readNewName_23 (by decide) ?_
  obtain ⟨o_2, hc_2, hrun⟩ := bnd9 hrun
  have hPx : va_P (dC, dI) cls ((List.flatten ([(oX7 (p0a 0) p0a p0k (o_1.1) p0l), (oX10 (p0a 2) p0_1a p0_1k (o_1.2.1) (o_1.2.2))] : List va_W)) ++ (List.flatten ([] : List va_W))) H := vP_fa (vP_perm hP (bP (List.Perm.refl _)))
  have hDx : va_D A ((List.flatten ([(oX7 (p0a 0) p0a p0k (o_1.1) p0l), (oX10 (p0a 2) p0_1a p0_1k (o_1.2.1) (o_1.2.2))] : List va_W)) ++ (List.flatten ([] : List va_W))) := vD_fa (vD_perm hD (bP (List.Perm.refl _)))
  have hKx : va_K (dC, dI) cls ((List.flatten ([(tX7 p0k), (tX10 p0_1k)] : List (List (ClassId × FieldType)))) ++ (List.flatten ([] : List (List (ClassId × FieldType))))) s := vK_fa (vK_perm hK (bP (List.Perm.refl _)))
  have hPc := vP_l hPx
  have hDc := vD_l hDx
  have hKc := vK_l hKx
  have hFc := vfree hDx hS hA
  refine va_callv (va_runV (As := [.int 3]) (rest := []) ⟨hx, hb, hml, hown, hts⟩ (kX7_expect l dC dI (p0a := p0a) (p0k := p0k) (p0w := (o_1.1)) (p0l := p0l) (p1 := 3) (aK := aK) (aV := aV) (p0_1a := p0_1a) (p0_1k := p0_1k) (p0_1w := (o_1.2.1)) (p0_1l := (o_1.2.2)) (sz := _) (o := o_2) (hrun := hc_2)) (cwV 1 hts (gi_V qw1386 qw1387 qw1388 qw65 (gi_z qw1385)) rfl rfl rfl (by decide +kernel) ⟨Nat.le_of_ble_eq_true rfl, Nat.le_of_ble_eq_true rfl⟩) ⟨PRE.blind, va_recv hKc hPc (ci := 1) (q0 := 0) rfl rfl, PRE.of (ENV.add hE st9_m hro_st) hS hFc hPc hKc hDc⟩ rfl rfl hl.1 rfl (lv_room (Nat.le_of_ble_eq_true rfl)) dX7_readNewName_24 ⟨(Nat.le_of_ble_eq_true rfl), (Nat.le_of_ble_eq_true rfl)⟩) hS (fun q _ h => hFc q h) hFc (fun u t H locs ht hvm hw hB hz1 hk1 hS => ?_)
  obtain ⟨b1, b2, b3⟩ := hB
  rw [ht] at b1
  obtain ⟨hP, hD, hK⟩ := JOINC (wc := (List.flatten ([(oX7 (p0a 0) p0a p0k (o_1.1) p0l), (oX10 (p0a 2) p0_1a p0_1k (o_1.2.1) (o_1.2.2))] : List va_W))) (wr := (List.flatten ([] : List va_W))) (w1 := (List.flatten ([(oX7 (p0a 0) p0a p0k (o_2.1) p0l), (oX10 (p0a 2) p0_1a p0_1k (o_2.2.1) (o_2.2.2))] : List va_W))) (t1 := (List.flatten ([(tX7 p0k), (tX10 p0_1k)] : List (List (ClassId × FieldType))))) hPx hDx hKx hk1 hFc b1 (va_K.moved hvm.symm b2) b3
  have hP : va_P (dC, dI) cls (List.flatten ([(oX7 (p0a 0) p0a p0k (o_2.1) p0l), (oX10 (p0a 2) p0_1a p0_1k (o_2.2.1) (o_2.2.2))] : List va_W)) H := vP_perm (vP_fb hP) (bP (List.Perm.refl _))
  have hD : va_D A (List.flatten ([(oX7 (p0a 0) p0a p0k (o_2.1) p0l), (oX10 (p0a 2) p0_1a p0_1k (o_2.2.1) (o_2.2.2))] : List va_W)) := vD_perm (vD_fb hD) (bP (List.Perm.refl _))
  have hK : va_K (dC, dI) cls (List.flatten ([(tX7 p0k), (tX10 p0_1k)] : List (List (ClassId × FieldType)))) s := vK_perm (vK_fb hK) (bP (List.Perm.refl _))
  refine lv_aload_n hx hb dX7_readNewName_27 rfl (lv_at hl 2 rfl) ?_
  refine lv_lload_n hx hb dX7_readNewName_28 rfl (lv_at hl 1 rfl) ?_
  obtain ⟨o_3, hc_3, hrun⟩ := bnd9 hrun
  have hPx : va_P (dC, dI) cls ((List.flatten ([(oX7 (p0a 0) p0a p0k (o_2.1) p0l)] : List va_W)) ++ (List.flatten ([(oX10 (p0a 2) p0_1a p0_1k (o_2.2.1) (o_2.2.2))] : List va_W))) H := vP_fa (vP_perm hP (bP (List.Perm.refl _)))
  have hDx : va_D A ((List.flatten ([(oX7 (p0a 0) p0a p0k (o_2.1) p0l)] : List va_W)) ++ (List.flatten ([(oX10 (p0a 2) p0_1a p0_1k (o_2.2.1) (o_2.2.2))] : List va_W))) := vD_fa (vD_perm hD (bP (List.Perm.refl _)))
  have hKx : va_K (dC, dI) cls ((List.flatten ([(tX7 p0k)] : List (List (ClassId × FieldType)))) ++ (List.flatten ([(tX10 p0_1k)] : List (List (ClassId × FieldType))))) s := vK_fa (vK_perm hK (bP (List.Perm.refl _)))
  have hPc := vP_l hPx
  have hDc := vD_l hDx
  have hKc := vK_l hKx
  have hFc := vfree hDx hS hA
  refine va_calli (va_runV (As := [.long ((o_1.2.2) 0 5)]) (rest := []) ⟨hx, hb, hml, hown, hts⟩ (kX7_variableOf l dC dI (p0a := p0a) (p0k := p0k) (p0w := (o_2.1)) (p0l := p0l) (p1 := ((o_1.2.2) 0 5)) (sz := _) (o := o_3) (hrun := hc_3)) (cwV 1 hts (gi_V qw85 qw86 qw87 qw65 (gi_z qw84)) rfl rfl rfl (by decide +kernel) ⟨Nat.le_of_ble_eq_true rfl, Nat.le_of_ble_eq_true rfl⟩) ⟨PRE.blind, va_recv hKc hPc (ci := 1) (q0 := 0) rfl rfl, PRE.of hE hS hFc hPc hKc hDc⟩ rfl rfl hl.1 rfl (lv_room (Nat.le_of_ble_eq_true rfl)) dX7_readNewName_29 ⟨(Nat.le_of_ble_eq_true rfl), (Nat.le_of_ble_eq_true rfl)⟩) hS (fun q _ h => hFc q h) hFc (fun r4 u t H locs ht hvm hw hB hz1 hk1 hS => ?_)
  obtain ⟨b1, b2, b3⟩ := hB
  rw [ht] at b1
  obtain ⟨hP, hD, hK⟩ := JOINC (wc := (List.flatten ([(oX7 (p0a 0) p0a p0k (o_2.1) p0l)] : List va_W))) (wr := (List.flatten ([(oX10 (p0a 2) p0_1a p0_1k (o_2.2.1) (o_2.2.2))] : List va_W))) (w1 := (List.flatten ([(oX7 (p0a 0) p0a p0k (o_2.1) p0l)] : List va_W))) (t1 := (List.flatten ([(tX7 p0k)] : List (List (ClassId × FieldType))))) hPx hDx hKx hk1 hFc b1 (va_K.moved hvm.symm b2) b3
  have hP : va_P (dC, dI) cls (List.flatten ([(oX7 (p0a 0) p0a p0k (o_2.1) p0l), (oX10 (p0a 2) p0_1a p0_1k (o_2.2.1) (o_2.2.2))] : List va_W)) H := vP_perm (vP_fb hP) (bP (List.Perm.refl _))
  have hD : va_D A (List.flatten ([(oX7 (p0a 0) p0a p0k (o_2.1) p0l), (oX10 (p0a 2) p0_1a p0_1k (o_2.2.1) (o_2.2.2))] : List va_W)) := vD_perm (vD_fb hD) (bP (List.Perm.refl _))
  have hK : va_K (dC, dI) cls (List.flatten ([(tX7 p0k), (tX10 p0_1k)] : List (List (ClassId × FieldType)))) s := vK_perm (vK_fb hK) (bP (List.Perm.refl _))
  obtain rfl : o_3 = r4 := hw.symm
  have J41 : ∀ (p0w_41 : ST) (H : Heap) (locs : List Loc) (ls : Array Slot), (fX7_readNewName_J41 o_1 o_2 p0w_41) = some o → va_P (dC, dI) cls (List.flatten ([(oX7 (p0a 0) p0a p0k p0w_41 p0l), (oX10 (p0a 2) p0_1a p0_1k (o_2.2.1) (o_2.2.2))] : List va_W)) H → va_D A (List.flatten ([(oX7 (p0a 0) p0a p0k p0w_41 p0l), (oX10 (p0a 2) p0_1a p0_1k (o_2.2.1) (o_2.2.2))] : List va_W)) → va_K (dC, dI) cls (List.flatten ([(tX7 p0k), (tX10 p0_1k)] : List (List (ClassId × FieldType)))) s → va_S A s.heap H locs → lv_has ls 4 [(0, .ref (p0a 0)), (1, .long ((o_1.2.2) 0 5))] → W p l e ({ frames := 7, cells := 0, slots := 0, locals := 156 } : Room) s m ([.ref (p0a 0)] : List Value).toArray below meth c H locs 0 0 Q (F0 m 41 ls []) := by
    intro p0w_41 H locs ls hrun hP hD hK hS hl 
    unfold fX7_readNewName_J41 at hrun
    refine lv_aload_n hx hb dX7_readNewName_41 rfl (lv_at hl 0 rfl) ?_
    refine lv_bipush (v := 61) hx hb dX7_readNewName_42 (by decide) ?_
    obtain ⟨o_5, hc_5, hrun⟩ := bnd9 hrun
    have hPx : va_P (dC, dI) cls ((List.flatten ([(oX7 (p0a 0) p0a p0k p0w_41 p0l), (oX10 (p0a 2) p0_1a p0_1k (o_2.2.1) (o_2.2.2))] : List va_W)) ++ (List.flatten ([] : List va_W))) H := vP_fa (vP_perm hP (bP (List.Perm.refl _)))
    have hDx : va_D A ((List.flatten ([(oX7 (p0a 0) p0a p0k p0w_41 p0l), (oX10 (p0a 2) p0_1a p0_1k (o_2.2.1) (o_2.2.2))] : List va_W)) ++ (List.flatten ([] : List va_W))) := vD_fa (vD_perm hD (bP (List.Perm.refl _)))
    have hKx : va_K (dC, dI) cls ((List.flatten ([(tX7 p0k), (tX10 p0_1k)] : List (List (ClassId × FieldType)))) ++ (List.flatten ([] : List (List (ClassId × FieldType))))) s := vK_fa (vK_perm hK (bP (List.Perm.refl _)))
    have hPc := vP_l hPx
    have hDc := vD_l hDx
    have hKc := vK_l hKx
    have hFc := vfree hDx hS hA
    refine va_callv (va_runV (As := [.int 61]) (rest := []) ⟨hx, hb, hml, hown, hts⟩ (kX7_expect l dC dI (p0a := p0a) (p0k := p0k) (p0w := p0w_41) (p0l := p0l) (p1 := 61) (aK := aK) (aV := aV) (p0_1a := p0_1a) (p0_1k := p0_1k) (p0_1w := (o_2.2.1)) (p0_1l := (o_2.2.2)) (sz := _) (o := o_5) (hrun := hc_5)) (cwV 1 hts (gi_V qw1386 qw1387 qw1388 qw65 (gi_z qw1385)) rfl rfl rfl (by decide +kernel) ⟨Nat.le_of_ble_eq_true rfl, Nat.le_of_ble_eq_true rfl⟩) ⟨PRE.blind, va_recv hKc hPc (ci := 1) (q0 := 0) rfl rfl, PRE.of (ENV.add hE st9_m hro_st) hS hFc hPc hKc hDc⟩ rfl rfl hl.1 rfl (lv_room (Nat.le_of_ble_eq_true rfl)) dX7_readNewName_44 ⟨(Nat.le_of_ble_eq_true rfl), (Nat.le_of_ble_eq_true rfl)⟩) hS (fun q _ h => hFc q h) hFc (fun u t H locs ht hvm hw hB hz1 hk1 hS => ?_)
    obtain ⟨b1, b2, b3⟩ := hB
    rw [ht] at b1
    obtain ⟨hP, hD, hK⟩ := JOINC (wc := (List.flatten ([(oX7 (p0a 0) p0a p0k p0w_41 p0l), (oX10 (p0a 2) p0_1a p0_1k (o_2.2.1) (o_2.2.2))] : List va_W))) (wr := (List.flatten ([] : List va_W))) (w1 := (List.flatten ([(oX7 (p0a 0) p0a p0k (o_5.1) p0l), (oX10 (p0a 2) p0_1a p0_1k (o_5.2.1) (o_5.2.2))] : List va_W))) (t1 := (List.flatten ([(tX7 p0k), (tX10 p0_1k)] : List (List (ClassId × FieldType))))) hPx hDx hKx hk1 hFc b1 (va_K.moved hvm.symm b2) b3
    have hP : va_P (dC, dI) cls (List.flatten ([(oX7 (p0a 0) p0a p0k (o_5.1) p0l), (oX10 (p0a 2) p0_1a p0_1k (o_5.2.1) (o_5.2.2))] : List va_W)) H := vP_perm (vP_fb hP) (bP (List.Perm.refl _))
    have hD : va_D A (List.flatten ([(oX7 (p0a 0) p0a p0k (o_5.1) p0l), (oX10 (p0a 2) p0_1a p0_1k (o_5.2.1) (o_5.2.2))] : List va_W)) := vD_perm (vD_fb hD) (bP (List.Perm.refl _))
    have hK : va_K (dC, dI) cls (List.flatten ([(tX7 p0k), (tX10 p0_1k)] : List (List (ClassId × FieldType)))) s := vK_perm (vK_fb hK) (bP (List.Perm.refl _))
    refine lv_lload_n hx hb dX7_readNewName_47 rfl (lv_at hl 1 rfl) ?_
    have ho9 : (((o_1.2.2) 0 5), (o_5.1), (o_5.2.1), (o_5.2.2)) = o := Option.some.inj hrun
    have hP9 : va_P (dC, dI) cls (List.flatten ([(oX7 (p0a 0) p0a p0k (o.2.1) p0l), (oX10 (p0a 2) p0_1a p0_1k (o.2.2.1) (o.2.2.2))] : List va_W)) H := by first | exact hP | (rw [← ho9]; exact hP)
    have hD9 : va_D A (List.flatten ([(oX7 (p0a 0) p0a p0k (o.2.1) p0l), (oX10 (p0a 2) p0_1a p0_1k (o.2.2.1) (o.2.2.2))] : List va_W)) := by first | exact hD | (rw [← ho9]; exact hD)
    subst hQ
    exact W.lret (v := ((o_1.2.2) 0 5)) hx hb hr (fun t ht hW => ⟨⟨((o_1.2.2) 0 5), (), rfl, (by rw [← ho9]), ⟨by rw [ht]; exact hP9, va_K.moved hW.alike hK, hD9⟩⟩, hS.F ht⟩) hS.2.2 dX7_readNewName_48
  rcases br9 hrun with ⟨hc6, hrun⟩ | ⟨hc6, hrun⟩
  · refine lv_if_lt (tgt := 41) hx hb dX7_readNewName_32 (by decide) (fun _ => ?_) (fun c => absurd hc6 c)
    exact J41 (o_2.1) _ _ _ hrun hP hD hK hS (lv_sub hl [2, 1] rfl)
  · refine lv_if_lt (tgt := 41) hx hb dX7_readNewName_32 (by decide) (fun c => absurd c hc6) (fun _ => ?_)
    refine lv_aload_n hx hb dX7_readNewName_35 rfl (lv_at hl 2 rfl) ?_
    refine lv_iconst (v := 3) hx hb dX7_readNewName_36 (by decide) ?_
    refine lv_iload_n hx hb dX7_readNewName_37 rfl (lv_at hl 0 rfl) ?_
    obtain ⟨o_7, hc_7, hrun⟩ := bnd9 hrun
    have hPx : va_P (dC, dI) cls ((List.flatten ([(oX7 (p0a 0) p0a p0k (o_2.1) p0l)] : List va_W)) ++ (List.flatten ([(oX10 (p0a 2) p0_1a p0_1k (o_2.2.1) (o_2.2.2))] : List va_W))) H := vP_fa (vP_perm hP (bP (List.Perm.refl _)))
    have hDx : va_D A ((List.flatten ([(oX7 (p0a 0) p0a p0k (o_2.1) p0l)] : List va_W)) ++ (List.flatten ([(oX10 (p0a 2) p0_1a p0_1k (o_2.2.1) (o_2.2.2))] : List va_W))) := vD_fa (vD_perm hD (bP (List.Perm.refl _)))
    have hKx : va_K (dC, dI) cls ((List.flatten ([(tX7 p0k)] : List (List (ClassId × FieldType)))) ++ (List.flatten ([(tX10 p0_1k)] : List (List (ClassId × FieldType))))) s := vK_fa (vK_perm hK (bP (List.Perm.refl _)))
    have hPc := vP_l hPx
    have hDc := vD_l hDx
    have hKc := vK_l hKx
    have hFc := vfree hDx hS hA
    refine va_callv (va_runV (As := [.int 3, .int ((o_1.2.1) 0 3)]) (rest := []) ⟨hx, hb, hml, hown, hts⟩ (kX7_blame l dC dI (p0a := p0a) (p0k := p0k) (p0w := (o_2.1)) (p0l := p0l) (p1 := 3) (p2 := ((o_1.2.1) 0 3)) (sz := _) (o := o_7) (hrun := hc_7)) (cwV 2 hts (gi_V qw62 qw63 qw64 qw65 (gi_z qw61)) rfl rfl rfl (by decide +kernel) ⟨Nat.le_of_ble_eq_true rfl, Nat.le_of_ble_eq_true rfl⟩) ⟨PRE.blind, va_recv hKc hPc (ci := 1) (q0 := 0) rfl rfl, PRE.of hE hS hFc hPc hKc hDc⟩ rfl rfl hl.1 rfl (lv_room (Nat.le_of_ble_eq_true rfl)) dX7_readNewName_38 ⟨(Nat.le_of_ble_eq_true rfl), (Nat.le_of_ble_eq_true rfl)⟩) hS (fun q _ h => hFc q h) hFc (fun u t H locs ht hvm hw hB hz1 hk1 hS => ?_)
    obtain ⟨b1, b2, b3⟩ := hB
    rw [ht] at b1
    obtain ⟨hP, hD, hK⟩ := JOINC (wc := (List.flatten ([(oX7 (p0a 0) p0a p0k (o_2.1) p0l)] : List va_W))) (wr := (List.flatten ([(oX10 (p0a 2) p0_1a p0_1k (o_2.2.1) (o_2.2.2))] : List va_W))) (w1 := (List.flatten ([(oX7 (p0a 0) p0a p0k o_7 p0l)] : List va_W))) (t1 := (List.flatten ([(tX7 p0k)] : List (List (ClassId × FieldType))))) hPx hDx hKx hk1 hFc b1 (va_K.moved hvm.symm b2) b3
    have hP : va_P (dC, dI) cls (List.flatten ([(oX7 (p0a 0) p0a p0k o_7 p0l), (oX10 (p0a 2) p0_1a p0_1k (o_2.2.1) (o_2.2.2))] : List va_W)) H := vP_perm (vP_fb hP) (bP (List.Perm.refl _))
    have hD : va_D A (List.flatten ([(oX7 (p0a 0) p0a p0k o_7 p0l), (oX10 (p0a 2) p0_1a p0_1k (o_2.2.1) (o_2.2.2))] : List va_W)) := vD_perm (vD_fb hD) (bP (List.Perm.refl _))
    have hK : va_K (dC, dI) cls (List.flatten ([(tX7 p0k), (tX10 p0_1k)] : List (List (ClassId × FieldType)))) s := vK_perm (vK_fb hK) (bP (List.Perm.refl _))
    exact J41 o_7 _ _ _ hrun hP hD hK hS (lv_sub hl [2, 1] rfl)
set_option maxHeartbeats 16000000 in
set_option maxRecDepth 100000 in
theorem kX7_readParameters {zs : ZS} (l : Launch) (dC : Nat → ClassId) (dI : Nat → Nat → Nat) (p0a : Nat → Nat) (p0k : Nat → ClassId) (p0w : ST) (p0l : SL) (aK : Nat → Nat) (aV : Nat → Nat) (p0_1a : Nat → Nat) (p0_1k : Nat → ClassId) (p0_1w : ST) (p0_1l : SL) (p0_2a : Nat → Nat) (p0_2k : Nat → ClassId) (p0_2w : ST) (p0_2l : SL) (sz : Nat) (o : ST × SL × ST × SL × ST) (hrun : fX7_readParameters p0w p0l p0_1w p0_1l p0_2w = some o) : Met l yX7_readParameters (wz yX7_readParameters cX7_readParameters 5 (Option.none : Option Jvm.ClassFile.FieldType)) ({ frames := 7, cells := 0, slots := 0, locals := 156 } : Room) (va_Pc [.ref (p0a 0)] (PRE (zA zs (st9 aK aV)) dC dI (List.flatten ([(oX7 (p0a 0) p0a p0k p0w p0l), (oX10 (p0a 2) p0_1a p0_1k p0_1w p0_1l), (oX6 (p0a 3) p0_2a p0_2k p0_2w p0_2l)] : List va_W)) (List.flatten ([(tX7 p0k), (tX10 p0_1k), (tX6 p0_2k)] : List (List (ClassId × FieldType)))) sz)) (va_Qv (fun (_ : Unit) => True) (fun _ t => POST dC dI (List.flatten ([(oX7 (p0a 0) p0a p0k (o.1) (o.2.1)), (oX10 (p0a 2) p0_1a p0_1k (o.2.2.1) (o.2.2.2.1)), (oX6 (p0a 3) p0_2a p0_2k (o.2.2.2.2) p0_2l)] : List va_W)) (List.flatten ([(tX7 p0k), (tX10 p0_1k), (tX6 p0_2k)] : List (List (ClassId × FieldType)))) (va_A (List.flatten ([(oX7 (p0a 0) p0a p0k p0w p0l), (oX10 (p0a 2) p0_1a p0_1k p0_1w p0_1l), (oX6 (p0a 3) p0_2a p0_2k p0_2w p0_2l)] : List va_W)) sz) t) (va_A (List.flatten ([(oX7 (p0a 0) p0a p0k p0w p0l), (oX10 (p0a 2) p0_1a p0_1k p0_1w p0_1l), (oX6 (p0a 3) p0_2a p0_2k p0_2w p0_2l)] : List va_W)) sz)) 0 0 (va_A (List.flatten ([(oX7 (p0a 0) p0a p0k p0w p0l), (oX10 (p0a 2) p0_1a p0_1k p0_1w p0_1l), (oX6 (p0a 3) p0_2a p0_2k p0_2w p0_2l)] : List va_W)) sz) := by
  refine Met.ofW (cc := cX7_readParameters) (maxL := 5) (ret := (Option.none : Option Jvm.ClassFile.FieldType)) (by decide) rfl ?_
  intro p e s m args below meth c s₁ B hml hv
  obtain ⟨rfl, hsz, hP, hK, hD0, hE⟩ := hv
  have hx := B.exec
  have hb := B.bytes
  have hr := B.returns
  have hts0 := atoms_spec (ws := wz yX7_readParameters cX7_readParameters 5 (Option.none : Option Jvm.ClassFile.FieldType)) B.pre
  have hts : ∀ w ∈ gw, w.before _ s = true := fun w h => hts0 w (List.mem_cons_of_mem _ h)
  have hown : s.vm.findClass RX7 = some m.cls := findClass_of_methodNamed B.named
  have hlocks := B.notSynchronized
  subst hsz
  have hD := hD0.self (sz := s.heap.size)
  refine gQ9 ?_
  intro Q hQ
  generalize hAe : va_A (List.flatten ([(oX7 (p0a 0) p0a p0k p0w p0l), (oX10 (p0a 2) p0_1a p0_1k p0_1w p0_1l), (oX6 (p0a 3) p0_2a p0_2k p0_2w p0_2l)] : List va_W)) s.heap.size = A at hD hE hQ
  have hA : ∀ q : Nat, s.heap.size ≤ q → A q := fun q h => by rw [← hAe]; exact Or.inr h
  have hro := ENV.ex hE
  have hro_st := hro.2
  replace hro := hro.1
  have hS : va_S A s.heap s.heap [] := va_S.rf
  have hP : va_P (dC, dI) cls (List.flatten ([(oX7 (p0a 0) p0a p0k p0w p0l), (oX10 (p0a 2) p0_1a p0_1k p0_1w p0_1l), (oX6 (p0a 3) p0_2a p0_2k p0_2w p0_2l)] : List va_W)) s.heap := hP
  have hl := lv_entry ([.ref (p0a 0)]) (n := 5) (Nat.le_of_ble_eq_true rfl)
  rw [lg_entry_eq]
  generalize (lg_sl ([.ref (p0a 0)]) ++ List.replicate (5 - (lg_sl ([.ref (p0a 0)])).length) Slot.unset).toArray = ls at hl ⊢
  have hl : lv_has ls 5 [(0, .ref (p0a 0))] := hl
  obtain ⟨H, hHe⟩ : ∃ H, H = s.heap := ⟨_, rfl⟩
  obtain ⟨locs, hle⟩ : ∃ locs : List Loc, locs = [] := ⟨_, rfl⟩
  rw [← hHe] at hP
  have hS : va_S A s.heap H locs := by rw [hHe, hle]; exact hS
  show W p l e ({ frames := 7, cells := 0, slots := 0, locals := 156 } : Room) s m ([.ref (p0a 0)] : List Value).toArray below meth c s.heap [] 0 0 Q (F0 m 0 ls [])
  rw [← hle]
  refine wH9 hHe ?_
  unfold fX7_readParameters at hrun
  refine lv_iconst (v := 0) hx hb dX7_readParameters_0 (by decide) ?_
  refine lv_istore_n (lv' := [(1, .int 0), (0, .ref (p0a 0))]) hx hb dX7_readParameters_1 rfl hl (by decide) rfl (fun ls hl => ?_)
  have L2 : ∀ (n_2 : Nat) (v1_2 : Int32) (p0w_2 : ST) (p0l_2 : SL) (p0_1w_2 : ST) (p0_1l_2 : SL) (p0_2w_2 : ST) (o2 : ST × SL × ST × SL × ST) (H : Heap) (locs : List Loc) (ls : Array Slot), (fX7_readParameters_L2 n_2) v1_2 p0w_2 p0l_2 p0_1w_2 p0_1l_2 p0_2w_2 = some o2 → va_P (dC, dI) cls (List.flatten ([(oX7 (p0a 0) p0a p0k p0w_2 p0l_2), (oX10 (p0a 2) p0_1a p0_1k p0_1w_2 p0_1l_2), (oX6 (p0a 3) p0_2a p0_2k p0_2w_2 p0_2l)] : List va_W)) H → va_D A (List.flatten ([(oX7 (p0a 0) p0a p0k p0w_2 p0l_2), (oX10 (p0a 2) p0_1a p0_1k p0_1w_2 p0_1l_2), (oX6 (p0a 3) p0_2a p0_2k p0_2w_2 p0_2l)] : List va_W)) → va_K (dC, dI) cls (List.flatten ([(tX7 p0k), (tX10 p0_1k), (tX6 p0_2k)] : List (List (ClassId × FieldType)))) s → va_S A s.heap H locs → lv_has ls 5 [(0, .ref (p0a 0)), (1, .int v1_2)] → (∀ (H : Heap) (locs : List Loc) (ls : Array Slot), va_P (dC, dI) cls (List.flatten ([(oX7 (p0a 0) p0a p0k (o2.1) (o2.2.1)), (oX10 (p0a 2) p0_1a p0_1k (o2.2.2.1) (o2.2.2.2.1)), (oX6 (p0a 3) p0_2a p0_2k (o2.2.2.2.2) p0_2l)] : List va_W)) H → va_D A (List.flatten ([(oX7 (p0a 0) p0a p0k (o2.1) (o2.2.1)), (oX10 (p0a 2) p0_1a p0_1k (o2.2.2.1) (o2.2.2.2.1)), (oX6 (p0a 3) p0_2a p0_2k (o2.2.2.2.2) p0_2l)] : List va_W)) → va_K (dC, dI) cls (List.flatten ([(tX7 p0k), (tX10 p0_1k), (tX6 p0_2k)] : List (List (ClassId × FieldType)))) s → va_S A s.heap H locs → lv_has ls 5 [] → W p l e ({ frames := 7, cells := 0, slots := 0, locals := 156 } : Room) s m ([.ref (p0a 0)] : List Value).toArray below meth c H locs 0 0 Q (F0 m 113 ls [])) → W p l e ({ frames := 7, cells := 0, slots := 0, locals := 156 } : Room) s m ([.ref (p0a 0)] : List Value).toArray below meth c H locs 0 0 Q (F0 m 2 ls []) := by
    intro n_2
    induction n_2 with
    | zero => intro v1_2 p0w_2 p0l_2 p0_1w_2 p0_1l_2 p0_2w_2 o2 H locs ls hrun; exact (no9 rfl hrun).elim
    | succ n_2 IH2 =>
      intro v1_2 p0w_2 p0l_2 p0_1w_2 p0_1l_2 p0_2w_2 o2 H locs ls hrun hP hD hK hS hl hk2
      unfold fX7_readParameters_L2 at hrun
      refine lv_iload_n hx hb dX7_readParameters_2 rfl (lv_at hl 1 rfl) ?_
      refine lv_iconst (v := 4) hx hb dX7_readParameters_3 (by decide) ?_
      rcases br9 hrun with ⟨hc1, hrun⟩ | ⟨hc1, hrun⟩
      · refine lv_icmp_gt (tgt := 113) hx hb dX7_readParameters_4 (by decide) (fun _ => ?_) (fun c => absurd hc1 c)
        obtain rfl := (Option.some.inj hrun)
        exact hk2 _ _ _ hP hD hK hS (lv_sub hl [] rfl)
      · refine lv_icmp_gt (tgt := 113) hx hb dX7_readParameters_4 (by decide) (fun c => absurd c hc1) (fun _ => ?_)
        refine lv_aload_n hx hb dX7_readParameters_7 rfl (lv_at hl 0 rfl) ?_
        refine va_get (D := (dC, dI)) (ci := 1) (v := .ref (p0a 2)) (C := RX7) (T := TX7) (N := 18) hx hb hts i_X7 hown hK hP 0 rfl rfl 1 (by decide) (hts _ qw45) (fun _ h9 => h9) rfl dX7_readParameters_8 ?_
        refine va_get (D := (dC, dI)) (ci := 0) (v := .int (p0_1w_2 0 2)) (C := RX10) (T := TX10) (N := 8) hx hb hts i_X10 hown hK hP 9 rfl rfl 2 (by decide) (hts _ qw46) (fun _ h9 => h9) rfl dX7_readParameters_11 ?_
        refine lv_bipush (v := 41) hx hb dX7_readParameters_14 (by decide) ?_
        rcases br9 hrun with ⟨hc2, hrun⟩ | ⟨hc2, hrun⟩
        · refine lv_icmp_eq (tgt := 113) hx hb dX7_readParameters_16 (by decide) (fun _ => ?_) (fun c => absurd hc2 c)
          obtain rfl := (Option.some.inj hrun)
          exact hk2 _ _ _ hP hD hK hS (lv_sub hl [] rfl)
        · refine lv_icmp_eq (tgt := 113) hx hb dX7_readParameters_16 (by decide) (fun c => absurd c hc2) (fun _ => ?_)
          refine lv_iload_n hx hb dX7_readParameters_19 rfl (lv_at hl 1 rfl) ?_
          have J29 : ∀ (p0w_29 : ST) (p0_1w_29 : ST) (p0_1l_29 : SL) (H : Heap) (locs : List Loc) (ls : Array Slot), (fX7_readParameters_J29 (fX7_readParameters_L2 n_2) v1_2 p0l_2 p0_2w_2 p0w_29 p0_1w_29 p0_1l_29) = some o2 → va_P (dC, dI) cls (List.flatten ([(oX7 (p0a 0) p0a p0k p0w_29 p0l_2), (oX10 (p0a 2) p0_1a p0_1k p0_1w_29 p0_1l_29), (oX6 (p0a 3) p0_2a p0_2k p0_2w_2 p0_2l)] : List va_W)) H → va_D A (List.flatten ([(oX7 (p0a 0) p0a p0k p0w_29 p0l_2), (oX10 (p0a 2) p0_1a p0_1k p0_1w_29 p0_1l_29), (oX6 (p0a 3) p0_2a p0_2k p0_2w_2 p0_2l)] : List va_W)) → va_K (dC, dI) cls (List.flatten ([(tX7 p0k), (tX10 p0_1k), (tX6 p0_2k)] : List (List (ClassId × FieldType)))) s → va_S A s.heap H locs → lv_has ls 5 [(0, .ref (p0a 0)), (1, .int v1_2)] → W p l e ({ frames := 7, cells := 0, slots := 0, locals := 156 } : Room) s m ([.ref (p0a 0)] : List Value).toArray below meth c H locs 0 0 Q (F0 m 29 ls []) := by
            intro p0w_29 p0_1w_29 p0_1l_29 H locs ls hrun hP hD hK hS hl 
            unfold fX7_readParameters_J29 at hrun
            refine lv_iload_n hx hb dX7_readParameters_29 rfl (lv_at hl 1 rfl) ?_
            refine lv_iconst (v := 4) hx hb dX7_readParameters_30 (by decide) ?_
            have J38 : ∀ (H : Heap) (locs : List Loc) (ls : Array Slot), (fX7_readParameters_J38 (fX7_readParameters_L2 n_2) v1_2 p0l_2 p0_2w_2 p0w_29 p0_1w_29 p0_1l_29) = some o2 → va_P (dC, dI) cls (List.flatten ([(oX7 (p0a 0) p0a p0k p0w_29 p0l_2), (oX10 (p0a 2) p0_1a p0_1k p0_1w_29 p0_1l_29), (oX6 (p0a 3) p0_2a p0_2k p0_2w_2 p0_2l)] : List va_W)) H → va_D A (List.flatten ([(oX7 (p0a 0) p0a p0k p0w_29 p0l_2), (oX10 (p0a 2) p0_1a p0_1k p0_1w_29 p0_1l_29), (oX6 (p0a 3) p0_2a p0_2k p0_2w_2 p0_2l)] : List va_W)) → va_K (dC, dI) cls (List.flatten ([(tX7 p0k), (tX10 p0_1k), (tX6 p0_2k)] : List (List (ClassId × FieldType)))) s → va_S A s.heap H locs → lv_has ls 5 [(0, .ref (p0a 0)), (1, .int v1_2)] → W p l e ({ frames := 7, cells := 0, slots := 0, locals := 156 } : Room) s m ([.ref (p0a 0)] : List Value).toArray below meth c H locs 0 0 Q (F0 m 38 ls []) := by
              intro  H locs ls hrun hP hD hK hS hl 
              unfold fX7_readParameters_J38 at hrun
              refine lv_aload_n hx hb dX7_readParameters_38 rfl (lv_at hl 0 rfl) ?_
              refine va_get (D := (dC, dI)) (ci := 1) (v := .ref (p0a 2)) (C := RX7) (T := TX7) (N := 18) hx hb hts i_X7 hown hK hP 0 rfl rfl 1 (by decide) (hts _ qw45) (fun _ h9 => h9) rfl dX7_readParameters_39 ?_
              refine va_get (D := (dC, dI)) (ci := 0) (v := .long (p0_1l_29 0 5)) (C := RX10) (T := TX10) (N := 8) hx hb hts i_X10 hown hK hP 9 rfl rfl 5 (by decide) (hts _ qw70) (fun _ h9 => h9) rfl dX7_readParameters_42 ?_
              refine lv_lstore_n (lv' := [(2, .long (p0_1l_29 0 5)), (0, .ref (p0a 0)), (1, .int v1_2)]) hx hb dX7_readParameters_45 rfl hl (by decide) rfl (fun ls hl => ?_)
              refine lv_aload_n hx hb dX7_readParameters_46 rfl (lv_at hl 1 rfl) ?_
              refine va_get (D := (dC, dI)) (ci := 1) (v := .ref (p0a 2)) (C := RX7) (T := TX7) (N := 18) hx hb hts i_X7 hown hK hP 0 rfl rfl 1 (by decide) (hts _ qw45) (fun _ h9 => h9) rfl dX7_readParameters_47 ?_
              refine va_get (D := (dC, dI)) (ci := 0) (v := .int (p0_1w_29 0 3)) (C := RX10) (T := TX10) (N := 8) hx hb hts i_X10 hown hK hP 9 rfl rfl 3 (by decide) (hts _ qw69) (fun _ h9 => h9) rfl dX7_readParameters_50 ?_
              refine lv_istore (lv' := [(4, .int (p0_1w_29 0 3)), (2, .long (p0_1l_29 0 5)), (0, .ref (p0a 0)), (1, .int v1_2)]) hx hb dX7_readParameters_53 hl (by decide) rfl (fun ls hl => ?_)
              refine lv_aload_n hx hb dX7_readParameters_55 rfl (lv_at hl 2 rfl) ?_
              refine lv_iconst (v := 3) hx hb dX7_readParameters_56 (by decide) ?_
              obtain ⟨o_3, hc_3, hrun⟩ := bnd9 hrun
              have hPx : va_P (dC, dI) cls ((List.flatten ([(oX7 (p0a 0) p0a p0k p0w_29 p0l_2), (oX10 (p0a 2) p0_1a p0_1k p0_1w_29 p0_1l_29)] : List va_W)) ++ (List.flatten ([(oX6 (p0a 3) p0_2a p0_2k p0_2w_2 p0_2l)] : List va_W))) H := vP_fa (vP_perm hP (bP (List.Perm.refl _)))
              have hDx : va_D A ((List.flatten ([(oX7 (p0a 0) p0a p0k p0w_29 p0l_2), (oX10 (p0a 2) p0_1a p0_1k p0_1w_29 p0_1l_29)] : List va_W)) ++ (List.flatten ([(oX6 (p0a 3) p0_2a p0_2k p0_2w_2 p0_2l)] : List va_W))) := vD_fa (vD_perm hD (bP (List.Perm.refl _)))
              have hKx : va_K (dC, dI) cls ((List.flatten ([(tX7 p0k), (tX10 p0_1k)] : List (List (ClassId × FieldType)))) ++ (List.flatten ([(tX6 p0_2k)] : List (List (ClassId × FieldType))))) s := vK_fa (vK_perm hK (bP (List.Perm.refl _)))
              have hPc := vP_l hPx
              have hDc := vD_l hDx
              have hKc := vK_l hKx
              have hFc := vfree hDx hS hA
              refine va_callv (va_runV (As := [.int 3]) (rest := []) ⟨hx, hb, hml, hown, hts⟩ (kX7_expect l dC dI (p0a := p0a) (p0k := p0k) (p0w := p0w_29) (p0l := p0l_2) (p1 := 3) (aK := aK) (aV := aV) (p0_1a := p0_1a) (p0_1k := p0_1k) (p0_1w := p0_1w_29) (p0_1l := p0_1l_29) (sz := _) (o := o_3) (hrun := hc_3)) (cwV 1 hts (gi_V qw1386 qw1387 qw1388 qw65 (gi_z qw1385)) rfl rfl rfl (by decide +kernel) ⟨Nat.le_of_ble_eq_true rfl, Nat.le_of_ble_eq_true rfl⟩) ⟨PRE.blind, va_recv hKc hPc (ci := 1) (q0 := 0) rfl rfl, PRE.of (ENV.add hE st9_m hro_st) hS hFc hPc hKc hDc⟩ rfl rfl hl.1 rfl (lv_room (Nat.le_of_ble_eq_true rfl)) dX7_readParameters_57 ⟨(Nat.le_of_ble_eq_true rfl), (Nat.le_of_ble_eq_true rfl)⟩) hS (fun q _ h => hFc q h) hFc (fun u t H locs ht hvm hw hB hz1 hk1 hS => ?_)
              obtain ⟨b1, b2, b3⟩ := hB
              rw [ht] at b1
              obtain ⟨hP, hD, hK⟩ := JOINC (wc := (List.flatten ([(oX7 (p0a 0) p0a p0k p0w_29 p0l_2), (oX10 (p0a 2) p0_1a p0_1k p0_1w_29 p0_1l_29)] : List va_W))) (wr := (List.flatten ([(oX6 (p0a 3) p0_2a p0_2k p0_2w_2 p0_2l)] : List va_W))) (w1 := (List.flatten ([(oX7 (p0a 0) p0a p0k (o_3.1) p0l_2), (oX10 (p0a 2) p0_1a p0_1k (o_3.2.1) (o_3.2.2))] : List va_W))) (t1 := (List.flatten ([(tX7 p0k), (tX10 p0_1k)] : List (List (ClassId × FieldType))))) hPx hDx hKx hk1 hFc b1 (va_K.moved hvm.symm b2) b3
              have hP : va_P (dC, dI) cls (List.flatten ([(oX7 (p0a 0) p0a p0k (o_3.1) p0l_2), (oX10 (p0a 2) p0_1a p0_1k (o_3.2.1) (o_3.2.2)), (oX6 (p0a 3) p0_2a p0_2k p0_2w_2 p0_2l)] : List va_W)) H := vP_perm (vP_fb hP) (bP (List.Perm.refl _))
              have hD : va_D A (List.flatten ([(oX7 (p0a 0) p0a p0k (o_3.1) p0l_2), (oX10 (p0a 2) p0_1a p0_1k (o_3.2.1) (o_3.2.2)), (oX6 (p0a 3) p0_2a p0_2k p0_2w_2 p0_2l)] : List va_W)) := vD_perm (vD_fb hD) (bP (List.Perm.refl _))
              have hK : va_K (dC, dI) cls (List.flatten ([(tX7 p0k), (tX10 p0_1k), (tX6 p0_2k)] : List (List (ClassId × FieldType)))) s := vK_perm (vK_fb hK) (bP (List.Perm.refl _))
              refine lv_aload_n hx hb dX7_readParameters_60 rfl (lv_at hl 2 rfl) ?_
              refine lv_lload_n hx hb dX7_readParameters_61 rfl (lv_at hl 1 rfl) ?_
              obtain ⟨o_4, hc_4, hrun⟩ := bnd9 hrun
              have hPx : va_P (dC, dI) cls ((List.flatten ([(oX7 (p0a 0) p0a p0k (o_3.1) p0l_2)] : List va_W)) ++ (List.flatten ([(oX10 (p0a 2) p0_1a p0_1k (o_3.2.1) (o_3.2.2)), (oX6 (p0a 3) p0_2a p0_2k p0_2w_2 p0_2l)] : List va_W))) H := vP_fa (vP_perm hP (bP (List.Perm.refl _)))
              have hDx : va_D A ((List.flatten ([(oX7 (p0a 0) p0a p0k (o_3.1) p0l_2)] : List va_W)) ++ (List.flatten ([(oX10 (p0a 2) p0_1a p0_1k (o_3.2.1) (o_3.2.2)), (oX6 (p0a 3) p0_2a p0_2k p0_2w_2 p0_2l)] : List va_W))) := vD_fa (vD_perm hD (bP (List.Perm.refl _)))
              have hKx : va_K (dC, dI) cls ((List.flatten ([(tX7 p0k)] : List (List (ClassId × FieldType)))) ++ (List.flatten ([(tX10 p0_1k), (tX6 p0_2k)] : List (List (ClassId × FieldType))))) s := vK_fa (vK_perm hK (bP (List.Perm.refl _)))
              have hPc := vP_l hPx
              have hDc := vD_l hDx
              have hKc := vK_l hKx
              have hFc := vfree hDx hS hA
              refine va_calli (va_runV (As := [.long (p0_1l_29 0 5)]) (rest := []) ⟨hx, hb, hml, hown, hts⟩ (kX7_variableOf l dC dI (p0a := p0a) (p0k := p0k) (p0w := (o_3.1)) (p0l := p0l_2) (p1 := (p0_1l_29 0 5)) (sz := _) (o := o_4) (hrun := hc_4)) (cwV 1 hts (gi_V qw85 qw86 qw87 qw65 (gi_z qw84)) rfl rfl rfl (by decide +kernel) ⟨Nat.le_of_ble_eq_true rfl, Nat.le_of_ble_eq_true rfl⟩) ⟨PRE.blind, va_recv hKc hPc (ci := 1) (q0 := 0) rfl rfl, PRE.of hE hS hFc hPc hKc hDc⟩ rfl rfl hl.1 rfl (lv_room (Nat.le_of_ble_eq_true rfl)) dX7_readParameters_62 ⟨(Nat.le_of_ble_eq_true rfl), (Nat.le_of_ble_eq_true rfl)⟩) hS (fun q _ h => hFc q h) hFc (fun r5 u t H locs ht hvm hw hB hz1 hk1 hS => ?_)
              obtain ⟨b1, b2, b3⟩ := hB
              rw [ht] at b1
              obtain ⟨hP, hD, hK⟩ := JOINC (wc := (List.flatten ([(oX7 (p0a 0) p0a p0k (o_3.1) p0l_2)] : List va_W))) (wr := (List.flatten ([(oX10 (p0a 2) p0_1a p0_1k (o_3.2.1) (o_3.2.2)), (oX6 (p0a 3) p0_2a p0_2k p0_2w_2 p0_2l)] : List va_W))) (w1 := (List.flatten ([(oX7 (p0a 0) p0a p0k (o_3.1) p0l_2)] : List va_W))) (t1 := (List.flatten ([(tX7 p0k)] : List (List (ClassId × FieldType))))) hPx hDx hKx hk1 hFc b1 (va_K.moved hvm.symm b2) b3
              have hP : va_P (dC, dI) cls (List.flatten ([(oX7 (p0a 0) p0a p0k (o_3.1) p0l_2), (oX10 (p0a 2) p0_1a p0_1k (o_3.2.1) (o_3.2.2)), (oX6 (p0a 3) p0_2a p0_2k p0_2w_2 p0_2l)] : List va_W)) H := vP_perm (vP_fb hP) (bP (List.Perm.refl _))
              have hD : va_D A (List.flatten ([(oX7 (p0a 0) p0a p0k (o_3.1) p0l_2), (oX10 (p0a 2) p0_1a p0_1k (o_3.2.1) (o_3.2.2)), (oX6 (p0a 3) p0_2a p0_2k p0_2w_2 p0_2l)] : List va_W)) := vD_perm (vD_fb hD) (bP (List.Perm.refl _))
              have hK : va_K (dC, dI) cls (List.flatten ([(tX7 p0k), (tX10 p0_1k), (tX6 p0_2k)] : List (List (ClassId × FieldType)))) s := vK_perm (vK_fb hK) (bP (List.Perm.refl _))
              obtain rfl : o_4 = r5 := hw.symm
              have J75 : ∀ (p0w_75 : ST) (H : Heap) (locs : List Loc) (ls : Array Slot), (fX7_readParameters_J75 (fX7_readParameters_L2 n_2) v1_2 p0l_2 p0_2w_2 p0_1l_29 o_3 p0w_75) = some o2 → va_P (dC, dI) cls (List.flatten ([(oX7 (p0a 0) p0a p0k p0w_75 p0l_2), (oX10 (p0a 2) p0_1a p0_1k (o_3.2.1) (o_3.2.2)), (oX6 (p0a 3) p0_2a p0_2k p0_2w_2 p0_2l)] : List va_W)) H → va_D A (List.flatten ([(oX7 (p0a 0) p0a p0k p0w_75 p0l_2), (oX10 (p0a 2) p0_1a p0_1k (o_3.2.1) (o_3.2.2)), (oX6 (p0a 3) p0_2a p0_2k p0_2w_2 p0_2l)] : List va_W)) → va_K (dC, dI) cls (List.flatten ([(tX7 p0k), (tX10 p0_1k), (tX6 p0_2k)] : List (List (ClassId × FieldType)))) s → va_S A s.heap H locs → lv_has ls 5 [(0, .ref (p0a 0)), (1, .int v1_2), (2, .long (p0_1l_29 0 5))] → W p l e ({ frames := 7, cells := 0, slots := 0, locals := 156 } : Room) s m ([.ref (p0a 0)] : List Value).toArray below meth c H locs 0 0 Q (F0 m 75 ls []) := by
                intro p0w_75 H locs ls hrun hP hD hK hS hl 
                unfold fX7_readParameters_J75 at hrun
                refine lv_aload_n hx hb dX7_readParameters_75 rfl (lv_at hl 0 rfl) ?_
                refine lv_lload_n hx hb dX7_readParameters_76 rfl (lv_at hl 2 rfl) ?_
                obtain ⟨o_6, hc_6, hrun⟩ := bnd9 hrun
                have hPx : va_P (dC, dI) cls ((List.flatten ([(oX7 (p0a 0) p0a p0k p0w_75 p0l_2), (oX6 (p0a 3) p0_2a p0_2k p0_2w_2 p0_2l)] : List va_W)) ++ (List.flatten ([(oX10 (p0a 2) p0_1a p0_1k (o_3.2.1) (o_3.2.2))] : List va_W))) H := vP_fa (vP_perm hP (bP (((List.Perm.refl _)).trans ((((((List.Perm.refl _)).cons _).trans (List.Perm.swap _ _ _))).cons _))))
                have hDx : va_D A ((List.flatten ([(oX7 (p0a 0) p0a p0k p0w_75 p0l_2), (oX6 (p0a 3) p0_2a p0_2k p0_2w_2 p0_2l)] : List va_W)) ++ (List.flatten ([(oX10 (p0a 2) p0_1a p0_1k (o_3.2.1) (o_3.2.2))] : List va_W))) := vD_fa (vD_perm hD (bP (((List.Perm.refl _)).trans ((((((List.Perm.refl _)).cons _).trans (List.Perm.swap _ _ _))).cons _))))
                have hKx : va_K (dC, dI) cls ((List.flatten ([(tX7 p0k), (tX6 p0_2k)] : List (List (ClassId × FieldType)))) ++ (List.flatten ([(tX10 p0_1k)] : List (List (ClassId × FieldType))))) s := vK_fa (vK_perm hK (bP (((List.Perm.refl _)).trans ((((((List.Perm.refl _)).cons _).trans (List.Perm.swap _ _ _))).cons _))))
                have hPc := vP_l hPx
                have hDc := vD_l hDx
                have hKc := vK_l hKx
                have hFc := vfree hDx hS hA
                refine va_calli (va_runV (As := [.long (p0_1l_29 0 5)]) (rest := []) ⟨hx, hb, hml, hown, hts⟩ (kX7_declare l dC dI (p0a := p0a) (p0k := p0k) (p0w := p0w_75) (p0l := p0l_2) (p1 := (p0_1l_29 0 5)) (p0_2a := p0_2a) (p0_2k := p0_2k) (p0_2w := p0_2w_2) (p0_2l := p0_2l) (sz := _) (o := o_6) (hrun := hc_6)) (cwV 1 hts (gi_V qw1390 qw1391 qw1392 qw65 (gi_z qw1389)) rfl rfl rfl (by decide +kernel) ⟨Nat.le_of_ble_eq_true rfl, Nat.le_of_ble_eq_true rfl⟩) ⟨PRE.blind, va_recv hKc hPc (ci := 1) (q0 := 0) rfl rfl, PRE.of hE hS hFc hPc hKc hDc⟩ rfl rfl hl.1 rfl (lv_room (Nat.le_of_ble_eq_true rfl)) dX7_readParameters_77 ⟨(Nat.le_of_ble_eq_true rfl), (Nat.le_of_ble_eq_true rfl)⟩) hS (fun q _ h => hFc q h) hFc (fun r7 u t H locs ht hvm hw hB hz1 hk1 hS => ?_)
                obtain ⟨b1, b2, b3⟩ := hB
                rw [ht] at b1
                obtain ⟨hP, hD, hK⟩ := JOINC (wc := (List.flatten ([(oX7 (p0a 0) p0a p0k p0w_75 p0l_2), (oX6 (p0a 3) p0_2a p0_2k p0_2w_2 p0_2l)] : List va_W))) (wr := (List.flatten ([(oX10 (p0a 2) p0_1a p0_1k (o_3.2.1) (o_3.2.2))] : List va_W))) (w1 := (List.flatten ([(oX7 (p0a 0) p0a p0k (o_6.2.1) (o_6.2.2.1)), (oX6 (p0a 3) p0_2a p0_2k (o_6.2.2.2) p0_2l)] : List va_W))) (t1 := (List.flatten ([(tX7 p0k), (tX6 p0_2k)] : List (List (ClassId × FieldType))))) hPx hDx hKx hk1 hFc b1 (va_K.moved hvm.symm b2) b3
                have hP : va_P (dC, dI) cls (List.flatten ([(oX7 (p0a 0) p0a p0k (o_6.2.1) (o_6.2.2.1)), (oX10 (p0a 2) p0_1a p0_1k (o_3.2.1) (o_3.2.2)), (oX6 (p0a 3) p0_2a p0_2k (o_6.2.2.2) p0_2l)] : List va_W)) H := vP_perm (vP_fb hP) (bP (((List.Perm.refl _)).trans ((((((List.Perm.refl _)).cons _).trans (List.Perm.swap _ _ _))).cons _)))
                have hD : va_D A (List.flatten ([(oX7 (p0a 0) p0a p0k (o_6.2.1) (o_6.2.2.1)), (oX10 (p0a 2) p0_1a p0_1k (o_3.2.1) (o_3.2.2)), (oX6 (p0a 3) p0_2a p0_2k (o_6.2.2.2) p0_2l)] : List va_W)) := vD_perm (vD_fb hD) (bP (((List.Perm.refl _)).trans ((((((List.Perm.refl _)).cons _).trans (List.Perm.swap _ _ _))).cons _)))
                have hK : va_K (dC, dI) cls (List.flatten ([(tX7 p0k), (tX10 p0_1k), (tX6 p0_2k)] : List (List (ClassId × FieldType)))) s := vK_perm (vK_fb hK) (bP (((List.Perm.refl _)).trans ((((((List.Perm.refl _)).cons _).trans (List.Perm.swap _ _ _))).cons _)))
                obtain rfl : r7 = (o_6.1) := hw
                refine lv_pop hx hb dX7_readParameters_80 rfl ?_
                refine lv_aload_n hx hb dX7_readParameters_81 rfl (lv_at hl 0 rfl) ?_
                refine va_get (D := (dC, dI)) (ci := 1) (v := .ref (p0a 3)) (C := RX7) (T := TX7) (N := 18) hx hb hts i_X7 hown hK hP 0 rfl rfl 2 (by decide) (hts _ qw26) (fun _ h9 => h9) rfl dX7_readParameters_82 ?_
                refine lv_bipush (v := 21) hx hb dX7_readParameters_85 (by decide) ?_
                refine lv_iload_n hx hb dX7_readParameters_87 rfl (lv_at hl 1 rfl) ?_
                refine lv_iconst (v := 0) hx hb dX7_readParameters_88 (by decide) ?_
                obtain ⟨o_8, hc_8, hrun⟩ := bnd9 hrun
                have hPx : va_P (dC, dI) cls ((List.flatten ([(oX6 (p0a 3) p0_2a p0_2k (o_6.2.2.2) p0_2l)] : List va_W)) ++ (List.flatten ([(oX7 (p0a 0) p0a p0k (o_6.2.1) (o_6.2.2.1)), (oX10 (p0a 2) p0_1a p0_1k (o_3.2.1) (o_3.2.2))] : List va_W))) H := vP_fa (vP_perm hP (bP (((((((List.Perm.refl _)).cons _).trans (List.Perm.swap _ _ _))).cons _).trans (List.Perm.swap _ _ _))))
                have hDx : va_D A ((List.flatten ([(oX6 (p0a 3) p0_2a p0_2k (o_6.2.2.2) p0_2l)] : List va_W)) ++ (List.flatten ([(oX7 (p0a 0) p0a p0k (o_6.2.1) (o_6.2.2.1)), (oX10 (p0a 2) p0_1a p0_1k (o_3.2.1) (o_3.2.2))] : List va_W))) := vD_fa (vD_perm hD (bP (((((((List.Perm.refl _)).cons _).trans (List.Perm.swap _ _ _))).cons _).trans (List.Perm.swap _ _ _))))
                have hKx : va_K (dC, dI) cls ((List.flatten ([(tX6 p0_2k)] : List (List (ClassId × FieldType)))) ++ (List.flatten ([(tX7 p0k), (tX10 p0_1k)] : List (List (ClassId × FieldType))))) s := vK_fa (vK_perm hK (bP (((((((List.Perm.refl _)).cons _).trans (List.Perm.swap _ _ _))).cons _).trans (List.Perm.swap _ _ _))))
                have hPc := vP_l hPx
                have hDc := vD_l hDx
                have hKc := vK_l hKx
                have hFc := vfree hDx hS hA
                refine va_callv (va_runV (As := [.int 21, .int v1_2, .int 0]) (rest := []) ⟨hx, hb, hml, hown, hts⟩ (kX6_emit l dC dI (p0a := (st0 (p0a 3) p0_2a)) (p0k := p0_2k) (p0w := (o_6.2.2.2)) (p0l := p0_2l) (p1 := 21) (p2 := v1_2) (p3 := 0) (sz := _) (o := o_8) (hrun := hc_8)) (cwV 3 hts (gi_V qw42 qw43 qw44 qw33 (gi_z qw41)) rfl rfl rfl (by decide +kernel) ⟨Nat.le_of_ble_eq_true rfl, Nat.le_of_ble_eq_true rfl⟩) ⟨PRE.blind, va_recv hKc hPc (ci := 2) (q0 := 0) rfl rfl, PRE.of hE hS hFc hPc hKc hDc⟩ rfl rfl hl.1 rfl (lv_room (Nat.le_of_ble_eq_true rfl)) dX7_readParameters_89 ⟨(Nat.le_of_ble_eq_true rfl), (Nat.le_of_ble_eq_true rfl)⟩) hS (fun q _ h => hFc q h) hFc (fun u t H locs ht hvm hw hB hz1 hk1 hS => ?_)
                obtain ⟨b1, b2, b3⟩ := hB
                rw [ht] at b1
                obtain ⟨hP, hD, hK⟩ := JOINC (wc := (List.flatten ([(oX6 (p0a 3) p0_2a p0_2k (o_6.2.2.2) p0_2l)] : List va_W))) (wr := (List.flatten ([(oX7 (p0a 0) p0a p0k (o_6.2.1) (o_6.2.2.1)), (oX10 (p0a 2) p0_1a p0_1k (o_3.2.1) (o_3.2.2))] : List va_W))) (w1 := (List.flatten ([(oX6 (p0a 3) p0_2a p0_2k o_8 p0_2l)] : List va_W))) (t1 := (List.flatten ([(tX6 p0_2k)] : List (List (ClassId × FieldType))))) hPx hDx hKx hk1 hFc b1 (va_K.moved hvm.symm b2) b3
                have hP : va_P (dC, dI) cls (List.flatten ([(oX7 (p0a 0) p0a p0k (o_6.2.1) (o_6.2.2.1)), (oX10 (p0a 2) p0_1a p0_1k (o_3.2.1) (o_3.2.2)), (oX6 (p0a 3) p0_2a p0_2k o_8 p0_2l)] : List va_W)) H := vP_perm (vP_fb hP) (bP ((((((List.Perm.refl _)).cons _).trans (List.Perm.swap _ _ _))).trans ((((((List.Perm.refl _)).cons _).trans (List.Perm.swap _ _ _))).cons _)))
                have hD : va_D A (List.flatten ([(oX7 (p0a 0) p0a p0k (o_6.2.1) (o_6.2.2.1)), (oX10 (p0a 2) p0_1a p0_1k (o_3.2.1) (o_3.2.2)), (oX6 (p0a 3) p0_2a p0_2k o_8 p0_2l)] : List va_W)) := vD_perm (vD_fb hD) (bP ((((((List.Perm.refl _)).cons _).trans (List.Perm.swap _ _ _))).trans ((((((List.Perm.refl _)).cons _).trans (List.Perm.swap _ _ _))).cons _)))
                have hK : va_K (dC, dI) cls (List.flatten ([(tX7 p0k), (tX10 p0_1k), (tX6 p0_2k)] : List (List (ClassId × FieldType)))) s := vK_perm (vK_fb hK) (bP ((((((List.Perm.refl _)).cons _).trans (List.Perm.swap _ _ _))).trans ((((((List.Perm.refl _)).cons _).trans (List.Perm.swap _ _ _))).cons _)))
                refine lv_aload_n hx hb dX7_readParameters_92 rfl (lv_at hl 0 rfl) ?_
                refine va_get (D := (dC, dI)) (ci := 1) (v := .ref (p0a 3)) (C := RX7) (T := TX7) (N := 18) hx hb hts i_X7 hown hK hP 0 rfl rfl 2 (by decide) (hts _ qw26) (fun _ h9 => h9) rfl dX7_readParameters_93 ?_
                refine va_get (D := (dC, dI)) (ci := 2) (v := .ref (p0_2a 4)) (C := RX6) (T := TX6) (N := 13) hx hb hts i_X6 hown hK hP 11 rfl rfl 3 (by decide) (hts _ qw57) (fun _ h9 => h9) rfl dX7_readParameters_96 ?_
                refine lv_aload_n hx hb dX7_readParameters_99 rfl (lv_at hl 0 rfl) ?_
                refine va_get (D := (dC, dI)) (ci := 1) (v := .int ((o_6.2.1) 0 3)) (C := RX7) (T := TX7) (N := 18) hx hb hts i_X7 hown hK hP 0 rfl rfl 3 (by decide) (hts _ qw27) (fun _ h9 => h9) rfl dX7_readParameters_100 ?_
                refine lv_iload_n hx hb dX7_readParameters_103 rfl (lv_at hl 1 rfl) ?_
                refine lv_iconst (v := 1) hx hb dX7_readParameters_104 (by decide) ?_
                refine lv_iadd hx hb dX7_readParameters_105 ?_
                obtain ⟨hq9, hrun⟩ := chk9 hrun
                refine va_iast hx hb hK hP hD hS 14 11 rfl rfl (ixb_in hq9) dX7_readParameters_106 (fun H locs hP hD hS => ?_)
                have hP : va_P (dC, dI) cls (List.flatten ([(oX7 (p0a 0) p0a p0k (o_6.2.1) (o_6.2.2.1)), (oX10 (p0a 2) p0_1a p0_1k (o_3.2.1) (o_3.2.2)), (oX6 (p0a 3) p0_2a p0_2k (upw o_8 4 (nn ((o_6.2.1) 0 3)) (v1_2 + 1)) p0_2l)] : List va_W)) H := hP
                have hD : va_D A (List.flatten ([(oX7 (p0a 0) p0a p0k (o_6.2.1) (o_6.2.2.1)), (oX10 (p0a 2) p0_1a p0_1k (o_3.2.1) (o_3.2.2)), (oX6 (p0a 3) p0_2a p0_2k (upw o_8 4 (nn ((o_6.2.1) 0 3)) (v1_2 + 1)) p0_2l)] : List va_W)) := hD
                obtain ⟨w10, ew10, hrun⟩ := let9 hrun
                rw [← ew10] at hP hD
                refine lv_iinc (v := (v1_2 + 1)) (lv' := [(1, .int (v1_2 + 1)), (0, .ref (p0a 0)), (2, .long (p0_1l_29 0 5))]) hx hb dX7_readParameters_107 hl (k := 1) rfl rfl (by decide) rfl (fun ls hl => ?_)
                refine lv_goto (tgt := 2) hx hb dX7_readParameters_110 (by decide) ?_
                exact IH2 (v1_2 + 1) (o_6.2.1) (o_6.2.2.1) (o_3.2.1) (o_3.2.2) w10 o2 _ _ _ hrun hP hD hK hS (lv_sub hl [1, 0] rfl) hk2
              rcases br9 hrun with ⟨hc11, hrun⟩ | ⟨hc11, hrun⟩
              · refine lv_if_lt (tgt := 75) hx hb dX7_readParameters_65 (by decide) (fun _ => ?_) (fun c => absurd hc11 c)
                exact J75 (o_3.1) _ _ _ hrun hP hD hK hS (lv_sub hl [2, 3, 1] rfl)
              · refine lv_if_lt (tgt := 75) hx hb dX7_readParameters_65 (by decide) (fun c => absurd c hc11) (fun _ => ?_)
                refine lv_aload_n hx hb dX7_readParameters_68 rfl (lv_at hl 2 rfl) ?_
                refine lv_iconst (v := 3) hx hb dX7_readParameters_69 (by decide) ?_
                refine lv_iload hx hb dX7_readParameters_70 (lv_at hl 0 rfl) ?_
                obtain ⟨o_12, hc_12, hrun⟩ := bnd9 hrun
                have hPx : va_P (dC, dI) cls ((List.flatten ([(oX7 (p0a 0) p0a p0k (o_3.1) p0l_2)] : List va_W)) ++ (List.flatten ([(oX10 (p0a 2) p0_1a p0_1k (o_3.2.1) (o_3.2.2)), (oX6 (p0a 3) p0_2a p0_2k p0_2w_2 p0_2l)] : List va_W))) H := vP_fa (vP_perm hP (bP (List.Perm.refl _)))
                have hDx : va_D A ((List.flatten ([(oX7 (p0a 0) p0a p0k (o_3.1) p0l_2)] : List va_W)) ++ (List.flatten ([(oX10 (p0a 2) p0_1a p0_1k (o_3.2.1) (o_3.2.2)), (oX6 (p0a 3) p0_2a p0_2k p0_2w_2 p0_2l)] : List va_W))) := vD_fa (vD_perm hD (bP (List.Perm.refl _)))
                have hKx : va_K (dC, dI) cls ((List.flatten ([(tX7 p0k)] : List (List (ClassId × FieldType)))) ++ (List.flatten ([(tX10 p0_1k), (tX6 p0_2k)] : List (List (ClassId × FieldType))))) s := vK_fa (vK_perm hK (bP (List.Perm.refl _)))
                have hPc := vP_l hPx
                have hDc := vD_l hDx
                have hKc := vK_l hKx
                have hFc := vfree hDx hS hA
                refine va_callv (va_runV (As := [.int 3, .int (p0_1w_29 0 3)]) (rest := []) ⟨hx, hb, hml, hown, hts⟩ (kX7_blame l dC dI (p0a := p0a) (p0k := p0k) (p0w := (o_3.1)) (p0l := p0l_2) (p1 := 3) (p2 := (p0_1w_29 0 3)) (sz := _) (o := o_12) (hrun := hc_12)) (cwV 2 hts (gi_V qw62 qw63 qw64 qw65 (gi_z qw61)) rfl rfl rfl (by decide +kernel) ⟨Nat.le_of_ble_eq_true rfl, Nat.le_of_ble_eq_true rfl⟩) ⟨PRE.blind, va_recv hKc hPc (ci := 1) (q0 := 0) rfl rfl, PRE.of hE hS hFc hPc hKc hDc⟩ rfl rfl hl.1 rfl (lv_room (Nat.le_of_ble_eq_true rfl)) dX7_readParameters_72 ⟨(Nat.le_of_ble_eq_true rfl), (Nat.le_of_ble_eq_true rfl)⟩) hS (fun q _ h => hFc q h) hFc (fun u t H locs ht hvm hw hB hz1 hk1 hS => ?_)
                obtain ⟨b1, b2, b3⟩ := hB
                rw [ht] at b1
                obtain ⟨hP, hD, hK⟩ := JOINC (wc := (List.flatten ([(oX7 (p0a 0) p0a p0k (o_3.1) p0l_2)] : List va_W))) (wr := (List.flatten ([(oX10 (p0a 2) p0_1a p0_1k (o_3.2.1) (o_3.2.2)), (oX6 (p0a 3) p0_2a p0_2k p0_2w_2 p0_2l)] : List va_W))) (w1 := (List.flatten ([(oX7 (p0a 0) p0a p0k o_12 p0l_2)] : List va_W))) (t1 := (List.flatten ([(tX7 p0k)] : List (List (ClassId × FieldType))))) hPx hDx hKx hk1 hFc b1 (va_K.moved hvm.symm b2) b3
                have hP : va_P (dC, dI) cls (List.flatten ([(oX7 (p0a 0) p0a p0k o_12 p0l_2), (oX10 (p0a 2) p0_1a p0_1k (o_3.2.1) (o_3.2.2)), (oX6 (p0a 3) p0_2a p0_2k p0_2w_2 p0_2l)] : List va_W)) H := vP_perm (vP_fb hP) (bP (List.Perm.refl _))
                have hD : va_D A (List.flatten ([(oX7 (p0a 0) p0a p0k o_12 p0l_2), (oX10 (p0a 2) p0_1a p0_1k (o_3.2.1) (o_3.2.2)), (oX6 (p0a 3) p0_2a p0_2k p0_2w_2 p0_2l)] : List va_W)) := vD_perm (vD_fb hD) (bP (List.Perm.refl _))
                have hK : va_K (dC, dI) cls (List.flatten ([(tX7 p0k), (tX10 p0_1k), (tX6 p0_2k)] : List (List (ClassId × FieldType)))) s := vK_perm (vK_fb hK) (bP (List.Perm.refl _))
                exact J75 o_12 _ _ _ hrun hP hD hK hS (lv_sub hl [2, 3, 1] rfl)
            rcases br9 hrun with ⟨hc13, hrun⟩ | ⟨hc13, hrun⟩
            · refine lv_icmp_ne (tgt := 38) hx hb dX7_readParameters_31 (by decide) (fun c => absurd hc13 c) (fun _ => ?_)
              refine lv_aload_n hx hb dX7_readParameters_34 rfl (lv_at hl 0 rfl) ?_
              cases hrun
            · refine lv_icmp_ne (tgt := 38) hx hb dX7_readParameters_31 (by decide) (fun _ => ?_) (fun c => absurd c hc13)
              exact J38 _ _ _ hrun hP hD hK hS (lv_sub hl [0, 1] rfl)
          rcases br9 hrun with ⟨hc14, hrun⟩ | ⟨hc14, hrun⟩
          · refine lv_if_le (tgt := 29) hx hb dX7_readParameters_20 (by decide) (fun _ => ?_) (fun c => absurd hc14 c)
            exact J29 p0w_2 p0_1w_2 p0_1l_2 _ _ _ hrun hP hD hK hS (lv_sub hl [0, 1] rfl)
          · refine lv_if_le (tgt := 29) hx hb dX7_readParameters_20 (by decide) (fun c => absurd c hc14) (fun _ => ?_)
            refine lv_aload_n hx hb dX7_readParameters_23 rfl (lv_at hl 0 rfl) ?_
            refine lv_bipush (v := 44) hx hb dX7_readParameters_24 (by decide) ?_
            obtain ⟨o_15, hc_15, hrun⟩ := bnd9 hrun
            have hPx : va_P (dC, dI) cls ((List.flatten ([(oX7 (p0a 0) p0a p0k p0w_2 p0l_2), (oX10 (p0a 2) p0_1a p0_1k p0_1w_2 p0_1l_2)] : List va_W)) ++ (List.flatten ([(oX6 (p0a 3) p0_2a p0_2k p0_2w_2 p0_2l)] : List va_W))) H := vP_fa (vP_perm hP (bP (List.Perm.refl _)))
            have hDx : va_D A ((List.flatten ([(oX7 (p0a 0) p0a p0k p0w_2 p0l_2), (oX10 (p0a 2) p0_1a p0_1k p0_1w_2 p0_1l_2)] : List va_W)) ++ (List.flatten ([(oX6 (p0a 3) p0_2a p0_2k p0_2w_2 p0_2l)] : List va_W))) := vD_fa (vD_perm hD (bP (List.Perm.refl _)))
            have hKx : va_K (dC, dI) cls ((List.flatten ([(tX7 p0k), (tX10 p0_1k)] : List (List (ClassId × FieldType)))) ++ (List.flatten ([(tX6 p0_2k)] : List (List (ClassId × FieldType))))) s := vK_fa (vK_perm hK (bP (List.Perm.refl _)))
            have hPc := vP_l hPx
            have hDc := vD_l hDx
            have hKc := vK_l hKx
            have hFc := vfree hDx hS hA
            refine va_callv (va_runV (As := [.int 44]) (rest := []) ⟨hx, hb, hml, hown, hts⟩ (kX7_expect l dC dI (p0a := p0a) (p0k := p0k) (p0w := p0w_2) (p0l := p0l_2) (p1 := 44) (aK := aK) (aV := aV) (p0_1a := p0_1a) (p0_1k := p0_1k) (p0_1w := p0_1w_2) (p0_1l := p0_1l_2) (sz := _) (o := o_15) (hrun := hc_15)) (cwV 1 hts (gi_V qw1386 qw1387 qw1388 qw65 (gi_z qw1385)) rfl rfl rfl (by decide +kernel) ⟨Nat.le_of_ble_eq_true rfl, Nat.le_of_ble_eq_true rfl⟩) ⟨PRE.blind, va_recv hKc hPc (ci := 1) (q0 := 0) rfl rfl, PRE.of (ENV.add hE st9_m hro_st) hS hFc hPc hKc hDc⟩ rfl rfl hl.1 rfl (lv_room (Nat.le_of_ble_eq_true rfl)) dX7_readParameters_26 ⟨(Nat.le_of_ble_eq_true rfl), (Nat.le_of_ble_eq_true rfl)⟩) hS (fun q _ h => hFc q h) hFc (fun u t H locs ht hvm hw hB hz1 hk1 hS => ?_)
            obtain ⟨b1, b2, b3⟩ := hB
            rw [ht] at b1
            obtain ⟨hP, hD, hK⟩ := JOINC (wc := (List.flatten ([(oX7 (p0a 0) p0a p0k p0w_2 p0l_2), (oX10 (p0a 2) p0_1a p0_1k p0_1w_2 p0_1l_2)] : List va_W))) (wr := (List.flatten ([(oX6 (p0a 3) p0_2a p0_2k p0_2w_2 p0_2l)] : List va_W))) (w1 := (List.flatten ([(oX7 (p0a 0) p0a p0k (o_15.1) p0l_2), (oX10 (p0a 2) p0_1a p0_1k (o_15.2.1) (o_15.2.2))] : List va_W))) (t1 := (List.flatten ([(tX7 p0k), (tX10 p0_1k)] : List (List (ClassId × FieldType))))) hPx hDx hKx hk1 hFc b1 (va_K.moved hvm.symm b2) b3
            have hP : va_P (dC, dI) cls (List.flatten ([(oX7 (p0a 0) p0a p0k (o_15.1) p0l_2), (oX10 (p0a 2) p0_1a p0_1k (o_15.2.1) (o_15.2.2)), (oX6 (p0a 3) p0_2a p0_2k p0_2w_2 p0_2l)] : List va_W)) H := vP_perm (vP_fb hP) (bP (List.Perm.refl _))
            have hD : va_D A (List.flatten ([(oX7 (p0a 0) p0a p0k (o_15.1) p0l_2), (oX10 (p0a 2) p0_1a p0_1k (o_15.2.1) (o_15.2.2)), (oX6 (p0a 3) p0_2a p0_2k p0_2w_2 p0_2l)] : List va_W)) := vD_perm (vD_fb hD) (bP (List.Perm.refl _))
            have hK : va_K (dC, dI) cls (List.flatten ([(tX7 p0k), (tX10 p0_1k), (tX6 p0_2k)] : List (List (ClassId × FieldType)))) s := vK_perm (vK_fb hK) (bP (List.Perm.refl _))
            exact J29 (o_15.1) (o_15.2.1) (o_15.2.2) _ _ _ hrun hP hD hK hS (lv_sub hl [0, 1] rfl)
  obtain ⟨o2, hc2, hrun⟩ := bnd9 hrun
  refine L2 NF 0 p0w p0l p0_1w p0_1l p0_2w o2 _ _ _ hc2 hP hD hK hS (lv_sub hl [1, 0] rfl) ?_
  intro H locs ls hP hD hK hS hl
  have hl := hl
  have ho9 : ((o2.1), (o2.2.1), (o2.2.2.1), (o2.2.2.2.1), (o2.2.2.2.2)) = o := Option.some.inj hrun
  have hP9 : va_P (dC, dI) cls (List.flatten ([(oX7 (p0a 0) p0a p0k (o.1) (o.2.1)), (oX10 (p0a 2) p0_1a p0_1k (o.2.2.1) (o.2.2.2.1)), (oX6 (p0a 3) p0_2a p0_2k (o.2.2.2.2) p0_2l)] : List va_W)) H := by first | exact hP | (rw [← ho9]; exact hP)
  have hD9 : va_D A (List.flatten ([(oX7 (p0a 0) p0a p0k (o.1) (o.2.1)), (oX10 (p0a 2) p0_1a p0_1k (o.2.2.1) (o.2.2.2.1)), (oX6 (p0a 3) p0_2a p0_2k (o.2.2.2.2) p0_2l)] : List va_W)) := by first | exact hD | (rw [← ho9]; exact hD)
  subst hQ
  exact W.vret hx hb hr (fun t ht hW => ⟨⟨(), rfl, trivial, ⟨by rw [ht]; exact hP9, va_K.moved hW.alike hK, hD9⟩⟩, hS.F ht⟩) hS.2.2 dX7_readParameters_113
set_option maxHeartbeats 16000000 in
set_option maxRecDepth 100000 in
theorem kX7_readLeave_a1_p0_11 {zs : ZS} (l : Launch) (dC : Nat → ClassId) (dI : Nat → Nat → Nat) (p0a : Nat → Nat) (p0k : Nat → ClassId) (p0w : ST) (p0l : SL) (aK : Nat → Nat) (aV : Nat → Nat) (p0_1a : Nat → Nat) (p0_1k : Nat → ClassId) (p0_1w : ST) (p0_1l : SL) (p0_2a : Nat → Nat) (p0_2k : Nat → ClassId) (p0_2w : ST) (p0_2l : SL) (sz : Nat) (o : ST × ST × SL × ST) (hrun : fX7_readLeave_a1_p0_11 p0w p0_1w p0_1l p0_2w = some o) : Met l yX7_readLeave (wz yX7_readLeave cX7_readLeave 2 (Option.none : Option Jvm.ClassFile.FieldType)) ({ frames := 7, cells := 0, slots := 0, locals := 156 } : Room) (va_Pc [.ref (p0a 0), .ref (p0a 12)] (PRE (zA zs (st9 aK aV)) dC dI (List.flatten ([(oX7 (p0a 0) p0a p0k p0w p0l), (oX10 (p0a 2) p0_1a p0_1k p0_1w p0_1l), (oX6 (p0a 3) p0_2a p0_2k p0_2w p0_2l)] : List va_W)) (List.flatten ([(tX7 p0k), (tX10 p0_1k), (tX6 p0_2k)] : List (List (ClassId × FieldType)))) sz)) (va_Qv (fun (_ : Unit) => True) (fun _ t => POST dC dI (List.flatten ([(oX7 (p0a 0) p0a p0k (o.1) p0l), (oX10 (p0a 2) p0_1a p0_1k (o.2.1) (o.2.2.1)), (oX6 (p0a 3) p0_2a p0_2k (o.2.2.2) p0_2l)] : List va_W)) (List.flatten ([(tX7 p0k), (tX10 p0_1k), (tX6 p0_2k)] : List (List (ClassId × FieldType)))) (va_A (List.flatten ([(oX7 (p0a 0) p0a p0k p0w p0l), (oX10 (p0a 2) p0_1a p0_1k p0_1w p0_1l), (oX6 (p0a 3) p0_2a p0_2k p0_2w p0_2l)] : List va_W)) sz) t) (va_A (List.flatten ([(oX7 (p0a 0) p0a p0k p0w p0l), (oX10 (p0a 2) p0_1a p0_1k p0_1w p0_1l), (oX6 (p0a 3) p0_2a p0_2k p0_2w p0_2l)] : List va_W)) sz)) 0 0 (va_A (List.flatten ([(oX7 (p0a 0) p0a p0k p0w p0l), (oX10 (p0a 2) p0_1a p0_1k p0_1w p0_1l), (oX6 (p0a 3) p0_2a p0_2k p0_2w p0_2l)] : List va_W)) sz) := by
  refine Met.ofW (cc := cX7_readLeave) (maxL := 2) (ret := (Option.none : Option Jvm.ClassFile.FieldType)) (by decide) rfl ?_
  intro p e s m args below meth c s₁ B hml hv
  obtain ⟨rfl, hsz, hP, hK, hD0, hE⟩ := hv
  have hx := B.exec
  have hb := B.bytes
  have hr := B.returns
  have hts0 := atoms_spec (ws := wz yX7_readLeave cX7_readLeave 2 (Option.none : Option Jvm.ClassFile.FieldType)) B.pre
  have hts : ∀ w ∈ gw, w.before _ s = true := fun w h => hts0 w (List.mem_cons_of_mem _ h)
  have hown : s.vm.findClass RX7 = some m.cls := findClass_of_methodNamed B.named
  have hlocks := B.notSynchronized
  subst hsz
  have hD := hD0.self (sz := s.heap.size)
  refine gQ9 ?_
  intro Q hQ
  generalize hAe : va_A (List.flatten ([(oX7 (p0a 0) p0a p0k p0w p0l), (oX10 (p0a 2) p0_1a p0_1k p0_1w p0_1l), (oX6 (p0a 3) p0_2a p0_2k p0_2w p0_2l)] : List va_W)) s.heap.size = A at hD hE hQ
  have hA : ∀ q : Nat, s.heap.size ≤ q → A q := fun q h => by rw [← hAe]; exact Or.inr h
  have hro := ENV.ex hE
  have hro_st := hro.2
  replace hro := hro.1
  have hS : va_S A s.heap s.heap [] := va_S.rf
  have hP : va_P (dC, dI) cls (List.flatten ([(oX7 (p0a 0) p0a p0k p0w p0l), (oX10 (p0a 2) p0_1a p0_1k p0_1w p0_1l), (oX6 (p0a 3) p0_2a p0_2k p0_2w p0_2l)] : List va_W)) s.heap := hP
  have hl := lv_entry ([.ref (p0a 0), .ref (p0a 12)]) (n := 2) (Nat.le_of_ble_eq_true rfl)
  rw [lg_entry_eq]
  generalize (lg_sl ([.ref (p0a 0), .ref (p0a 12)]) ++ List.replicate (2 - (lg_sl ([.ref (p0a 0), .ref (p0a 12)])).length) Slot.unset).toArray = ls at hl ⊢
  have hl : lv_has ls 2 [(0, .ref (p0a 0)), (1, .ref (p0a 12))] := hl
  obtain ⟨H, hHe⟩ : ∃ H, H = s.heap := ⟨_, rfl⟩
  obtain ⟨locs, hle⟩ : ∃ locs : List Loc, locs = [] := ⟨_, rfl⟩
  rw [← hHe] at hP
  have hS : va_S A s.heap H locs := by rw [hHe, hle]; exact hS
  show W p l e ({ frames := 7, cells := 0, slots := 0, locals := 156 } : Room) s m ([.ref (p0a 0), .ref (p0a 12)] : List Value).toArray below meth c s.heap [] 0 0 Q (F0 m 0 ls [])
  rw [← hle]
  refine wH9 hHe ?_
  unfold fX7_readLeave_a1_p0_11 at hrun
  refine lv_aload_n hx hb dX7_readLeave_0 rfl (lv_at hl 0 rfl) ?_
  refine va_get (D := (dC, dI)) (ci := 1) (v := .int (p0w 0 12)) (C := RX7) (T := TX7) (N := 18) hx hb hts i_X7 hown hK hP 0 rfl rfl 12 (by decide) (hts _ qw68) (fun _ h9 => h9) rfl dX7_readLeave_1 ?_
  have J49 : ∀ (p0w_49 : ST) (p0_2w_49 : ST) (H : Heap) (locs : List Loc) (ls : Array Slot), (fX7_readLeave_a1_p0_11_J49 p0_1w p0_1l p0w_49 p0_2w_49) = some o → va_P (dC, dI) cls (List.flatten ([(oX7 (p0a 0) p0a p0k p0w_49 p0l), (oX10 (p0a 2) p0_1a p0_1k p0_1w p0_1l), (oX6 (p0a 3) p0_2a p0_2k p0_2w_49 p0_2l)] : List va_W)) H → va_D A (List.flatten ([(oX7 (p0a 0) p0a p0k p0w_49 p0l), (oX10 (p0a 2) p0_1a p0_1k p0_1w p0_1l), (oX6 (p0a 3) p0_2a p0_2k p0_2w_49 p0_2l)] : List va_W)) → va_K (dC, dI) cls (List.flatten ([(tX7 p0k), (tX10 p0_1k), (tX6 p0_2k)] : List (List (ClassId × FieldType)))) s → va_S A s.heap H locs → lv_has ls 2 [(0, .ref (p0a 0))] → W p l e ({ frames := 7, cells := 0, slots := 0, locals := 156 } : Room) s m ([.ref (p0a 0), .ref (p0a 12)] : List Value).toArray below meth c H locs 0 0 Q (F0 m 49 ls []) := by
    intro p0w_49 p0_2w_49 H locs ls hrun hP hD hK hS hl 
    unfold fX7_readLeave_a1_p0_11_J49 at hrun
    refine lv_aload_n hx hb dX7_readLeave_49 rfl (lv_at hl 0 rfl) ?_
    refine va_get (D := (dC, dI)) (ci := 1) (v := .ref (p0a 2)) (C := RX7) (T := TX7) (N := 18) hx hb hts i_X7 hown hK hP 0 rfl rfl 1 (by decide) (hts _ qw45) (fun _ h9 => h9) rfl dX7_readLeave_50 ?_
    obtain ⟨o_1, hc_1, hrun⟩ := bnd9 hrun
    have hPx : va_P (dC, dI) cls ((List.flatten ([(oX10 (p0a 2) p0_1a p0_1k p0_1w p0_1l)] : List va_W)) ++ (List.flatten ([(oX7 (p0a 0) p0a p0k p0w_49 p0l), (oX6 (p0a 3) p0_2a p0_2k p0_2w_49 p0_2l)] : List va_W))) H := vP_fa (vP_perm hP (bP ((((List.Perm.refl _)).cons _).trans (List.Perm.swap _ _ _))))
    have hDx : va_D A ((List.flatten ([(oX10 (p0a 2) p0_1a p0_1k p0_1w p0_1l)] : List va_W)) ++ (List.flatten ([(oX7 (p0a 0) p0a p0k p0w_49 p0l), (oX6 (p0a 3) p0_2a p0_2k p0_2w_49 p0_2l)] : List va_W))) := vD_fa (vD_perm hD (bP ((((List.Perm.refl _)).cons _).trans (List.Perm.swap _ _ _))))
    have hKx : va_K (dC, dI) cls ((List.flatten ([(tX10 p0_1k)] : List (List (ClassId × FieldType)))) ++ (List.flatten ([(tX7 p0k), (tX6 p0_2k)] : List (List (ClassId × FieldType))))) s := vK_fa (vK_perm hK (bP ((((List.Perm.refl _)).cons _).trans (List.Perm.swap _ _ _))))
    have hPc := vP_l hPx
    have hDc := vD_l hDx
    have hKc := vK_l hKx
    have hFc := vfree hDx hS hA
    refine va_callv (va_runV (As := []) (rest := []) ⟨hx, hb, hml, hown, hts⟩ (kX10_advance l dC dI (p0a := (st0 (p0a 2) p0_1a)) (p0k := p0_1k) (p0w := p0_1w) (p0l := p0_1l) (aK := aK) (aV := aV) (sz := _) (o := o_1) (hrun := hc_1)) (cwV 0 hts (gi_V qw1384 qw1382 qw1383 qw8 (gi_z qw1380)) rfl rfl rfl (by decide +kernel) ⟨Nat.le_of_ble_eq_true rfl, Nat.le_of_ble_eq_true rfl⟩) ⟨PRE.blind, va_recv hKc hPc (ci := 0) (q0 := 0) rfl rfl, PRE.of (ENV.add hE st9_m hro_st) hS hFc hPc hKc hDc⟩ rfl rfl hl.1 rfl (lv_room (Nat.le_of_ble_eq_true rfl)) dX7_readLeave_53 ⟨(Nat.le_of_ble_eq_true rfl), (Nat.le_of_ble_eq_true rfl)⟩) hS (fun q _ h => hFc q h) hFc (fun u t H locs ht hvm hw hB hz1 hk1 hS => ?_)
    obtain ⟨b1, b2, b3⟩ := hB
    rw [ht] at b1
    obtain ⟨hP, hD, hK⟩ := JOINC (wc := (List.flatten ([(oX10 (p0a 2) p0_1a p0_1k p0_1w p0_1l)] : List va_W))) (wr := (List.flatten ([(oX7 (p0a 0) p0a p0k p0w_49 p0l), (oX6 (p0a 3) p0_2a p0_2k p0_2w_49 p0_2l)] : List va_W))) (w1 := (List.flatten ([(oX10 (p0a 2) p0_1a p0_1k (o_1.1) (o_1.2))] : List va_W))) (t1 := (List.flatten ([(tX10 p0_1k)] : List (List (ClassId × FieldType))))) hPx hDx hKx hk1 hFc b1 (va_K.moved hvm.symm b2) b3
    have hP : va_P (dC, dI) cls (List.flatten ([(oX7 (p0a 0) p0a p0k p0w_49 p0l), (oX10 (p0a 2) p0_1a p0_1k (o_1.1) (o_1.2)), (oX6 (p0a 3) p0_2a p0_2k p0_2w_49 p0_2l)] : List va_W)) H := vP_perm (vP_fb hP) (bP ((((List.Perm.refl _)).cons _).trans (List.Perm.swap _ _ _)))
    have hD : va_D A (List.flatten ([(oX7 (p0a 0) p0a p0k p0w_49 p0l), (oX10 (p0a 2) p0_1a p0_1k (o_1.1) (o_1.2)), (oX6 (p0a 3) p0_2a p0_2k p0_2w_49 p0_2l)] : List va_W)) := vD_perm (vD_fb hD) (bP ((((List.Perm.refl _)).cons _).trans (List.Perm.swap _ _ _)))
    have hK : va_K (dC, dI) cls (List.flatten ([(tX7 p0k), (tX10 p0_1k), (tX6 p0_2k)] : List (List (ClassId × FieldType)))) s := vK_perm (vK_fb hK) (bP ((((List.Perm.refl _)).cons _).trans (List.Perm.swap _ _ _)))
    refine lv_aload_n hx hb dX7_readLeave_56 rfl (lv_at hl 0 rfl) ?_
    refine lv_bipush (v := 59) hx hb dX7_readLeave_57 (by decide) ?_
    obtain ⟨o_2, hc_2, hrun⟩ := bnd9 hrun
    have hPx : va_P (dC, dI) cls ((List.flatten ([(oX7 (p0a 0) p0a p0k p0w_49 p0l), (oX10 (p0a 2) p0_1a p0_1k (o_1.1) (o_1.2))] : List va_W)) ++ (List.flatten ([(oX6 (p0a 3) p0_2a p0_2k p0_2w_49 p0_2l)] : List va_W))) H := vP_fa (vP_perm hP (bP (List.Perm.refl _)))
    have hDx : va_D A ((List.flatten ([(oX7 (p0a 0) p0a p0k p0w_49 p0l), (oX10 (p0a 2) p0_1a p0_1k (o_1.1) (o_1.2))] : List va_W)) ++ (List.flatten ([(oX6 (p0a 3) p0_2a p0_2k p0_2w_49 p0_2l)] : List va_W))) := vD_fa (vD_perm hD (bP (List.Perm.refl _)))
    have hKx : va_K (dC, dI) cls ((List.flatten ([(tX7 p0k), (tX10 p0_1k)] : List (List (ClassId × FieldType)))) ++ (List.flatten ([(tX6 p0_2k)] : List (List (ClassId × FieldType))))) s := vK_fa (vK_perm hK (bP (List.Perm.refl _)))
    have hPc := vP_l hPx
    have hDc := vD_l hDx
    have hKc := vK_l hKx
    have hFc := vfree hDx hS hA
    refine va_callv (va_runV (As := [.int 59]) (rest := []) ⟨hx, hb, hml, hown, hts⟩ (kX7_expect l dC dI (p0a := p0a) (p0k := p0k) (p0w := p0w_49) (p0l := p0l) (p1 := 59) (aK := aK) (aV := aV) (p0_1a := p0_1a) (p0_1k := p0_1k) (p0_1w := (o_1.1)) (p0_1l := (o_1.2)) (sz := _) (o := o_2) (hrun := hc_2)) (cwV 1 hts (gi_V qw1386 qw1387 qw1388 qw65 (gi_z qw1385)) rfl rfl rfl (by decide +kernel) ⟨Nat.le_of_ble_eq_true rfl, Nat.le_of_ble_eq_true rfl⟩) ⟨PRE.blind, va_recv hKc hPc (ci := 1) (q0 := 0) rfl rfl, PRE.of (ENV.add hE st9_m hro_st) hS hFc hPc hKc hDc⟩ rfl rfl hl.1 rfl (lv_room (Nat.le_of_ble_eq_true rfl)) dX7_readLeave_59 ⟨(Nat.le_of_ble_eq_true rfl), (Nat.le_of_ble_eq_true rfl)⟩) hS (fun q _ h => hFc q h) hFc (fun u t H locs ht hvm hw hB hz1 hk1 hS => ?_)
    obtain ⟨b1, b2, b3⟩ := hB
    rw [ht] at b1
    obtain ⟨hP, hD, hK⟩ := JOINC (wc := (List.flatten ([(oX7 (p0a 0) p0a p0k p0w_49 p0l), (oX10 (p0a 2) p0_1a p0_1k (o_1.1) (o_1.2))] : List va_W))) (wr := (List.flatten ([(oX6 (p0a 3) p0_2a p0_2k p0_2w_49 p0_2l)] : List va_W))) (w1 := (List.flatten ([(oX7 (p0a 0) p0a p0k (o_2.1) p0l), (oX10 (p0a 2) p0_1a p0_1k (o_2.2.1) (o_2.2.2))] : List va_W))) (t1 := (List.flatten ([(tX7 p0k), (tX10 p0_1k)] : List (List (ClassId × FieldType))))) hPx hDx hKx hk1 hFc b1 (va_K.moved hvm.symm b2) b3
    have hP : va_P (dC, dI) cls (List.flatten ([(oX7 (p0a 0) p0a p0k (o_2.1) p0l), (oX10 (p0a 2) p0_1a p0_1k (o_2.2.1) (o_2.2.2)), (oX6 (p0a 3) p0_2a p0_2k p0_2w_49 p0_2l)] : List va_W)) H := vP_perm (vP_fb hP) (bP (List.Perm.refl _))
    have hD : va_D A (List.flatten ([(oX7 (p0a 0) p0a p0k (o_2.1) p0l), (oX10 (p0a 2) p0_1a p0_1k (o_2.2.1) (o_2.2.2)), (oX6 (p0a 3) p0_2a p0_2k p0_2w_49 p0_2l)] : List va_W)) := vD_perm (vD_fb hD) (bP (List.Perm.refl _))
    have hK : va_K (dC, dI) cls (List.flatten ([(tX7 p0k), (tX10 p0_1k), (tX6 p0_2k)] : List (List (ClassId × FieldType)))) s := vK_perm (vK_fb hK) (bP (List.Perm.refl _))
    have ho9 : ((o_2.1), (o_2.2.1), (o_2.2.2), p0_2w_49) = o := Option.some.inj hrun
    have hP9 : va_P (dC, dI) cls (List.flatten ([(oX7 (p0a 0) p0a p0k (o.1) p0l), (oX10 (p0a 2) p0_1a p0_1k (o.2.1) (o.2.2.1)), (oX6 (p0a 3) p0_2a p0_2k (o.2.2.2) p0_2l)] : List va_W)) H := by first | exact hP | (rw [← ho9]; exact hP)
    have hD9 : va_D A (List.flatten ([(oX7 (p0a 0) p0a p0k (o.1) p0l), (oX10 (p0a 2) p0_1a p0_1k (o.2.1) (o.2.2.1)), (oX6 (p0a 3) p0_2a p0_2k (o.2.2.2) p0_2l)] : List va_W)) := by first | exact hD | (rw [← ho9]; exact hD)
    subst hQ
    exact W.vret hx hb hr (fun t ht hW => ⟨⟨(), rfl, trivial, ⟨by rw [ht]; exact hP9, va_K.moved hW.alike hK, hD9⟩⟩, hS.F ht⟩) hS.2.2 dX7_readLeave_62
  rcases br9 hrun with ⟨hc3, hrun⟩ | ⟨hc3, hrun⟩
  · refine lv_if_ne (tgt := 22) hx hb dX7_readLeave_4 (by decide) (fun c => absurd hc3 c) (fun _ => ?_)
    refine lv_aload_n hx hb dX7_readLeave_7 rfl (lv_at hl 0 rfl) ?_
    refine lv_iconst (v := 5) hx hb dX7_readLeave_8 (by decide) ?_
    refine lv_aload_n hx hb dX7_readLeave_9 rfl (lv_at hl 0 rfl) ?_
    refine va_get (D := (dC, dI)) (ci := 1) (v := .ref (p0a 2)) (C := RX7) (T := TX7) (N := 18) hx hb hts i_X7 hown hK hP 0 rfl rfl 1 (by decide) (hts _ qw45) (fun _ h9 => h9) rfl dX7_readLeave_10 ?_
    refine va_get (D := (dC, dI)) (ci := 0) (v := .int (p0_1w 0 3)) (C := RX10) (T := TX10) (N := 8) hx hb hts i_X10 hown hK hP 9 rfl rfl 3 (by decide) (hts _ qw69) (fun _ h9 => h9) rfl dX7_readLeave_13 ?_
    obtain ⟨o_4, hc_4, hrun⟩ := bnd9 hrun
    have hPx : va_P (dC, dI) cls ((List.flatten ([(oX7 (p0a 0) p0a p0k p0w p0l)] : List va_W)) ++ (List.flatten ([(oX10 (p0a 2) p0_1a p0_1k p0_1w p0_1l), (oX6 (p0a 3) p0_2a p0_2k p0_2w p0_2l)] : List va_W))) H := vP_fa (vP_perm hP (bP (List.Perm.refl _)))
    have hDx : va_D A ((List.flatten ([(oX7 (p0a 0) p0a p0k p0w p0l)] : List va_W)) ++ (List.flatten ([(oX10 (p0a 2) p0_1a p0_1k p0_1w p0_1l), (oX6 (p0a 3) p0_2a p0_2k p0_2w p0_2l)] : List va_W))) := vD_fa (vD_perm hD (bP (List.Perm.refl _)))
    have hKx : va_K (dC, dI) cls ((List.flatten ([(tX7 p0k)] : List (List (ClassId × FieldType)))) ++ (List.flatten ([(tX10 p0_1k), (tX6 p0_2k)] : List (List (ClassId × FieldType))))) s := vK_fa (vK_perm hK (bP (List.Perm.refl _)))
    have hPc := vP_l hPx
    have hDc := vD_l hDx
    have hKc := vK_l hKx
    have hFc := vfree hDx hS hA
    refine va_callv (va_runV (As := [.int 5, .int (p0_1w 0 3)]) (rest := []) ⟨hx, hb, hml, hown, hts⟩ (kX7_blame l dC dI (p0a := p0a) (p0k := p0k) (p0w := p0w) (p0l := p0l) (p1 := 5) (p2 := (p0_1w 0 3)) (sz := _) (o := o_4) (hrun := hc_4)) (cwV 2 hts (gi_V qw62 qw63 qw64 qw65 (gi_z qw61)) rfl rfl rfl (by decide +kernel) ⟨Nat.le_of_ble_eq_true rfl, Nat.le_of_ble_eq_true rfl⟩) ⟨PRE.blind, va_recv hKc hPc (ci := 1) (q0 := 0) rfl rfl, PRE.of hE hS hFc hPc hKc hDc⟩ rfl rfl hl.1 rfl (lv_room (Nat.le_of_ble_eq_true rfl)) dX7_readLeave_16 ⟨(Nat.le_of_ble_eq_true rfl), (Nat.le_of_ble_eq_true rfl)⟩) hS (fun q _ h => hFc q h) hFc (fun u t H locs ht hvm hw hB hz1 hk1 hS => ?_)
    obtain ⟨b1, b2, b3⟩ := hB
    rw [ht] at b1
    obtain ⟨hP, hD, hK⟩ := JOINC (wc := (List.flatten ([(oX7 (p0a 0) p0a p0k p0w p0l)] : List va_W))) (wr := (List.flatten ([(oX10 (p0a 2) p0_1a p0_1k p0_1w p0_1l), (oX6 (p0a 3) p0_2a p0_2k p0_2w p0_2l)] : List va_W))) (w1 := (List.flatten ([(oX7 (p0a 0) p0a p0k o_4 p0l)] : List va_W))) (t1 := (List.flatten ([(tX7 p0k)] : List (List (ClassId × FieldType))))) hPx hDx hKx hk1 hFc b1 (va_K.moved hvm.symm b2) b3
    have hP : va_P (dC, dI) cls (List.flatten ([(oX7 (p0a 0) p0a p0k o_4 p0l), (oX10 (p0a 2) p0_1a p0_1k p0_1w p0_1l), (oX6 (p0a 3) p0_2a p0_2k p0_2w p0_2l)] : List va_W)) H := vP_perm (vP_fb hP) (bP (List.Perm.refl _))
    have hD : va_D A (List.flatten ([(oX7 (p0a 0) p0a p0k o_4 p0l), (oX10 (p0a 2) p0_1a p0_1k p0_1w p0_1l), (oX6 (p0a 3) p0_2a p0_2k p0_2w p0_2l)] : List va_W)) := vD_perm (vD_fb hD) (bP (List.Perm.refl _))
    have hK : va_K (dC, dI) cls (List.flatten ([(tX7 p0k), (tX10 p0_1k), (tX6 p0_2k)] : List (List (ClassId × FieldType)))) s := vK_perm (vK_fb hK) (bP (List.Perm.refl _))
    refine lv_goto (tgt := 49) hx hb dX7_readLeave_19 (by decide) ?_
    exact J49 o_4 p0_2w _ _ _ hrun hP hD hK hS (lv_sub hl [0] rfl)
  · refine lv_if_ne (tgt := 22) hx hb dX7_readLeave_4 (by decide) (fun _ => ?_) (fun c => absurd c hc3)
    refine lv_aload_n hx hb dX7_readLeave_22 rfl (lv_at hl 0 rfl) ?_
    refine va_get (D := (dC, dI)) (ci := 1) (v := .int (p0w 0 12)) (C := RX7) (T := TX7) (N := 18) hx hb hts i_X7 hown hK hP 0 rfl rfl 12 (by decide) (hts _ qw68) (fun _ h9 => h9) rfl dX7_readLeave_23 ?_
    refine lv_bipush (v := 8) hx hb dX7_readLeave_26 (by decide) ?_
    rcases br9 hrun with ⟨hc5, hrun⟩ | ⟨hc5, hrun⟩
    · refine lv_icmp_gt (tgt := 49) hx hb dX7_readLeave_28 (by decide) (fun _ => ?_) (fun c => absurd hc5 c)
      exact J49 p0w p0_2w _ _ _ hrun hP hD hK hS (lv_sub hl [0] rfl)
    · refine lv_icmp_gt (tgt := 49) hx hb dX7_readLeave_28 (by decide) (fun c => absurd c hc5) (fun _ => ?_)
      refine lv_aload_n hx hb dX7_readLeave_31 rfl (lv_at hl 0 rfl) ?_
      refine va_get (D := (dC, dI)) (ci := 1) (v := .ref (p0a 3)) (C := RX7) (T := TX7) (N := 18) hx hb hts i_X7 hown hK hP 0 rfl rfl 2 (by decide) (hts _ qw26) (fun _ h9 => h9) rfl dX7_readLeave_32 ?_
      refine lv_bipush (v := 22) hx hb dX7_readLeave_35 (by decide) ?_
      refine lv_aload_n hx hb dX7_readLeave_37 rfl (lv_at hl 1 rfl) ?_
      refine lv_aload_n hx hb dX7_readLeave_38 rfl (lv_at hl 0 rfl) ?_
      refine va_get (D := (dC, dI)) (ci := 1) (v := .int (p0w 0 12)) (C := RX7) (T := TX7) (N := 18) hx hb hts i_X7 hown hK hP 0 rfl rfl 12 (by decide) (hts _ qw68) (fun _ h9 => h9) rfl dX7_readLeave_39 ?_
      refine lv_iconst (v := 1) hx hb dX7_readLeave_42 (by decide) ?_
      refine lv_isub hx hb dX7_readLeave_43 ?_
      obtain ⟨hq6, hrun⟩ := chk9 hrun
      refine va_iald hx hb hK hP 4 3 rfl rfl (ixb_in hq6) dX7_readLeave_44 ?_
      refine lv_iconst (v := 0) hx hb dX7_readLeave_45 (by decide) ?_
      obtain ⟨o_7, hc_7, hrun⟩ := bnd9 hrun
      have hPx : va_P (dC, dI) cls ((List.flatten ([(oX6 (p0a 3) p0_2a p0_2k p0_2w p0_2l)] : List va_W)) ++ (List.flatten ([(oX7 (p0a 0) p0a p0k p0w p0l), (oX10 (p0a 2) p0_1a p0_1k p0_1w p0_1l)] : List va_W))) H := vP_fa (vP_perm hP (bP (((((((List.Perm.refl _)).cons _).trans (List.Perm.swap _ _ _))).cons _).trans (List.Perm.swap _ _ _))))
      have hDx : va_D A ((List.flatten ([(oX6 (p0a 3) p0_2a p0_2k p0_2w p0_2l)] : List va_W)) ++ (List.flatten ([(oX7 (p0a 0) p0a p0k p0w p0l), (oX10 (p0a 2) p0_1a p0_1k p0_1w p0_1l)] : List va_W))) := vD_fa (vD_perm hD (bP (((((((List.Perm.refl _)).cons _).trans (List.Perm.swap _ _ _))).cons _).trans (List.Perm.swap _ _ _))))
      have hKx : va_K (dC, dI) cls ((List.flatten ([(tX6 p0_2k)] : List (List (ClassId × FieldType)))) ++ (List.flatten ([(tX7 p0k), (tX10 p0_1k)] : List (List (ClassId × FieldType))))) s := vK_fa (vK_perm hK (bP (((((((List.Perm.refl _)).cons _).trans (List.Perm.swap _ _ _))).cons _).trans (List.Perm.swap _ _ _))))
      have hPc := vP_l hPx
      have hDc := vD_l hDx
      have hKc := vK_l hKx
      have hFc := vfree hDx hS hA
      refine va_callv (va_runV (As := [.int 22, .int (p0w 12 (nn ((p0w 0 12) - 1))), .int 0]) (rest := []) ⟨hx, hb, hml, hown, hts⟩ (kX6_emit l dC dI (p0a := (st0 (p0a 3) p0_2a)) (p0k := p0_2k) (p0w := p0_2w) (p0l := p0_2l) (p1 := 22) (p2 := (p0w 12 (nn ((p0w 0 12) - 1)))) (p3 := 0) (sz := _) (o := o_7) (hrun := hc_7)) (cwV 3 hts (gi_V qw42 qw43 qw44 qw33 (gi_z qw41)) rfl rfl rfl (by decide +kernel) ⟨Nat.le_of_ble_eq_true rfl, Nat.le_of_ble_eq_true rfl⟩) ⟨PRE.blind, va_recv hKc hPc (ci := 2) (q0 := 0) rfl rfl, PRE.of hE hS hFc hPc hKc hDc⟩ rfl rfl hl.1 rfl (lv_room (Nat.le_of_ble_eq_true rfl)) dX7_readLeave_46 ⟨(Nat.le_of_ble_eq_true rfl), (Nat.le_of_ble_eq_true rfl)⟩) hS (fun q _ h => hFc q h) hFc (fun u t H locs ht hvm hw hB hz1 hk1 hS => ?_)
      obtain ⟨b1, b2, b3⟩ := hB
      rw [ht] at b1
      obtain ⟨hP, hD, hK⟩ := JOINC (wc := (List.flatten ([(oX6 (p0a 3) p0_2a p0_2k p0_2w p0_2l)] : List va_W))) (wr := (List.flatten ([(oX7 (p0a 0) p0a p0k p0w p0l), (oX10 (p0a 2) p0_1a p0_1k p0_1w p0_1l)] : List va_W))) (w1 := (List.flatten ([(oX6 (p0a 3) p0_2a p0_2k o_7 p0_2l)] : List va_W))) (t1 := (List.flatten ([(tX6 p0_2k)] : List (List (ClassId × FieldType))))) hPx hDx hKx hk1 hFc b1 (va_K.moved hvm.symm b2) b3
      have hP : va_P (dC, dI) cls (List.flatten ([(oX7 (p0a 0) p0a p0k p0w p0l), (oX10 (p0a 2) p0_1a p0_1k p0_1w p0_1l), (oX6 (p0a 3) p0_2a p0_2k o_7 p0_2l)] : List va_W)) H := vP_perm (vP_fb hP) (bP ((((((List.Perm.refl _)).cons _).trans (List.Perm.swap _ _ _))).trans ((((((List.Perm.refl _)).cons _).trans (List.Perm.swap _ _ _))).cons _)))
      have hD : va_D A (List.flatten ([(oX7 (p0a 0) p0a p0k p0w p0l), (oX10 (p0a 2) p0_1a p0_1k p0_1w p0_1l), (oX6 (p0a 3) p0_2a p0_2k o_7 p0_2l)] : List va_W)) := vD_perm (vD_fb hD) (bP ((((((List.Perm.refl _)).cons _).trans (List.Perm.swap _ _ _))).trans ((((((List.Perm.refl _)).cons _).trans (List.Perm.swap _ _ _))).cons _)))
      have hK : va_K (dC, dI) cls (List.flatten ([(tX7 p0k), (tX10 p0_1k), (tX6 p0_2k)] : List (List (ClassId × FieldType)))) s := vK_perm (vK_fb hK) (bP ((((((List.Perm.refl _)).cons _).trans (List.Perm.swap _ _ _))).trans ((((((List.Perm.refl _)).cons _).trans (List.Perm.swap _ _ _))).cons _)))
      exact J49 p0w o_7 _ _ _ hrun hP hD hK hS (lv_sub hl [0] rfl)
set_option maxHeartbeats 16000000 in
set_option maxRecDepth 100000 in
theorem kX7_readLeave_a1_p0_10 {zs : ZS} (l : Launch) (dC : Nat → ClassId) (dI : Nat → Nat → Nat) (p0a : Nat → Nat) (p0k : Nat → ClassId) (p0w : ST) (p0l : SL) (aK : Nat → Nat) (aV : Nat → Nat) (p0_1a : Nat → Nat) (p0_1k : Nat → ClassId) (p0_1w : ST) (p0_1l : SL) (p0_2a : Nat → Nat) (p0_2k : Nat → ClassId) (p0_2w : ST) (p0_2l : SL) (sz : Nat) (o : ST × ST × SL × ST) (hrun : fX7_readLeave_a1_p0_10 p0w p0_1w p0_1l p0_2w = some o) : Met l yX7_readLeave (wz yX7_readLeave cX7_readLeave 2 (Option.none : Option Jvm.ClassFile.FieldType)) ({ frames := 7, cells := 0, slots := 0, locals := 156 } : Room) (va_Pc [.ref (p0a 0), .ref (p0a 11)] (PRE (zA zs (st9 aK aV)) dC dI (List.flatten ([(oX7 (p0a 0) p0a p0k p0w p0l), (oX10 (p0a 2) p0_1a p0_1k p0_1w p0_1l), (oX6 (p0a 3) p0_2a p0_2k p0_2w p0_2l)] : List va_W)) (List.flatten ([(tX7 p0k), (tX10 p0_1k), (tX6 p0_2k)] : List (List (ClassId × FieldType)))) sz)) (va_Qv (fun (_ : Unit) => True) (fun _ t => POST dC dI (List.flatten ([(oX7 (p0a 0) p0a p0k (o.1) p0l), (oX10 (p0a 2) p0_1a p0_1k (o.2.1) (o.2.2.1)), (oX6 (p0a 3) p0_2a p0_2k (o.2.2.2) p0_2l)] : List va_W)) (List.flatten ([(tX7 p0k), (tX10 p0_1k), (tX6 p0_2k)] : List (List (ClassId × FieldType)))) (va_A (List.flatten ([(oX7 (p0a 0) p0a p0k p0w p0l), (oX10 (p0a 2) p0_1a p0_1k p0_1w p0_1l), (oX6 (p0a 3) p0_2a p0_2k p0_2w p0_2l)] : List va_W)) sz) t) (va_A (List.flatten ([(oX7 (p0a 0) p0a p0k p0w p0l), (oX10 (p0a 2) p0_1a p0_1k p0_1w p0_1l), (oX6 (p0a 3) p0_2a p0_2k p0_2w p0_2l)] : List va_W)) sz)) 0 0 (va_A (List.flatten ([(oX7 (p0a 0) p0a p0k p0w p0l), (oX10 (p0a 2) p0_1a p0_1k p0_1w p0_1l), (oX6 (p0a 3) p0_2a p0_2k p0_2w p0_2l)] : List va_W)) sz) := by
  refine Met.ofW (cc := cX7_readLeave) (maxL := 2) (ret := (Option.none : Option Jvm.ClassFile.FieldType)) (by decide) rfl ?_
  intro p e s m args below meth c s₁ B hml hv
  obtain ⟨rfl, hsz, hP, hK, hD0, hE⟩ := hv
  have hx := B.exec
  have hb := B.bytes
  have hr := B.returns
  have hts0 := atoms_spec (ws := wz yX7_readLeave cX7_readLeave 2 (Option.none : Option Jvm.ClassFile.FieldType)) B.pre
  have hts : ∀ w ∈ gw, w.before _ s = true := fun w h => hts0 w (List.mem_cons_of_mem _ h)
  have hown : s.vm.findClass RX7 = some m.cls := findClass_of_methodNamed B.named
  have hlocks := B.notSynchronized
  subst hsz
  have hD := hD0.self (sz := s.heap.size)
  refine gQ9 ?_
  intro Q hQ
  generalize hAe : va_A (List.flatten ([(oX7 (p0a 0) p0a p0k p0w p0l), (oX10 (p0a 2) p0_1a p0_1k p0_1w p0_1l), (oX6 (p0a 3) p0_2a p0_2k p0_2w p0_2l)] : List va_W)) s.heap.size = A at hD hE hQ
  have hA : ∀ q : Nat, s.heap.size ≤ q → A q := fun q h => by rw [← hAe]; exact Or.inr h
  have hro := ENV.ex hE
  have hro_st := hro.2
  replace hro := hro.1
  have hS : va_S A s.heap s.heap [] := va_S.rf
  have hP : va_P (dC, dI) cls (List.flatten ([(oX7 (p0a 0) p0a p0k p0w p0l), (oX10 (p0a 2) p0_1a p0_1k p0_1w p0_1l), (oX6 (p0a 3) p0_2a p0_2k p0_2w p0_2l)] : List va_W)) s.heap := hP
  have hl := lv_entry ([.ref (p0a 0), .ref (p0a 11)]) (n := 2) (Nat.le_of_ble_eq_true rfl)
  rw [lg_entry_eq]
  generalize (lg_sl ([.ref (p0a 0), .ref (p0a 11)]) ++ List.replicate (2 - (lg_sl ([.ref (p0a 0), .ref (p0a 11)])).length) Slot.unset).toArray = ls at hl ⊢
  have hl : lv_has ls 2 [(0, .ref (p0a 0)), (1, .ref (p0a 11))] := hl
  obtain ⟨H, hHe⟩ : ∃ H, H = s.heap := ⟨_, rfl⟩
  obtain ⟨locs, hle⟩ : ∃ locs : List Loc, locs = [] := ⟨_, rfl⟩
  rw [← hHe] at hP
  have hS : va_S A s.heap H locs := by rw [hHe, hle]; exact hS
  show W p l e ({ frames := 7, cells := 0, slots := 0, locals := 156 } : Room) s m ([.ref (p0a 0), .ref (p0a 11)] : List Value).toArray below meth c s.heap [] 0 0 Q (F0 m 0 ls [])
  rw [← hle]
  refine wH9 hHe ?_
  unfold fX7_readLeave_a1_p0_10 at hrun
  refine lv_aload_n hx hb dX7_readLeave_0 rfl (lv_at hl 0 rfl) ?_
  refine va_get (D := (dC, dI)) (ci := 1) (v := .int (p0w 0 12)) (C := RX7) (T := TX7) (N := 18) hx hb hts i_X7 hown hK hP 0 rfl rfl 12 (by decide) (hts _ qw68) (fun _ h9 => h9) rfl dX7_readLeave_1 ?_
  have J49 : ∀ (p0w_49 : ST) (p0_2w_49 : ST) (H : Heap) (locs : List Loc) (ls : Array Slot), (fX7_readLeave_a1_p0_10_J49 p0_1w p0_1l p0w_49 p0_2w_49) = some o → va_P (dC, dI) cls (List.flatten ([(oX7 (p0a 0) p0a p0k p0w_49 p0l), (oX10 (p0a 2) p0_1a p0_1k p0_1w p0_1l), (oX6 (p0a 3) p0_2a p0_2k p0_2w_49 p0_2l)] : List va_W)) H → va_D A (List.flatten ([(oX7 (p0a 0) p0a p0k p0w_49 p0l), (oX10 (p0a 2) p0_1a p0_1k p0_1w p0_1l), (oX6 (p0a 3) p0_2a p0_2k p0_2w_49 p0_2l)] : List va_W)) → va_K (dC, dI) cls (List.flatten ([(tX7 p0k), (tX10 p0_1k), (tX6 p0_2k)] : List (List (ClassId × FieldType)))) s → va_S A s.heap H locs → lv_has ls 2 [(0, .ref (p0a 0))] → W p l e ({ frames := 7, cells := 0, slots := 0, locals := 156 } : Room) s m ([.ref (p0a 0), .ref (p0a 11)] : List Value).toArray below meth c H locs 0 0 Q (F0 m 49 ls []) := by
    intro p0w_49 p0_2w_49 H locs ls hrun hP hD hK hS hl 
    unfold fX7_readLeave_a1_p0_10_J49 at hrun
    refine lv_aload_n hx hb dX7_readLeave_49 rfl (lv_at hl 0 rfl) ?_
    refine va_get (D := (dC, dI)) (ci := 1) (v := .ref (p0a 2)) (C := RX7) (T := TX7) (N := 18) hx hb hts i_X7 hown hK hP 0 rfl rfl 1 (by decide) (hts _ qw45) (fun _ h9 => h9) rfl dX7_readLeave_50 ?_
    obtain ⟨o_1, hc_1, hrun⟩ := bnd9 hrun
    have hPx : va_P (dC, dI) cls ((List.flatten ([(oX10 (p0a 2) p0_1a p0_1k p0_1w p0_1l)] : List va_W)) ++ (List.flatten ([(oX7 (p0a 0) p0a p0k p0w_49 p0l), (oX6 (p0a 3) p0_2a p0_2k p0_2w_49 p0_2l)] : List va_W))) H := vP_fa (vP_perm hP (bP ((((List.Perm.refl _)).cons _).trans (List.Perm.swap _ _ _))))
    have hDx : va_D A ((List.flatten ([(oX10 (p0a 2) p0_1a p0_1k p0_1w p0_1l)] : List va_W)) ++ (List.flatten ([(oX7 (p0a 0) p0a p0k p0w_49 p0l), (oX6 (p0a 3) p0_2a p0_2k p0_2w_49 p0_2l)] : List va_W))) := vD_fa (vD_perm hD (bP ((((List.Perm.refl _)).cons _).trans (List.Perm.swap _ _ _))))
    have hKx : va_K (dC, dI) cls ((List.flatten ([(tX10 p0_1k)] : List (List (ClassId × FieldType)))) ++ (List.flatten ([(tX7 p0k), (tX6 p0_2k)] : List (List (ClassId × FieldType))))) s := vK_fa (vK_perm hK (bP ((((List.Perm.refl _)).cons _).trans (List.Perm.swap _ _ _))))
    have hPc := vP_l hPx
    have hDc := vD_l hDx
    have hKc := vK_l hKx
    have hFc := vfree hDx hS hA
    refine va_callv (va_runV (As := []) (rest := []) ⟨hx, hb, hml, hown, hts⟩ (kX10_advance l dC dI (p0a := (st0 (p0a 2) p0_1a)) (p0k := p0_1k) (p0w := p0_1w) (p0l := p0_1l) (aK := aK) (aV := aV) (sz := _) (o := o_1) (hrun := hc_1)) (cwV 0 hts (gi_V qw1384 qw1382 qw1383 qw8 (gi_z qw1380)) rfl rfl rfl (by decide +kernel) ⟨Nat.le_of_ble_eq_true rfl, Nat.le_of_ble_eq_true rfl⟩) ⟨PRE.blind, va_recv hKc hPc (ci := 0) (q0 := 0) rfl rfl, PRE.of (ENV.add hE st9_m hro_st) hS hFc hPc hKc hDc⟩ rfl rfl hl.1 rfl (lv_room (Nat.le_of_ble_eq_true rfl)) dX7_readLeave_53 ⟨(Nat.le_of_ble_eq_true rfl), (Nat.le_of_ble_eq_true rfl)⟩) hS (fun q _ h => hFc q h) hFc (fun u t H locs ht hvm hw hB hz1 hk1 hS => ?_)
    obtain ⟨b1, b2, b3⟩ := hB
    rw [ht] at b1
    obtain ⟨hP, hD, hK⟩ := JOINC (wc := (List.flatten ([(oX10 (p0a 2) p0_1a p0_1k p0_1w p0_1l)] : List va_W))) (wr := (List.flatten ([(oX7 (p0a 0) p0a p0k p0w_49 p0l), (oX6 (p0a 3) p0_2a p0_2k p0_2w_49 p0_2l)] : List va_W))) (w1 := (List.flatten ([(oX10 (p0a 2) p0_1a p0_1k (o_1.1) (o_1.2))] : List va_W))) (t1 := (List.flatten ([(tX10 p0_1k)] : List (List (ClassId × FieldType))))) hPx hDx hKx hk1 hFc b1 (va_K.moved hvm.symm b2) b3
    have hP : va_P (dC, dI) cls (List.flatten ([(oX7 (p0a 0) p0a p0k p0w_49 p0l), (oX10 (p0a 2) p0_1a p0_1k (o_1.1) (o_1.2)), (oX6 (p0a 3) p0_2a p0_2k p0_2w_49 p0_2l)] : List va_W)) H := vP_perm (vP_fb hP) (bP ((((List.Perm.refl _)).cons _).trans (List.Perm.swap _ _ _)))
    have hD : va_D A (List.flatten ([(oX7 (p0a 0) p0a p0k p0w_49 p0l), (oX10 (p0a 2) p0_1a p0_1k (o_1.1) (o_1.2)), (oX6 (p0a 3) p0_2a p0_2k p0_2w_49 p0_2l)] : List va_W)) := vD_perm (vD_fb hD) (bP ((((List.Perm.refl _)).cons _).trans (List.Perm.swap _ _ _)))
    have hK : va_K (dC, dI) cls (List.flatten ([(tX7 p0k), (tX10 p0_1k), (tX6 p0_2k)] : List (List (ClassId × FieldType)))) s := vK_perm (vK_fb hK) (bP ((((List.Perm.refl _)).cons _).trans (List.Perm.swap _ _ _)))
    refine lv_aload_n hx hb dX7_readLeave_56 rfl (lv_at hl 0 rfl) ?_
    refine lv_bipush (v := 59) hx hb dX7_readLeave_57 (by decide) ?_
    obtain ⟨o_2, hc_2, hrun⟩ := bnd9 hrun
    have hPx : va_P (dC, dI) cls ((List.flatten ([(oX7 (p0a 0) p0a p0k p0w_49 p0l), (oX10 (p0a 2) p0_1a p0_1k (o_1.1) (o_1.2))] : List va_W)) ++ (List.flatten ([(oX6 (p0a 3) p0_2a p0_2k p0_2w_49 p0_2l)] : List va_W))) H := vP_fa (vP_perm hP (bP (List.Perm.refl _)))
    have hDx : va_D A ((List.flatten ([(oX7 (p0a 0) p0a p0k p0w_49 p0l), (oX10 (p0a 2) p0_1a p0_1k (o_1.1) (o_1.2))] : List va_W)) ++ (List.flatten ([(oX6 (p0a 3) p0_2a p0_2k p0_2w_49 p0_2l)] : List va_W))) := vD_fa (vD_perm hD (bP (List.Perm.refl _)))
    have hKx : va_K (dC, dI) cls ((List.flatten ([(tX7 p0k), (tX10 p0_1k)] : List (List (ClassId × FieldType)))) ++ (List.flatten ([(tX6 p0_2k)] : List (List (ClassId × FieldType))))) s := vK_fa (vK_perm hK (bP (List.Perm.refl _)))
    have hPc := vP_l hPx
    have hDc := vD_l hDx
    have hKc := vK_l hKx
    have hFc := vfree hDx hS hA
    refine va_callv (va_runV (As := [.int 59]) (rest := []) ⟨hx, hb, hml, hown, hts⟩ (kX7_expect l dC dI (p0a := p0a) (p0k := p0k) (p0w := p0w_49) (p0l := p0l) (p1 := 59) (aK := aK) (aV := aV) (p0_1a := p0_1a) (p0_1k := p0_1k) (p0_1w := (o_1.1)) (p0_1l := (o_1.2)) (sz := _) (o := o_2) (hrun := hc_2)) (cwV 1 hts (gi_V qw1386 qw1387 qw1388 qw65 (gi_z qw1385)) rfl rfl rfl (by decide +kernel) ⟨Nat.le_of_ble_eq_true rfl, Nat.le_of_ble_eq_true rfl⟩) ⟨PRE.blind, va_recv hKc hPc (ci := 1) (q0 := 0) rfl rfl, PRE.of (ENV.add hE st9_m hro_st) hS hFc hPc hKc hDc⟩ rfl rfl hl.1 rfl (lv_room (Nat.le_of_ble_eq_true rfl)) dX7_readLeave_59 ⟨(Nat.le_of_ble_eq_true rfl), (Nat.le_of_ble_eq_true rfl)⟩) hS (fun q _ h => hFc q h) hFc (fun u t H locs ht hvm hw hB hz1 hk1 hS => ?_)
    obtain ⟨b1, b2, b3⟩ := hB
    rw [ht] at b1
    obtain ⟨hP, hD, hK⟩ := JOINC (wc := (List.flatten ([(oX7 (p0a 0) p0a p0k p0w_49 p0l), (oX10 (p0a 2) p0_1a p0_1k (o_1.1) (o_1.2))] : List va_W))) (wr := (List.flatten ([(oX6 (p0a 3) p0_2a p0_2k p0_2w_49 p0_2l)] : List va_W))) (w1 := (List.flatten ([(oX7 (p0a 0) p0a p0k (o_2.1) p0l), (oX10 (p0a 2) p0_1a p0_1k (o_2.2.1) (o_2.2.2))] : List va_W))) (t1 := (List.flatten ([(tX7 p0k), (tX10 p0_1k)] : List (List (ClassId × FieldType))))) hPx hDx hKx hk1 hFc b1 (va_K.moved hvm.symm b2) b3
    have hP : va_P (dC, dI) cls (List.flatten ([(oX7 (p0a 0) p0a p0k (o_2.1) p0l), (oX10 (p0a 2) p0_1a p0_1k (o_2.2.1) (o_2.2.2)), (oX6 (p0a 3) p0_2a p0_2k p0_2w_49 p0_2l)] : List va_W)) H := vP_perm (vP_fb hP) (bP (List.Perm.refl _))
    have hD : va_D A (List.flatten ([(oX7 (p0a 0) p0a p0k (o_2.1) p0l), (oX10 (p0a 2) p0_1a p0_1k (o_2.2.1) (o_2.2.2)), (oX6 (p0a 3) p0_2a p0_2k p0_2w_49 p0_2l)] : List va_W)) := vD_perm (vD_fb hD) (bP (List.Perm.refl _))
    have hK : va_K (dC, dI) cls (List.flatten ([(tX7 p0k), (tX10 p0_1k), (tX6 p0_2k)] : List (List (ClassId × FieldType)))) s := vK_perm (vK_fb hK) (bP (List.Perm.refl _))
    have ho9 : ((o_2.1), (o_2.2.1), (o_2.2.2), p0_2w_49) = o := Option.some.inj hrun
    have hP9 : va_P (dC, dI) cls (List.flatten ([(oX7 (p0a 0) p0a p0k (o.1) p0l), (oX10 (p0a 2) p0_1a p0_1k (o.2.1) (o.2.2.1)), (oX6 (p0a 3) p0_2a p0_2k (o.2.2.2) p0_2l)] : List va_W)) H := by first | exact hP | (rw [← ho9]; exact hP)
    have hD9 : va_D A (List.flatten ([(oX7 (p0a 0) p0a p0k (o.1) p0l), (oX10 (p0a 2) p0_1a p0_1k (o.2.1) (o.2.2.1)), (oX6 (p0a 3) p0_2a p0_2k (o.2.2.2) p0_2l)] : List va_W)) := by first | exact hD | (rw [← ho9]; exact hD)
    subst hQ
    exact W.vret hx hb hr (fun t ht hW => ⟨⟨(), rfl, trivial, ⟨by rw [ht]; exact hP9, va_K.moved hW.alike hK, hD9⟩⟩, hS.F ht⟩) hS.2.2 dX7_readLeave_62
  rcases br9 hrun with ⟨hc3, hrun⟩ | ⟨hc3, hrun⟩
  · refine lv_if_ne (tgt := 22) hx hb dX7_readLeave_4 (by decide) (fun c => absurd hc3 c) (fun _ => ?_)
    refine lv_aload_n hx hb dX7_readLeave_7 rfl (lv_at hl 0 rfl) ?_
    refine lv_iconst (v := 5) hx hb dX7_readLeave_8 (by decide) ?_
    refine lv_aload_n hx hb dX7_readLeave_9 rfl (lv_at hl 0 rfl) ?_
    refine va_get (D := (dC, dI)) (ci := 1) (v := .ref (p0a 2)) (C := RX7) (T := TX7) (N := 18) hx hb hts i_X7 hown hK hP 0 rfl rfl 1 (by decide) (hts _ qw45) (fun _ h9 => h9) rfl dX7_readLeave_10 ?_
    refine va_get (D := (dC, dI)) (ci := 0) (v := .int (p0_1w 0 3)) (C := RX10) (T := TX10) (N := 8) hx hb hts i_X10 hown hK hP 9 rfl rfl 3 (by decide) (hts _ qw69) (fun _ h9 => h9) rfl dX7_readLeave_13 ?_
    obtain ⟨o_4, hc_4, hrun⟩ := bnd9 hrun
    have hPx : va_P (dC, dI) cls ((List.flatten ([(oX7 (p0a 0) p0a p0k p0w p0l)] : List va_W)) ++ (List.flatten ([(oX10 (p0a 2) p0_1a p0_1k p0_1w p0_1l), (oX6 (p0a 3) p0_2a p0_2k p0_2w p0_2l)] : List va_W))) H := vP_fa (vP_perm hP (bP (List.Perm.refl _)))
    have hDx : va_D A ((List.flatten ([(oX7 (p0a 0) p0a p0k p0w p0l)] : List va_W)) ++ (List.flatten ([(oX10 (p0a 2) p0_1a p0_1k p0_1w p0_1l), (oX6 (p0a 3) p0_2a p0_2k p0_2w p0_2l)] : List va_W))) := vD_fa (vD_perm hD (bP (List.Perm.refl _)))
    have hKx : va_K (dC, dI) cls ((List.flatten ([(tX7 p0k)] : List (List (ClassId × FieldType)))) ++ (List.flatten ([(tX10 p0_1k), (tX6 p0_2k)] : List (List (ClassId × FieldType))))) s := vK_fa (vK_perm hK (bP (List.Perm.refl _)))
    have hPc := vP_l hPx
    have hDc := vD_l hDx
    have hKc := vK_l hKx
    have hFc := vfree hDx hS hA
    refine va_callv (va_runV (As := [.int 5, .int (p0_1w 0 3)]) (rest := []) ⟨hx, hb, hml, hown, hts⟩ (kX7_blame l dC dI (p0a := p0a) (p0k := p0k) (p0w := p0w) (p0l := p0l) (p1 := 5) (p2 := (p0_1w 0 3)) (sz := _) (o := o_4) (hrun := hc_4)) (cwV 2 hts (gi_V qw62 qw63 qw64 qw65 (gi_z qw61)) rfl rfl rfl (by decide +kernel) ⟨Nat.le_of_ble_eq_true rfl, Nat.le_of_ble_eq_true rfl⟩) ⟨PRE.blind, va_recv hKc hPc (ci := 1) (q0 := 0) rfl rfl, PRE.of hE hS hFc hPc hKc hDc⟩ rfl rfl hl.1 rfl (lv_room (Nat.le_of_ble_eq_true rfl)) dX7_readLeave_16 ⟨(Nat.le_of_ble_eq_true rfl), (Nat.le_of_ble_eq_true rfl)⟩) hS (fun q _ h => hFc q h) hFc (fun u t H locs ht hvm hw hB hz1 hk1 hS => ?_)
    obtain ⟨b1, b2, b3⟩ := hB
    rw [ht] at b1
    obtain ⟨hP, hD, hK⟩ := JOINC (wc := (List.flatten ([(oX7 (p0a 0) p0a p0k p0w p0l)] : List va_W))) (wr := (List.flatten ([(oX10 (p0a 2) p0_1a p0_1k p0_1w p0_1l), (oX6 (p0a 3) p0_2a p0_2k p0_2w p0_2l)] : List va_W))) (w1 := (List.flatten ([(oX7 (p0a 0) p0a p0k o_4 p0l)] : List va_W))) (t1 := (List.flatten ([(tX7 p0k)] : List (List (ClassId × FieldType))))) hPx hDx hKx hk1 hFc b1 (va_K.moved hvm.symm b2) b3
    have hP : va_P (dC, dI) cls (List.flatten ([(oX7 (p0a 0) p0a p0k o_4 p0l), (oX10 (p0a 2) p0_1a p0_1k p0_1w p0_1l), (oX6 (p0a 3) p0_2a p0_2k p0_2w p0_2l)] : List va_W)) H := vP_perm (vP_fb hP) (bP (List.Perm.refl _))
    have hD : va_D A (List.flatten ([(oX7 (p0a 0) p0a p0k o_4 p0l), (oX10 (p0a 2) p0_1a p0_1k p0_1w p0_1l), (oX6 (p0a 3) p0_2a p0_2k p0_2w p0_2l)] : List va_W)) := vD_perm (vD_fb hD) (bP (List.Perm.refl _))
    have hK : va_K (dC, dI) cls (List.flatten ([(tX7 p0k), (tX10 p0_1k), (tX6 p0_2k)] : List (List (ClassId × FieldType)))) s := vK_perm (vK_fb hK) (bP (List.Perm.refl _))
    refine lv_goto (tgt := 49) hx hb dX7_readLeave_19 (by decide) ?_
    exact J49 o_4 p0_2w _ _ _ hrun hP hD hK hS (lv_sub hl [0] rfl)
  · refine lv_if_ne (tgt := 22) hx hb dX7_readLeave_4 (by decide) (fun _ => ?_) (fun c => absurd c hc3)
    refine lv_aload_n hx hb dX7_readLeave_22 rfl (lv_at hl 0 rfl) ?_
    refine va_get (D := (dC, dI)) (ci := 1) (v := .int (p0w 0 12)) (C := RX7) (T := TX7) (N := 18) hx hb hts i_X7 hown hK hP 0 rfl rfl 12 (by decide) (hts _ qw68) (fun _ h9 => h9) rfl dX7_readLeave_23 ?_
    refine lv_bipush (v := 8) hx hb dX7_readLeave_26 (by decide) ?_
    rcases br9 hrun with ⟨hc5, hrun⟩ | ⟨hc5, hrun⟩
    · refine lv_icmp_gt (tgt := 49) hx hb dX7_readLeave_28 (by decide) (fun _ => ?_) (fun c => absurd hc5 c)
      exact J49 p0w p0_2w _ _ _ hrun hP hD hK hS (lv_sub hl [0] rfl)
    · refine lv_icmp_gt (tgt := 49) hx hb dX7_readLeave_28 (by decide) (fun c => absurd c hc5) (fun _ => ?_)
      refine lv_aload_n hx hb dX7_readLeave_31 rfl (lv_at hl 0 rfl) ?_
      refine va_get (D := (dC, dI)) (ci := 1) (v := .ref (p0a 3)) (C := RX7) (T := TX7) (N := 18) hx hb hts i_X7 hown hK hP 0 rfl rfl 2 (by decide) (hts _ qw26) (fun _ h9 => h9) rfl dX7_readLeave_32 ?_
      refine lv_bipush (v := 22) hx hb dX7_readLeave_35 (by decide) ?_
      refine lv_aload_n hx hb dX7_readLeave_37 rfl (lv_at hl 1 rfl) ?_
      refine lv_aload_n hx hb dX7_readLeave_38 rfl (lv_at hl 0 rfl) ?_
      refine va_get (D := (dC, dI)) (ci := 1) (v := .int (p0w 0 12)) (C := RX7) (T := TX7) (N := 18) hx hb hts i_X7 hown hK hP 0 rfl rfl 12 (by decide) (hts _ qw68) (fun _ h9 => h9) rfl dX7_readLeave_39 ?_
      refine lv_iconst (v := 1) hx hb dX7_readLeave_42 (by decide) ?_
      refine lv_isub hx hb dX7_readLeave_43 ?_
      obtain ⟨hq6, hrun⟩ := chk9 hrun
      refine va_iald hx hb hK hP 3 2 rfl rfl (ixb_in hq6) dX7_readLeave_44 ?_
      refine lv_iconst (v := 0) hx hb dX7_readLeave_45 (by decide) ?_
      obtain ⟨o_7, hc_7, hrun⟩ := bnd9 hrun
      have hPx : va_P (dC, dI) cls ((List.flatten ([(oX6 (p0a 3) p0_2a p0_2k p0_2w p0_2l)] : List va_W)) ++ (List.flatten ([(oX7 (p0a 0) p0a p0k p0w p0l), (oX10 (p0a 2) p0_1a p0_1k p0_1w p0_1l)] : List va_W))) H := vP_fa (vP_perm hP (bP (((((((List.Perm.refl _)).cons _).trans (List.Perm.swap _ _ _))).cons _).trans (List.Perm.swap _ _ _))))
      have hDx : va_D A ((List.flatten ([(oX6 (p0a 3) p0_2a p0_2k p0_2w p0_2l)] : List va_W)) ++ (List.flatten ([(oX7 (p0a 0) p0a p0k p0w p0l), (oX10 (p0a 2) p0_1a p0_1k p0_1w p0_1l)] : List va_W))) := vD_fa (vD_perm hD (bP (((((((List.Perm.refl _)).cons _).trans (List.Perm.swap _ _ _))).cons _).trans (List.Perm.swap _ _ _))))
      have hKx : va_K (dC, dI) cls ((List.flatten ([(tX6 p0_2k)] : List (List (ClassId × FieldType)))) ++ (List.flatten ([(tX7 p0k), (tX10 p0_1k)] : List (List (ClassId × FieldType))))) s := vK_fa (vK_perm hK (bP (((((((List.Perm.refl _)).cons _).trans (List.Perm.swap _ _ _))).cons _).trans (List.Perm.swap _ _ _))))
      have hPc := vP_l hPx
      have hDc := vD_l hDx
      have hKc := vK_l hKx
      have hFc := vfree hDx hS hA
      refine va_callv (va_runV (As := [.int 22, .int (p0w 11 (nn ((p0w 0 12) - 1))), .int 0]) (rest := []) ⟨hx, hb, hml, hown, hts⟩ (kX6_emit l dC dI (p0a := (st0 (p0a 3) p0_2a)) (p0k := p0_2k) (p0w := p0_2w) (p0l := p0_2l) (p1 := 22) (p2 := (p0w 11 (nn ((p0w 0 12) - 1)))) (p3 := 0) (sz := _) (o := o_7) (hrun := hc_7)) (cwV 3 hts (gi_V qw42 qw43 qw44 qw33 (gi_z qw41)) rfl rfl rfl (by decide +kernel) ⟨Nat.le_of_ble_eq_true rfl, Nat.le_of_ble_eq_true rfl⟩) ⟨PRE.blind, va_recv hKc hPc (ci := 2) (q0 := 0) rfl rfl, PRE.of hE hS hFc hPc hKc hDc⟩ rfl rfl hl.1 rfl (lv_room (Nat.le_of_ble_eq_true rfl)) dX7_readLeave_46 ⟨(Nat.le_of_ble_eq_true rfl), (Nat.le_of_ble_eq_true rfl)⟩) hS (fun q _ h => hFc q h) hFc (fun u t H locs ht hvm hw hB hz1 hk1 hS => ?_)
      obtain ⟨b1, b2, b3⟩ := hB
      rw [ht] at b1
      obtain ⟨hP, hD, hK⟩ := JOINC (wc := (List.flatten ([(oX6 (p0a 3) p0_2a p0_2k p0_2w p0_2l)] : List va_W))) (wr := (List.flatten ([(oX7 (p0a 0) p0a p0k p0w p0l), (oX10 (p0a 2) p0_1a p0_1k p0_1w p0_1l)] : List va_W))) (w1 := (List.flatten ([(oX6 (p0a 3) p0_2a p0_2k o_7 p0_2l)] : List va_W))) (t1 := (List.flatten ([(tX6 p0_2k)] : List (List (ClassId × FieldType))))) hPx hDx hKx hk1 hFc b1 (va_K.moved hvm.symm b2) b3
      have hP : va_P (dC, dI) cls (List.flatten ([(oX7 (p0a 0) p0a p0k p0w p0l), (oX10 (p0a 2) p0_1a p0_1k p0_1w p0_1l), (oX6 (p0a 3) p0_2a p0_2k o_7 p0_2l)] : List va_W)) H := vP_perm (vP_fb hP) (bP ((((((List.Perm.refl _)).cons _).trans (List.Perm.swap _ _ _))).trans ((((((List.Perm.refl _)).cons _).trans (List.Perm.swap _ _ _))).cons _)))
      have hD : va_D A (List.flatten ([(oX7 (p0a 0) p0a p0k p0w p0l), (oX10 (p0a 2) p0_1a p0_1k p0_1w p0_1l), (oX6 (p0a 3) p0_2a p0_2k o_7 p0_2l)] : List va_W)) := vD_perm (vD_fb hD) (bP ((((((List.Perm.refl _)).cons _).trans (List.Perm.swap _ _ _))).trans ((((((List.Perm.refl _)).cons _).trans (List.Perm.swap _ _ _))).cons _)))
      have hK : va_K (dC, dI) cls (List.flatten ([(tX7 p0k), (tX10 p0_1k), (tX6 p0_2k)] : List (List (ClassId × FieldType)))) s := vK_perm (vK_fb hK) (bP ((((((List.Perm.refl _)).cons _).trans (List.Perm.swap _ _ _))).trans ((((((List.Perm.refl _)).cons _).trans (List.Perm.swap _ _ _))).cons _)))
      exact J49 p0w o_7 _ _ _ hrun hP hD hK hS (lv_sub hl [0] rfl)
