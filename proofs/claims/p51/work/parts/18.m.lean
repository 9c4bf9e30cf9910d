abbrev cX2_reckon : ByteArray := prog_4_method_2_code
def yX2_reckon : MethodName := ⟨RX2, "reckon", "(LGearbox$Flow;II)V"⟩
abbrev cX2_mirror : ByteArray := prog_4_method_17_code
def yX2_mirror : MethodName := ⟨RX2, "mirror", "()V"⟩
abbrev cX11_lowest : ByteArray := prog_1_method_70_code
def yX11_lowest : MethodName := ⟨RX11, "lowest", "(J)I"⟩
def RJ13 : String := "java/lang/Long"
abbrev cJ13_bitCount_95d88 : ByteArray := prog_38_method_50_code
def yJ13_bitCount_95d88 : MethodName := ⟨RJ13, "bitCount", "(J)I"⟩
abbrev cX2_countDegrees : ByteArray := prog_4_method_18_code
def yX2_countDegrees : MethodName := ⟨RX2, "countDegrees", "()V"⟩
abbrev cX2_mayUnite : ByteArray := prog_4_method_19_code
def yX2_mayUnite : MethodName := ⟨RX2, "mayUnite", "(III)Z"⟩
abbrev cX0_unite : ByteArray := prog_2_method_8_code
def yX0_unite : MethodName := ⟨RX0, "unite", "(II)V"⟩
theorem dJ13_bitCount_95d88_0 : decode cJ13_bitCount_95d88 0 = .ok (.lload_n 0, 1) := by decide +kernel
theorem dJ13_bitCount_95d88_1 : decode cJ13_bitCount_95d88 1 = .ok (.lload_n 0, 1) := by decide +kernel
theorem dJ13_bitCount_95d88_2 : decode cJ13_bitCount_95d88 2 = .ok (.iconst 1, 1) := by decide +kernel
theorem dJ13_bitCount_95d88_3 : decode cJ13_bitCount_95d88 3 = .ok (.lushr, 1) := by decide +kernel
theorem dJ13_bitCount_95d88_4 : decode cJ13_bitCount_95d88 4 = .ok (.ldc2_w 314, 3) := by decide +kernel
theorem dJ13_bitCount_95d88_7 : decode cJ13_bitCount_95d88 7 = .ok (.land, 1) := by decide +kernel
theorem dJ13_bitCount_95d88_8 : decode cJ13_bitCount_95d88 8 = .ok (.lsub, 1) := by decide +kernel
theorem dJ13_bitCount_95d88_9 : decode cJ13_bitCount_95d88 9 = .ok (.lstore_n 0, 1) := by decide +kernel
theorem dJ13_bitCount_95d88_10 : decode cJ13_bitCount_95d88 10 = .ok (.lload_n 0, 1) := by decide +kernel
theorem dJ13_bitCount_95d88_11 : decode cJ13_bitCount_95d88 11 = .ok (.ldc2_w 316, 3) := by decide +kernel
theorem dJ13_bitCount_95d88_14 : decode cJ13_bitCount_95d88 14 = .ok (.land, 1) := by decide +kernel
theorem dJ13_bitCount_95d88_15 : decode cJ13_bitCount_95d88 15 = .ok (.lload_n 0, 1) := by decide +kernel
theorem dJ13_bitCount_95d88_16 : decode cJ13_bitCount_95d88 16 = .ok (.iconst 2, 1) := by decide +kernel
theorem dJ13_bitCount_95d88_17 : decode cJ13_bitCount_95d88 17 = .ok (.lushr, 1) := by decide +kernel
theorem dJ13_bitCount_95d88_18 : decode cJ13_bitCount_95d88 18 = .ok (.ldc2_w 316, 3) := by decide +kernel
theorem dJ13_bitCount_95d88_21 : decode cJ13_bitCount_95d88 21 = .ok (.land, 1) := by decide +kernel
theorem dJ13_bitCount_95d88_22 : decode cJ13_bitCount_95d88 22 = .ok (.ladd, 1) := by decide +kernel
theorem dJ13_bitCount_95d88_23 : decode cJ13_bitCount_95d88 23 = .ok (.lstore_n 0, 1) := by decide +kernel
theorem dJ13_bitCount_95d88_24 : decode cJ13_bitCount_95d88 24 = .ok (.lload_n 0, 1) := by decide +kernel
theorem dJ13_bitCount_95d88_25 : decode cJ13_bitCount_95d88 25 = .ok (.lload_n 0, 1) := by decide +kernel
theorem dJ13_bitCount_95d88_26 : decode cJ13_bitCount_95d88 26 = .ok (.iconst 4, 1) := by decide +kernel
theorem dJ13_bitCount_95d88_27 : decode cJ13_bitCount_95d88 27 = .ok (.lushr, 1) := by decide +kernel
theorem dJ13_bitCount_95d88_28 : decode cJ13_bitCount_95d88 28 = .ok (.ladd, 1) := by decide +kernel
theorem dJ13_bitCount_95d88_29 : decode cJ13_bitCount_95d88 29 = .ok (.ldc2_w 318, 3) := by decide +kernel
theorem dJ13_bitCount_95d88_32 : decode cJ13_bitCount_95d88 32 = .ok (.land, 1) := by decide +kernel
theorem dJ13_bitCount_95d88_33 : decode cJ13_bitCount_95d88 33 = .ok (.lstore_n 0, 1) := by decide +kernel
theorem dJ13_bitCount_95d88_34 : decode cJ13_bitCount_95d88 34 = .ok (.lload_n 0, 1) := by decide +kernel
theorem dJ13_bitCount_95d88_35 : decode cJ13_bitCount_95d88 35 = .ok (.lload_n 0, 1) := by decide +kernel
theorem dJ13_bitCount_95d88_36 : decode cJ13_bitCount_95d88 36 = .ok (.bipush 8, 2) := by decide +kernel
theorem dJ13_bitCount_95d88_38 : decode cJ13_bitCount_95d88 38 = .ok (.lushr, 1) := by decide +kernel
theorem dJ13_bitCount_95d88_39 : decode cJ13_bitCount_95d88 39 = .ok (.ladd, 1) := by decide +kernel
theorem dJ13_bitCount_95d88_40 : decode cJ13_bitCount_95d88 40 = .ok (.lstore_n 0, 1) := by decide +kernel
theorem dJ13_bitCount_95d88_41 : decode cJ13_bitCount_95d88 41 = .ok (.lload_n 0, 1) := by decide +kernel
theorem dJ13_bitCount_95d88_42 : decode cJ13_bitCount_95d88 42 = .ok (.lload_n 0, 1) := by decide +kernel
theorem dJ13_bitCount_95d88_43 : decode cJ13_bitCount_95d88 43 = .ok (.bipush 16, 2) := by decide +kernel
theorem dJ13_bitCount_95d88_45 : decode cJ13_bitCount_95d88 45 = .ok (.lushr, 1) := by decide +kernel
theorem dJ13_bitCount_95d88_46 : decode cJ13_bitCount_95d88 46 = .ok (.ladd, 1) := by decide +kernel
theorem dJ13_bitCount_95d88_47 : decode cJ13_bitCount_95d88 47 = .ok (.lstore_n 0, 1) := by decide +kernel
theorem dJ13_bitCount_95d88_48 : decode cJ13_bitCount_95d88 48 = .ok (.lload_n 0, 1) := by decide +kernel
theorem dJ13_bitCount_95d88_49 : decode cJ13_bitCount_95d88 49 = .ok (.lload_n 0, 1) := by decide +kernel
theorem dJ13_bitCount_95d88_50 : decode cJ13_bitCount_95d88 50 = .ok (.bipush 32, 2) := by decide +kernel
theorem dJ13_bitCount_95d88_52 : decode cJ13_bitCount_95d88 52 = .ok (.lushr, 1) := by decide +kernel
theorem dJ13_bitCount_95d88_53 : decode cJ13_bitCount_95d88 53 = .ok (.ladd, 1) := by decide +kernel
theorem dJ13_bitCount_95d88_54 : decode cJ13_bitCount_95d88 54 = .ok (.lstore_n 0, 1) := by decide +kernel
theorem dJ13_bitCount_95d88_55 : decode cJ13_bitCount_95d88 55 = .ok (.lload_n 0, 1) := by decide +kernel
theorem dJ13_bitCount_95d88_56 : decode cJ13_bitCount_95d88 56 = .ok (.l2i, 1) := by decide +kernel
theorem dJ13_bitCount_95d88_57 : decode cJ13_bitCount_95d88 57 = .ok (.bipush 127, 2) := by decide +kernel
theorem dJ13_bitCount_95d88_59 : decode cJ13_bitCount_95d88 59 = .ok (.iand, 1) := by decide +kernel
theorem dJ13_bitCount_95d88_60 : decode cJ13_bitCount_95d88 60 = .ok (.ireturn, 1) := by decide +kernel
theorem dX0_unite_0 : decode cX0_unite 0 = .ok (.aload_n 0, 1) := by decide +kernel
theorem dX0_unite_1 : decode cX0_unite 1 = .ok (.getfield 12, 3) := by decide +kernel
theorem dX0_unite_4 : decode cX0_unite 4 = .ok (.getfield 155, 3) := by decide +kernel
theorem dX0_unite_7 : decode cX0_unite 7 = .ok (.astore_n 3, 1) := by decide +kernel
theorem dX0_unite_8 : decode cX0_unite 8 = .ok (.iconst 0, 1) := by decide +kernel
theorem dX0_unite_9 : decode cX0_unite 9 = .ok (.istore 4, 2) := by decide +kernel
theorem dX0_unite_11 : decode cX0_unite 11 = .ok (.iload 4, 2) := by decide +kernel
theorem dX0_unite_13 : decode cX0_unite 13 = .ok (.aload_n 0, 1) := by decide +kernel
theorem dX0_unite_14 : decode cX0_unite 14 = .ok (.getfield 12, 3) := by decide +kernel
theorem dX0_unite_17 : decode cX0_unite 17 = .ok (.getfield 93, 3) := by decide +kernel
theorem dX0_unite_20 : decode cX0_unite 20 = .ok (.if_icmp .ge 189, 3) := by decide +kernel
theorem dX0_unite_23 : decode cX0_unite 23 = .ok (.aload_n 0, 1) := by decide +kernel
theorem dX0_unite_24 : decode cX0_unite 24 = .ok (.getfield 12, 3) := by decide +kernel
theorem dX0_unite_27 : decode cX0_unite 27 = .ok (.iload 4, 2) := by decide +kernel
theorem dX0_unite_29 : decode cX0_unite 29 = .ok (.invokevirtual 186, 3) := by decide +kernel
theorem dX0_unite_32 : decode cX0_unite 32 = .ok (.istore 6, 2) := by decide +kernel
theorem dX0_unite_34 : decode cX0_unite 34 = .ok (.iload 6, 2) := by decide +kernel
theorem dX0_unite_36 : decode cX0_unite 36 = .ok (.ifCond .lt 142, 3) := by decide +kernel
theorem dX0_unite_39 : decode cX0_unite 39 = .ok (.aload_n 3, 1) := by decide +kernel
theorem dX0_unite_40 : decode cX0_unite 40 = .ok (.getfield 183, 3) := by decide +kernel
theorem dX0_unite_43 : decode cX0_unite 43 = .ok (.iload 6, 2) := by decide +kernel
theorem dX0_unite_45 : decode cX0_unite 45 = .ok (.iaload, 1) := by decide +kernel
theorem dX0_unite_46 : decode cX0_unite 46 = .ok (.istore 5, 2) := by decide +kernel
theorem dX0_unite_48 : decode cX0_unite 48 = .ok (.aload_n 3, 1) := by decide +kernel
theorem dX0_unite_49 : decode cX0_unite 49 = .ok (.getfield 162, 3) := by decide +kernel
theorem dX0_unite_52 : decode cX0_unite 52 = .ok (.iload 6, 2) := by decide +kernel
theorem dX0_unite_54 : decode cX0_unite 54 = .ok (.iaload, 1) := by decide +kernel
theorem dX0_unite_55 : decode cX0_unite 55 = .ok (.iload_n 2, 1) := by decide +kernel
theorem dX0_unite_56 : decode cX0_unite 56 = .ok (.if_icmp .ne 11, 3) := by decide +kernel
theorem dX0_unite_59 : decode cX0_unite 59 = .ok (.aload_n 3, 1) := by decide +kernel
theorem dX0_unite_60 : decode cX0_unite 60 = .ok (.getfield 162, 3) := by decide +kernel
theorem dX0_unite_63 : decode cX0_unite 63 = .ok (.iload 6, 2) := by decide +kernel
theorem dX0_unite_65 : decode cX0_unite 65 = .ok (.iload_n 1, 1) := by decide +kernel
theorem dX0_unite_66 : decode cX0_unite 66 = .ok (.iastore, 1) := by decide +kernel
theorem dX0_unite_67 : decode cX0_unite 67 = .ok (.aload_n 3, 1) := by decide +kernel
theorem dX0_unite_68 : decode cX0_unite 68 = .ok (.getfield 159, 3) := by decide +kernel
theorem dX0_unite_71 : decode cX0_unite 71 = .ok (.iload 6, 2) := by decide +kernel
theorem dX0_unite_73 : decode cX0_unite 73 = .ok (.iaload, 1) := by decide +kernel
theorem dX0_unite_74 : decode cX0_unite 74 = .ok (.invokestatic 189, 3) := by decide +kernel
theorem dX0_unite_77 : decode cX0_unite 77 = .ok (.ifCond .eq 22, 3) := by decide +kernel
theorem dX0_unite_80 : decode cX0_unite 80 = .ok (.aload_n 3, 1) := by decide +kernel
theorem dX0_unite_81 : decode cX0_unite 81 = .ok (.getfield 165, 3) := by decide +kernel
theorem dX0_unite_84 : decode cX0_unite 84 = .ok (.iload 6, 2) := by decide +kernel
theorem dX0_unite_86 : decode cX0_unite 86 = .ok (.iaload, 1) := by decide +kernel
theorem dX0_unite_87 : decode cX0_unite 87 = .ok (.iload_n 2, 1) := by decide +kernel
theorem dX0_unite_88 : decode cX0_unite 88 = .ok (.if_icmp .ne 11, 3) := by decide +kernel
theorem dX0_unite_91 : decode cX0_unite 91 = .ok (.aload_n 3, 1) := by decide +kernel
theorem dX0_unite_92 : decode cX0_unite 92 = .ok (.getfield 165, 3) := by decide +kernel
theorem dX0_unite_95 : decode cX0_unite 95 = .ok (.iload 6, 2) := by decide +kernel
theorem dX0_unite_97 : decode cX0_unite 97 = .ok (.iload_n 1, 1) := by decide +kernel
theorem dX0_unite_98 : decode cX0_unite 98 = .ok (.iastore, 1) := by decide +kernel
theorem dX0_unite_99 : decode cX0_unite 99 = .ok (.aload_n 3, 1) := by decide +kernel
theorem dX0_unite_100 : decode cX0_unite 100 = .ok (.getfield 159, 3) := by decide +kernel
theorem dX0_unite_103 : decode cX0_unite 103 = .ok (.iload 6, 2) := by decide +kernel
theorem dX0_unite_105 : decode cX0_unite 105 = .ok (.iaload, 1) := by decide +kernel
theorem dX0_unite_106 : decode cX0_unite 106 = .ok (.invokestatic 193, 3) := by decide +kernel
theorem dX0_unite_109 : decode cX0_unite 109 = .ok (.ifCond .eq 22, 3) := by decide +kernel
theorem dX0_unite_112 : decode cX0_unite 112 = .ok (.aload_n 3, 1) := by decide +kernel
theorem dX0_unite_113 : decode cX0_unite 113 = .ok (.getfield 196, 3) := by decide +kernel
theorem dX0_unite_116 : decode cX0_unite 116 = .ok (.iload 6, 2) := by decide +kernel
theorem dX0_unite_118 : decode cX0_unite 118 = .ok (.iaload, 1) := by decide +kernel
theorem dX0_unite_119 : decode cX0_unite 119 = .ok (.iload_n 2, 1) := by decide +kernel
theorem dX0_unite_120 : decode cX0_unite 120 = .ok (.if_icmp .ne 11, 3) := by decide +kernel
theorem dX0_unite_123 : decode cX0_unite 123 = .ok (.aload_n 3, 1) := by decide +kernel
theorem dX0_unite_124 : decode cX0_unite 124 = .ok (.getfield 196, 3) := by decide +kernel
theorem dX0_unite_127 : decode cX0_unite 127 = .ok (.iload 6, 2) := by decide +kernel
theorem dX0_unite_129 : decode cX0_unite 129 = .ok (.iload_n 1, 1) := by decide +kernel
theorem dX0_unite_130 : decode cX0_unite 130 = .ok (.iastore, 1) := by decide +kernel
theorem dX0_unite_131 : decode cX0_unite 131 = .ok (.aload_n 3, 1) := by decide +kernel
theorem dX0_unite_132 : decode cX0_unite 132 = .ok (.getfield 159, 3) := by decide +kernel
theorem dX0_unite_135 : decode cX0_unite 135 = .ok (.iload 6, 2) := by decide +kernel
theorem dX0_unite_137 : decode cX0_unite 137 = .ok (.iaload, 1) := by decide +kernel
theorem dX0_unite_138 : decode cX0_unite 138 = .ok (.bipush 25, 2) := by decide +kernel
theorem dX0_unite_140 : decode cX0_unite 140 = .ok (.if_icmp .ne 20, 3) := by decide +kernel
theorem dX0_unite_143 : decode cX0_unite 143 = .ok (.aload_n 3, 1) := by decide +kernel
theorem dX0_unite_144 : decode cX0_unite 144 = .ok (.getfield 162, 3) := by decide +kernel
theorem dX0_unite_147 : decode cX0_unite 147 = .ok (.iload 6, 2) := by decide +kernel
theorem dX0_unite_149 : decode cX0_unite 149 = .ok (.iaload, 1) := by decide +kernel
theorem dX0_unite_150 : decode cX0_unite 150 = .ok (.aload_n 3, 1) := by decide +kernel
theorem dX0_unite_151 : decode cX0_unite 151 = .ok (.getfield 165, 3) := by decide +kernel
theorem dX0_unite_154 : decode cX0_unite 154 = .ok (.iload 6, 2) := by decide +kernel
theorem dX0_unite_156 : decode cX0_unite 156 = .ok (.iaload, 1) := by decide +kernel
theorem dX0_unite_157 : decode cX0_unite 157 = .ok (.if_icmp .eq 14, 3) := by decide +kernel
theorem dX0_unite_160 : decode cX0_unite 160 = .ok (.aload_n 0, 1) := by decide +kernel
theorem dX0_unite_161 : decode cX0_unite 161 = .ok (.getfield 12, 3) := by decide +kernel
theorem dX0_unite_164 : decode cX0_unite 164 = .ok (.iload 4, 2) := by decide +kernel
theorem dX0_unite_166 : decode cX0_unite 166 = .ok (.iload 6, 2) := by decide +kernel
theorem dX0_unite_168 : decode cX0_unite 168 = .ok (.invokevirtual 199, 3) := by decide +kernel
theorem dX0_unite_171 : decode cX0_unite 171 = .ok (.iload 5, 2) := by decide +kernel
theorem dX0_unite_173 : decode cX0_unite 173 = .ok (.istore 6, 2) := by decide +kernel
theorem dX0_unite_175 : decode cX0_unite 175 = .ok (.goto (-141), 3) := by decide +kernel
theorem dX0_unite_178 : decode cX0_unite 178 = .ok (.aload_n 0, 1) := by decide +kernel
theorem dX0_unite_179 : decode cX0_unite 179 = .ok (.getfield 12, 3) := by decide +kernel
theorem dX0_unite_182 : decode cX0_unite 182 = .ok (.getfield 202, 3) := by decide +kernel
theorem dX0_unite_185 : decode cX0_unite 185 = .ok (.iload 4, 2) := by decide +kernel
theorem dX0_unite_187 : decode cX0_unite 187 = .ok (.iaload, 1) := by decide +kernel
theorem dX0_unite_188 : decode cX0_unite 188 = .ok (.iload_n 2, 1) := by decide +kernel
theorem dX0_unite_189 : decode cX0_unite 189 = .ok (.if_icmp .ne 14, 3) := by decide +kernel
theorem dX0_unite_192 : decode cX0_unite 192 = .ok (.aload_n 0, 1) := by decide +kernel
theorem dX0_unite_193 : decode cX0_unite 193 = .ok (.getfield 12, 3) := by decide +kernel
theorem dX0_unite_196 : decode cX0_unite 196 = .ok (.getfield 202, 3) := by decide +kernel
theorem dX0_unite_199 : decode cX0_unite 199 = .ok (.iload 4, 2) := by decide +kernel
theorem dX0_unite_201 : decode cX0_unite 201 = .ok (.iload_n 1, 1) := by decide +kernel
theorem dX0_unite_202 : decode cX0_unite 202 = .ok (.iastore, 1) := by decide +kernel
theorem dX0_unite_203 : decode cX0_unite 203 = .ok (.iinc 4 1, 3) := by decide +kernel
theorem dX0_unite_206 : decode cX0_unite 206 = .ok (.goto (-195), 3) := by decide +kernel
theorem dX0_unite_209 : decode cX0_unite 209 = .ok (.return_, 1) := by decide +kernel
theorem dX11_lowest_0 : decode cX11_lowest 0 = .ok (.lload_n 0, 1) := by decide +kernel
theorem dX11_lowest_1 : decode cX11_lowest 1 = .ok (.lload_n 0, 1) := by decide +kernel
theorem dX11_lowest_2 : decode cX11_lowest 2 = .ok (.lneg, 1) := by decide +kernel
theorem dX11_lowest_3 : decode cX11_lowest 3 = .ok (.land, 1) := by decide +kernel
theorem dX11_lowest_4 : decode cX11_lowest 4 = .ok (.lconst 1, 1) := by decide +kernel
theorem dX11_lowest_5 : decode cX11_lowest 5 = .ok (.lsub, 1) := by decide +kernel
theorem dX11_lowest_6 : decode cX11_lowest 6 = .ok (.invokestatic 381, 3) := by decide +kernel
theorem dX11_lowest_9 : decode cX11_lowest 9 = .ok (.ireturn, 1) := by decide +kernel
theorem dX2_countDegrees_0 : decode cX2_countDegrees 0 = .ok (.iconst 0, 1) := by decide +kernel
theorem dX2_countDegrees_1 : decode cX2_countDegrees 1 = .ok (.istore_n 1, 1) := by decide +kernel
theorem dX2_countDegrees_2 : decode cX2_countDegrees 2 = .ok (.iload_n 1, 1) := by decide +kernel
theorem dX2_countDegrees_3 : decode cX2_countDegrees 3 = .ok (.aload_n 0, 1) := by decide +kernel
theorem dX2_countDegrees_4 : decode cX2_countDegrees 4 = .ok (.getfield 62, 3) := by decide +kernel
theorem dX2_countDegrees_7 : decode cX2_countDegrees 7 = .ok (.if_icmp .ge 70, 3) := by decide +kernel
theorem dX2_countDegrees_10 : decode cX2_countDegrees 10 = .ok (.aload_n 0, 1) := by decide +kernel
theorem dX2_countDegrees_11 : decode cX2_countDegrees 11 = .ok (.getfield 37, 3) := by decide +kernel
theorem dX2_countDegrees_14 : decode cX2_countDegrees 14 = .ok (.iload_n 1, 1) := by decide +kernel
theorem dX2_countDegrees_15 : decode cX2_countDegrees 15 = .ok (.aload_n 0, 1) := by decide +kernel
theorem dX2_countDegrees_16 : decode cX2_countDegrees 16 = .ok (.getfield 34, 3) := by decide +kernel
theorem dX2_countDegrees_19 : decode cX2_countDegrees 19 = .ok (.iload_n 1, 1) := by decide +kernel
theorem dX2_countDegrees_20 : decode cX2_countDegrees 20 = .ok (.iaload, 1) := by decide +kernel
theorem dX2_countDegrees_21 : decode cX2_countDegrees 21 = .ok (.ifCond .lt 7, 3) := by decide +kernel
theorem dX2_countDegrees_24 : decode cX2_countDegrees 24 = .ok (.iconst 1, 1) := by decide +kernel
theorem dX2_countDegrees_25 : decode cX2_countDegrees 25 = .ok (.goto 4, 3) := by decide +kernel
theorem dX2_countDegrees_28 : decode cX2_countDegrees 28 = .ok (.iconst 0, 1) := by decide +kernel
theorem dX2_countDegrees_29 : decode cX2_countDegrees 29 = .ok (.iastore, 1) := by decide +kernel
theorem dX2_countDegrees_30 : decode cX2_countDegrees 30 = .ok (.iconst 0, 1) := by decide +kernel
theorem dX2_countDegrees_31 : decode cX2_countDegrees 31 = .ok (.istore_n 2, 1) := by decide +kernel
theorem dX2_countDegrees_32 : decode cX2_countDegrees 32 = .ok (.iload_n 2, 1) := by decide +kernel
theorem dX2_countDegrees_33 : decode cX2_countDegrees 33 = .ok (.aload_n 0, 1) := by decide +kernel
theorem dX2_countDegrees_34 : decode cX2_countDegrees 34 = .ok (.getfield 65, 3) := by decide +kernel
theorem dX2_countDegrees_37 : decode cX2_countDegrees 37 = .ok (.if_icmp .ge 34, 3) := by decide +kernel
theorem dX2_countDegrees_40 : decode cX2_countDegrees 40 = .ok (.aload_n 0, 1) := by decide +kernel
theorem dX2_countDegrees_41 : decode cX2_countDegrees 41 = .ok (.getfield 37, 3) := by decide +kernel
theorem dX2_countDegrees_44 : decode cX2_countDegrees 44 = .ok (.iload_n 1, 1) := by decide +kernel
theorem dX2_countDegrees_45 : decode cX2_countDegrees 45 = .ok (.dup2, 1) := by decide +kernel
theorem dX2_countDegrees_46 : decode cX2_countDegrees 46 = .ok (.iaload, 1) := by decide +kernel
theorem dX2_countDegrees_47 : decode cX2_countDegrees 47 = .ok (.aload_n 0, 1) := by decide +kernel
theorem dX2_countDegrees_48 : decode cX2_countDegrees 48 = .ok (.getfield 31, 3) := by decide +kernel
theorem dX2_countDegrees_51 : decode cX2_countDegrees 51 = .ok (.iload_n 1, 1) := by decide +kernel
theorem dX2_countDegrees_52 : decode cX2_countDegrees 52 = .ok (.aload_n 0, 1) := by decide +kernel
theorem dX2_countDegrees_53 : decode cX2_countDegrees 53 = .ok (.getfield 65, 3) := by decide +kernel
theorem dX2_countDegrees_56 : decode cX2_countDegrees 56 = .ok (.imul, 1) := by decide +kernel
theorem dX2_countDegrees_57 : decode cX2_countDegrees 57 = .ok (.iload_n 2, 1) := by decide +kernel
theorem dX2_countDegrees_58 : decode cX2_countDegrees 58 = .ok (.iadd, 1) := by decide +kernel
theorem dX2_countDegrees_59 : decode cX2_countDegrees 59 = .ok (.laload, 1) := by decide +kernel
theorem dX2_countDegrees_60 : decode cX2_countDegrees 60 = .ok (.invokestatic 207, 3) := by decide +kernel
theorem dX2_countDegrees_63 : decode cX2_countDegrees 63 = .ok (.iadd, 1) := by decide +kernel
theorem dX2_countDegrees_64 : decode cX2_countDegrees 64 = .ok (.iastore, 1) := by decide +kernel
theorem dX2_countDegrees_65 : decode cX2_countDegrees 65 = .ok (.iinc 2 1, 3) := by decide +kernel
theorem dX2_countDegrees_68 : decode cX2_countDegrees 68 = .ok (.goto (-36), 3) := by decide +kernel
theorem dX2_countDegrees_71 : decode cX2_countDegrees 71 = .ok (.iinc 1 1, 3) := by decide +kernel
theorem dX2_countDegrees_74 : decode cX2_countDegrees 74 = .ok (.goto (-72), 3) := by decide +kernel
theorem dX2_countDegrees_77 : decode cX2_countDegrees 77 = .ok (.aload_n 0, 1) := by decide +kernel
theorem dX2_countDegrees_78 : decode cX2_countDegrees 78 = .ok (.getfield 58, 3) := by decide +kernel
theorem dX2_countDegrees_81 : decode cX2_countDegrees 81 = .ok (.istore_n 1, 1) := by decide +kernel
theorem dX2_countDegrees_82 : decode cX2_countDegrees 82 = .ok (.iload_n 1, 1) := by decide +kernel
theorem dX2_countDegrees_83 : decode cX2_countDegrees 83 = .ok (.aload_n 0, 1) := by decide +kernel
theorem dX2_countDegrees_84 : decode cX2_countDegrees 84 = .ok (.getfield 62, 3) := by decide +kernel
theorem dX2_countDegrees_87 : decode cX2_countDegrees 87 = .ok (.if_icmp .ge 72, 3) := by decide +kernel
theorem dX2_countDegrees_90 : decode cX2_countDegrees 90 = .ok (.iconst 0, 1) := by decide +kernel
theorem dX2_countDegrees_91 : decode cX2_countDegrees 91 = .ok (.istore_n 2, 1) := by decide +kernel
theorem dX2_countDegrees_92 : decode cX2_countDegrees 92 = .ok (.iload_n 2, 1) := by decide +kernel
theorem dX2_countDegrees_93 : decode cX2_countDegrees 93 = .ok (.aload_n 0, 1) := by decide +kernel
theorem dX2_countDegrees_94 : decode cX2_countDegrees 94 = .ok (.getfield 65, 3) := by decide +kernel
theorem dX2_countDegrees_97 : decode cX2_countDegrees 97 = .ok (.if_icmp .ge 56, 3) := by decide +kernel
theorem dX2_countDegrees_100 : decode cX2_countDegrees 100 = .ok (.aload_n 0, 1) := by decide +kernel
theorem dX2_countDegrees_101 : decode cX2_countDegrees 101 = .ok (.getfield 31, 3) := by decide +kernel
theorem dX2_countDegrees_104 : decode cX2_countDegrees 104 = .ok (.iload_n 1, 1) := by decide +kernel
theorem dX2_countDegrees_105 : decode cX2_countDegrees 105 = .ok (.aload_n 0, 1) := by decide +kernel
theorem dX2_countDegrees_106 : decode cX2_countDegrees 106 = .ok (.getfield 65, 3) := by decide +kernel
theorem dX2_countDegrees_109 : decode cX2_countDegrees 109 = .ok (.imul, 1) := by decide +kernel
theorem dX2_countDegrees_110 : decode cX2_countDegrees 110 = .ok (.iload_n 2, 1) := by decide +kernel
theorem dX2_countDegrees_111 : decode cX2_countDegrees 111 = .ok (.iadd, 1) := by decide +kernel
theorem dX2_countDegrees_112 : decode cX2_countDegrees 112 = .ok (.laload, 1) := by decide +kernel
theorem dX2_countDegrees_113 : decode cX2_countDegrees 113 = .ok (.lstore_n 3, 1) := by decide +kernel
theorem dX2_countDegrees_114 : decode cX2_countDegrees 114 = .ok (.lload_n 3, 1) := by decide +kernel
theorem dX2_countDegrees_115 : decode cX2_countDegrees 115 = .ok (.lconst 0, 1) := by decide +kernel
theorem dX2_countDegrees_116 : decode cX2_countDegrees 116 = .ok (.lcmp, 1) := by decide +kernel
theorem dX2_countDegrees_117 : decode cX2_countDegrees 117 = .ok (.ifCond .eq 30, 3) := by decide +kernel
theorem dX2_countDegrees_120 : decode cX2_countDegrees 120 = .ok (.aload_n 0, 1) := by decide +kernel
theorem dX2_countDegrees_121 : decode cX2_countDegrees 121 = .ok (.getfield 37, 3) := by decide +kernel
theorem dX2_countDegrees_124 : decode cX2_countDegrees 124 = .ok (.iload_n 2, 1) := by decide +kernel
theorem dX2_countDegrees_125 : decode cX2_countDegrees 125 = .ok (.bipush 64, 2) := by decide +kernel
theorem dX2_countDegrees_127 : decode cX2_countDegrees 127 = .ok (.imul, 1) := by decide +kernel
theorem dX2_countDegrees_128 : decode cX2_countDegrees 128 = .ok (.lload_n 3, 1) := by decide +kernel
theorem dX2_countDegrees_129 : decode cX2_countDegrees 129 = .ok (.invokestatic 203, 3) := by decide +kernel
theorem dX2_countDegrees_132 : decode cX2_countDegrees 132 = .ok (.iadd, 1) := by decide +kernel
theorem dX2_countDegrees_133 : decode cX2_countDegrees 133 = .ok (.dup2, 1) := by decide +kernel
theorem dX2_countDegrees_134 : decode cX2_countDegrees 134 = .ok (.iaload, 1) := by decide +kernel
theorem dX2_countDegrees_135 : decode cX2_countDegrees 135 = .ok (.iconst 1, 1) := by decide +kernel
theorem dX2_countDegrees_136 : decode cX2_countDegrees 136 = .ok (.iadd, 1) := by decide +kernel
theorem dX2_countDegrees_137 : decode cX2_countDegrees 137 = .ok (.iastore, 1) := by decide +kernel
theorem dX2_countDegrees_138 : decode cX2_countDegrees 138 = .ok (.lload_n 3, 1) := by decide +kernel
theorem dX2_countDegrees_139 : decode cX2_countDegrees 139 = .ok (.lload_n 3, 1) := by decide +kernel
theorem dX2_countDegrees_140 : decode cX2_countDegrees 140 = .ok (.lconst 1, 1) := by decide +kernel
theorem dX2_countDegrees_141 : decode cX2_countDegrees 141 = .ok (.lsub, 1) := by decide +kernel
theorem dX2_countDegrees_142 : decode cX2_countDegrees 142 = .ok (.land, 1) := by decide +kernel
theorem dX2_countDegrees_143 : decode cX2_countDegrees 143 = .ok (.lstore_n 3, 1) := by decide +kernel
theorem dX2_countDegrees_144 : decode cX2_countDegrees 144 = .ok (.goto (-30), 3) := by decide +kernel
theorem dX2_countDegrees_147 : decode cX2_countDegrees 147 = .ok (.iinc 2 1, 3) := by decide +kernel
theorem dX2_countDegrees_150 : decode cX2_countDegrees 150 = .ok (.goto (-58), 3) := by decide +kernel
theorem dX2_countDegrees_153 : decode cX2_countDegrees 153 = .ok (.iinc 1 1, 3) := by decide +kernel
theorem dX2_countDegrees_156 : decode cX2_countDegrees 156 = .ok (.goto (-74), 3) := by decide +kernel
theorem dX2_countDegrees_159 : decode cX2_countDegrees 159 = .ok (.return_, 1) := by decide +kernel
theorem dX2_mayUnite_0 : decode cX2_mayUnite 0 = .ok (.iload_n 1, 1) := by decide +kernel
theorem dX2_mayUnite_1 : decode cX2_mayUnite 1 = .ok (.aload_n 0, 1) := by decide +kernel
theorem dX2_mayUnite_2 : decode cX2_mayUnite 2 = .ok (.getfield 58, 3) := by decide +kernel
theorem dX2_mayUnite_5 : decode cX2_mayUnite 5 = .ok (.if_icmp .ge 24, 3) := by decide +kernel
theorem dX2_mayUnite_8 : decode cX2_mayUnite 8 = .ok (.iload_n 2, 1) := by decide +kernel
theorem dX2_mayUnite_9 : decode cX2_mayUnite 9 = .ok (.aload_n 0, 1) := by decide +kernel
theorem dX2_mayUnite_10 : decode cX2_mayUnite 10 = .ok (.getfield 58, 3) := by decide +kernel
theorem dX2_mayUnite_13 : decode cX2_mayUnite 13 = .ok (.if_icmp .ge 16, 3) := by decide +kernel
theorem dX2_mayUnite_16 : decode cX2_mayUnite 16 = .ok (.aload_n 0, 1) := by decide +kernel
theorem dX2_mayUnite_17 : decode cX2_mayUnite 17 = .ok (.aload_n 0, 1) := by decide +kernel
theorem dX2_mayUnite_18 : decode cX2_mayUnite 18 = .ok (.getfield 31, 3) := by decide +kernel
theorem dX2_mayUnite_21 : decode cX2_mayUnite 21 = .ok (.iload_n 1, 1) := by decide +kernel
theorem dX2_mayUnite_22 : decode cX2_mayUnite 22 = .ok (.iload_n 2, 1) := by decide +kernel
theorem dX2_mayUnite_23 : decode cX2_mayUnite 23 = .ok (.invokevirtual 150, 3) := by decide +kernel
theorem dX2_mayUnite_26 : decode cX2_mayUnite 26 = .ok (.ifCond .eq 5, 3) := by decide +kernel
theorem dX2_mayUnite_29 : decode cX2_mayUnite 29 = .ok (.iconst 0, 1) := by decide +kernel
theorem dX2_mayUnite_30 : decode cX2_mayUnite 30 = .ok (.ireturn, 1) := by decide +kernel
theorem dX2_mayUnite_31 : decode cX2_mayUnite 31 = .ok (.iconst 0, 1) := by decide +kernel
theorem dX2_mayUnite_32 : decode cX2_mayUnite 32 = .ok (.istore 4, 2) := by decide +kernel
theorem dX2_mayUnite_34 : decode cX2_mayUnite 34 = .ok (.iconst 0, 1) := by decide +kernel
theorem dX2_mayUnite_35 : decode cX2_mayUnite 35 = .ok (.istore 5, 2) := by decide +kernel
theorem dX2_mayUnite_37 : decode cX2_mayUnite 37 = .ok (.iload 5, 2) := by decide +kernel
theorem dX2_mayUnite_39 : decode cX2_mayUnite 39 = .ok (.aload_n 0, 1) := by decide +kernel
theorem dX2_mayUnite_40 : decode cX2_mayUnite 40 = .ok (.getfield 65, 3) := by decide +kernel
theorem dX2_mayUnite_43 : decode cX2_mayUnite 43 = .ok (.if_icmp .ge 89, 3) := by decide +kernel
theorem dX2_mayUnite_46 : decode cX2_mayUnite 46 = .ok (.aload_n 0, 1) := by decide +kernel
theorem dX2_mayUnite_47 : decode cX2_mayUnite 47 = .ok (.getfield 31, 3) := by decide +kernel
theorem dX2_mayUnite_50 : decode cX2_mayUnite 50 = .ok (.iload_n 1, 1) := by decide +kernel
theorem dX2_mayUnite_51 : decode cX2_mayUnite 51 = .ok (.aload_n 0, 1) := by decide +kernel
theorem dX2_mayUnite_52 : decode cX2_mayUnite 52 = .ok (.getfield 65, 3) := by decide +kernel
theorem dX2_mayUnite_55 : decode cX2_mayUnite 55 = .ok (.imul, 1) := by decide +kernel
theorem dX2_mayUnite_56 : decode cX2_mayUnite 56 = .ok (.iload 5, 2) := by decide +kernel
theorem dX2_mayUnite_58 : decode cX2_mayUnite 58 = .ok (.iadd, 1) := by decide +kernel
theorem dX2_mayUnite_59 : decode cX2_mayUnite 59 = .ok (.laload, 1) := by decide +kernel
theorem dX2_mayUnite_60 : decode cX2_mayUnite 60 = .ok (.aload_n 0, 1) := by decide +kernel
theorem dX2_mayUnite_61 : decode cX2_mayUnite 61 = .ok (.getfield 31, 3) := by decide +kernel
theorem dX2_mayUnite_64 : decode cX2_mayUnite 64 = .ok (.iload_n 2, 1) := by decide +kernel
theorem dX2_mayUnite_65 : decode cX2_mayUnite 65 = .ok (.aload_n 0, 1) := by decide +kernel
theorem dX2_mayUnite_66 : decode cX2_mayUnite 66 = .ok (.getfield 65, 3) := by decide +kernel
theorem dX2_mayUnite_69 : decode cX2_mayUnite 69 = .ok (.imul, 1) := by decide +kernel
theorem dX2_mayUnite_70 : decode cX2_mayUnite 70 = .ok (.iload 5, 2) := by decide +kernel
theorem dX2_mayUnite_72 : decode cX2_mayUnite 72 = .ok (.iadd, 1) := by decide +kernel
theorem dX2_mayUnite_73 : decode cX2_mayUnite 73 = .ok (.laload, 1) := by decide +kernel
theorem dX2_mayUnite_74 : decode cX2_mayUnite 74 = .ok (.lor, 1) := by decide +kernel
theorem dX2_mayUnite_75 : decode cX2_mayUnite 75 = .ok (.lstore 6, 2) := by decide +kernel
theorem dX2_mayUnite_77 : decode cX2_mayUnite 77 = .ok (.lload 6, 2) := by decide +kernel
theorem dX2_mayUnite_79 : decode cX2_mayUnite 79 = .ok (.lconst 0, 1) := by decide +kernel
theorem dX2_mayUnite_80 : decode cX2_mayUnite 80 = .ok (.lcmp, 1) := by decide +kernel
theorem dX2_mayUnite_81 : decode cX2_mayUnite 81 = .ok (.ifCond .eq 45, 3) := by decide +kernel
theorem dX2_mayUnite_84 : decode cX2_mayUnite 84 = .ok (.iload 4, 2) := by decide +kernel
theorem dX2_mayUnite_86 : decode cX2_mayUnite 86 = .ok (.aload_n 0, 1) := by decide +kernel
theorem dX2_mayUnite_87 : decode cX2_mayUnite 87 = .ok (.getfield 37, 3) := by decide +kernel
theorem dX2_mayUnite_90 : decode cX2_mayUnite 90 = .ok (.iload 5, 2) := by decide +kernel
theorem dX2_mayUnite_92 : decode cX2_mayUnite 92 = .ok (.bipush 64, 2) := by decide +kernel
theorem dX2_mayUnite_94 : decode cX2_mayUnite 94 = .ok (.imul, 1) := by decide +kernel
theorem dX2_mayUnite_95 : decode cX2_mayUnite 95 = .ok (.lload 6, 2) := by decide +kernel
theorem dX2_mayUnite_97 : decode cX2_mayUnite 97 = .ok (.invokestatic 203, 3) := by decide +kernel
theorem dX2_mayUnite_100 : decode cX2_mayUnite 100 = .ok (.iadd, 1) := by decide +kernel
theorem dX2_mayUnite_101 : decode cX2_mayUnite 101 = .ok (.iaload, 1) := by decide +kernel
theorem dX2_mayUnite_102 : decode cX2_mayUnite 102 = .ok (.iload_n 3, 1) := by decide +kernel
theorem dX2_mayUnite_103 : decode cX2_mayUnite 103 = .ok (.if_icmp .lt 7, 3) := by decide +kernel
theorem dX2_mayUnite_106 : decode cX2_mayUnite 106 = .ok (.iconst 1, 1) := by decide +kernel
theorem dX2_mayUnite_107 : decode cX2_mayUnite 107 = .ok (.goto 4, 3) := by decide +kernel
theorem dX2_mayUnite_110 : decode cX2_mayUnite 110 = .ok (.iconst 0, 1) := by decide +kernel
theorem dX2_mayUnite_111 : decode cX2_mayUnite 111 = .ok (.iadd, 1) := by decide +kernel
theorem dX2_mayUnite_112 : decode cX2_mayUnite 112 = .ok (.istore 4, 2) := by decide +kernel
theorem dX2_mayUnite_114 : decode cX2_mayUnite 114 = .ok (.lload 6, 2) := by decide +kernel
theorem dX2_mayUnite_116 : decode cX2_mayUnite 116 = .ok (.lload 6, 2) := by decide +kernel
theorem dX2_mayUnite_118 : decode cX2_mayUnite 118 = .ok (.lconst 1, 1) := by decide +kernel
theorem dX2_mayUnite_119 : decode cX2_mayUnite 119 = .ok (.lsub, 1) := by decide +kernel
theorem dX2_mayUnite_120 : decode cX2_mayUnite 120 = .ok (.land, 1) := by decide +kernel
theorem dX2_mayUnite_121 : decode cX2_mayUnite 121 = .ok (.lstore 6, 2) := by decide +kernel
theorem dX2_mayUnite_123 : decode cX2_mayUnite 123 = .ok (.goto (-46), 3) := by decide +kernel
theorem dX2_mayUnite_126 : decode cX2_mayUnite 126 = .ok (.iinc 5 1, 3) := by decide +kernel
theorem dX2_mayUnite_129 : decode cX2_mayUnite 129 = .ok (.goto (-92), 3) := by decide +kernel
theorem dX2_mayUnite_132 : decode cX2_mayUnite 132 = .ok (.aload_n 0, 1) := by decide +kernel
theorem dX2_mayUnite_133 : decode cX2_mayUnite 133 = .ok (.getfield 58, 3) := by decide +kernel
theorem dX2_mayUnite_136 : decode cX2_mayUnite 136 = .ok (.istore 5, 2) := by decide +kernel
theorem dX2_mayUnite_138 : decode cX2_mayUnite 138 = .ok (.iload 5, 2) := by decide +kernel
theorem dX2_mayUnite_140 : decode cX2_mayUnite 140 = .ok (.aload_n 0, 1) := by decide +kernel
theorem dX2_mayUnite_141 : decode cX2_mayUnite 141 = .ok (.getfield 62, 3) := by decide +kernel
theorem dX2_mayUnite_144 : decode cX2_mayUnite 144 = .ok (.if_icmp .ge 51, 3) := by decide +kernel
theorem dX2_mayUnite_147 : decode cX2_mayUnite 147 = .ok (.aload_n 0, 1) := by decide +kernel
theorem dX2_mayUnite_148 : decode cX2_mayUnite 148 = .ok (.getfield 37, 3) := by decide +kernel
theorem dX2_mayUnite_151 : decode cX2_mayUnite 151 = .ok (.iload 5, 2) := by decide +kernel
theorem dX2_mayUnite_153 : decode cX2_mayUnite 153 = .ok (.iaload, 1) := by decide +kernel
theorem dX2_mayUnite_154 : decode cX2_mayUnite 154 = .ok (.iload_n 3, 1) := by decide +kernel
theorem dX2_mayUnite_155 : decode cX2_mayUnite 155 = .ok (.if_icmp .lt 34, 3) := by decide +kernel
theorem dX2_mayUnite_158 : decode cX2_mayUnite 158 = .ok (.aload_n 0, 1) := by decide +kernel
theorem dX2_mayUnite_159 : decode cX2_mayUnite 159 = .ok (.aload_n 0, 1) := by decide +kernel
theorem dX2_mayUnite_160 : decode cX2_mayUnite 160 = .ok (.getfield 31, 3) := by decide +kernel
theorem dX2_mayUnite_163 : decode cX2_mayUnite 163 = .ok (.iload 5, 2) := by decide +kernel
theorem dX2_mayUnite_165 : decode cX2_mayUnite 165 = .ok (.iload_n 1, 1) := by decide +kernel
theorem dX2_mayUnite_166 : decode cX2_mayUnite 166 = .ok (.invokevirtual 150, 3) := by decide +kernel
theorem dX2_mayUnite_169 : decode cX2_mayUnite 169 = .ok (.ifCond .ne 17, 3) := by decide +kernel
theorem dX2_mayUnite_172 : decode cX2_mayUnite 172 = .ok (.aload_n 0, 1) := by decide +kernel
theorem dX2_mayUnite_173 : decode cX2_mayUnite 173 = .ok (.aload_n 0, 1) := by decide +kernel
theorem dX2_mayUnite_174 : decode cX2_mayUnite 174 = .ok (.getfield 31, 3) := by decide +kernel
theorem dX2_mayUnite_177 : decode cX2_mayUnite 177 = .ok (.iload 5, 2) := by decide +kernel
theorem dX2_mayUnite_179 : decode cX2_mayUnite 179 = .ok (.iload_n 2, 1) := by decide +kernel
theorem dX2_mayUnite_180 : decode cX2_mayUnite 180 = .ok (.invokevirtual 150, 3) := by decide +kernel
theorem dX2_mayUnite_183 : decode cX2_mayUnite 183 = .ok (.ifCond .eq 6, 3) := by decide +kernel
theorem dX2_mayUnite_186 : decode cX2_mayUnite 186 = .ok (.iinc 4 1, 3) := by decide +kernel
theorem dX2_mayUnite_189 : decode cX2_mayUnite 189 = .ok (.iinc 5 1, 3) := by decide +kernel
theorem dX2_mayUnite_192 : decode cX2_mayUnite 192 = .ok (.goto (-54), 3) := by decide +kernel
theorem dX2_mayUnite_195 : decode cX2_mayUnite 195 = .ok (.iload 4, 2) := by decide +kernel
theorem dX2_mayUnite_197 : decode cX2_mayUnite 197 = .ok (.iload_n 3, 1) := by decide +kernel
theorem dX2_mayUnite_198 : decode cX2_mayUnite 198 = .ok (.if_icmp .ge 7, 3) := by decide +kernel
theorem dX2_mayUnite_201 : decode cX2_mayUnite 201 = .ok (.iconst 1, 1) := by decide +kernel
theorem dX2_mayUnite_202 : decode cX2_mayUnite 202 = .ok (.goto 4, 3) := by decide +kernel
theorem dX2_mayUnite_205 : decode cX2_mayUnite 205 = .ok (.iconst 0, 1) := by decide +kernel
theorem dX2_mayUnite_206 : decode cX2_mayUnite 206 = .ok (.ireturn, 1) := by decide +kernel
theorem dX2_mirror_0 : decode cX2_mirror 0 = .ok (.iconst 0, 1) := by decide +kernel
theorem dX2_mirror_1 : decode cX2_mirror 1 = .ok (.istore_n 1, 1) := by decide +kernel
theorem dX2_mirror_2 : decode cX2_mirror 2 = .ok (.iload_n 1, 1) := by decide +kernel
theorem dX2_mirror_3 : decode cX2_mirror 3 = .ok (.aload_n 0, 1) := by decide +kernel
theorem dX2_mirror_4 : decode cX2_mirror 4 = .ok (.getfield 58, 3) := by decide +kernel
theorem dX2_mirror_7 : decode cX2_mirror 7 = .ok (.if_icmp .ge 72, 3) := by decide +kernel
theorem dX2_mirror_10 : decode cX2_mirror 10 = .ok (.iconst 0, 1) := by decide +kernel
theorem dX2_mirror_11 : decode cX2_mirror 11 = .ok (.istore_n 2, 1) := by decide +kernel
theorem dX2_mirror_12 : decode cX2_mirror 12 = .ok (.iload_n 2, 1) := by decide +kernel
theorem dX2_mirror_13 : decode cX2_mirror 13 = .ok (.aload_n 0, 1) := by decide +kernel
theorem dX2_mirror_14 : decode cX2_mirror 14 = .ok (.getfield 65, 3) := by decide +kernel
theorem dX2_mirror_17 : decode cX2_mirror 17 = .ok (.if_icmp .ge 56, 3) := by decide +kernel
theorem dX2_mirror_20 : decode cX2_mirror 20 = .ok (.aload_n 0, 1) := by decide +kernel
theorem dX2_mirror_21 : decode cX2_mirror 21 = .ok (.getfield 31, 3) := by decide +kernel
theorem dX2_mirror_24 : decode cX2_mirror 24 = .ok (.iload_n 1, 1) := by decide +kernel
theorem dX2_mirror_25 : decode cX2_mirror 25 = .ok (.aload_n 0, 1) := by decide +kernel
theorem dX2_mirror_26 : decode cX2_mirror 26 = .ok (.getfield 65, 3) := by decide +kernel
theorem dX2_mirror_29 : decode cX2_mirror 29 = .ok (.imul, 1) := by decide +kernel
theorem dX2_mirror_30 : decode cX2_mirror 30 = .ok (.iload_n 2, 1) := by decide +kernel
theorem dX2_mirror_31 : decode cX2_mirror 31 = .ok (.iadd, 1) := by decide +kernel
theorem dX2_mirror_32 : decode cX2_mirror 32 = .ok (.laload, 1) := by decide +kernel
theorem dX2_mirror_33 : decode cX2_mirror 33 = .ok (.lstore_n 3, 1) := by decide +kernel
theorem dX2_mirror_34 : decode cX2_mirror 34 = .ok (.lload_n 3, 1) := by decide +kernel
theorem dX2_mirror_35 : decode cX2_mirror 35 = .ok (.lconst 0, 1) := by decide +kernel
theorem dX2_mirror_36 : decode cX2_mirror 36 = .ok (.lcmp, 1) := by decide +kernel
theorem dX2_mirror_37 : decode cX2_mirror 37 = .ok (.ifCond .eq 30, 3) := by decide +kernel
theorem dX2_mirror_40 : decode cX2_mirror 40 = .ok (.aload_n 0, 1) := by decide +kernel
theorem dX2_mirror_41 : decode cX2_mirror 41 = .ok (.aload_n 0, 1) := by decide +kernel
theorem dX2_mirror_42 : decode cX2_mirror 42 = .ok (.getfield 31, 3) := by decide +kernel
theorem dX2_mirror_45 : decode cX2_mirror 45 = .ok (.iload_n 2, 1) := by decide +kernel
theorem dX2_mirror_46 : decode cX2_mirror 46 = .ok (.bipush 64, 2) := by decide +kernel
theorem dX2_mirror_48 : decode cX2_mirror 48 = .ok (.imul, 1) := by decide +kernel
theorem dX2_mirror_49 : decode cX2_mirror 49 = .ok (.lload_n 3, 1) := by decide +kernel
theorem dX2_mirror_50 : decode cX2_mirror 50 = .ok (.invokestatic 203, 3) := by decide +kernel
theorem dX2_mirror_53 : decode cX2_mirror 53 = .ok (.iadd, 1) := by decide +kernel
theorem dX2_mirror_54 : decode cX2_mirror 54 = .ok (.iload_n 1, 1) := by decide +kernel
theorem dX2_mirror_55 : decode cX2_mirror 55 = .ok (.invokevirtual 140, 3) := by decide +kernel
theorem dX2_mirror_58 : decode cX2_mirror 58 = .ok (.lload_n 3, 1) := by decide +kernel
theorem dX2_mirror_59 : decode cX2_mirror 59 = .ok (.lload_n 3, 1) := by decide +kernel
theorem dX2_mirror_60 : decode cX2_mirror 60 = .ok (.lconst 1, 1) := by decide +kernel
theorem dX2_mirror_61 : decode cX2_mirror 61 = .ok (.lsub, 1) := by decide +kernel
theorem dX2_mirror_62 : decode cX2_mirror 62 = .ok (.land, 1) := by decide +kernel
theorem dX2_mirror_63 : decode cX2_mirror 63 = .ok (.lstore_n 3, 1) := by decide +kernel
theorem dX2_mirror_64 : decode cX2_mirror 64 = .ok (.goto (-30), 3) := by decide +kernel
theorem dX2_mirror_67 : decode cX2_mirror 67 = .ok (.iinc 2 1, 3) := by decide +kernel
theorem dX2_mirror_70 : decode cX2_mirror 70 = .ok (.goto (-58), 3) := by decide +kernel
theorem dX2_mirror_73 : decode cX2_mirror 73 = .ok (.iinc 1 1, 3) := by decide +kernel
theorem dX2_mirror_76 : decode cX2_mirror 76 = .ok (.goto (-74), 3) := by decide +kernel
theorem dX2_mirror_79 : decode cX2_mirror 79 = .ok (.return_, 1) := by decide +kernel
theorem dX2_reckon_0 : decode cX2_reckon 0 = .ok (.aload_n 0, 1) := by decide +kernel
theorem dX2_reckon_1 : decode cX2_reckon 1 = .ok (.iload_n 2, 1) := by decide +kernel
theorem dX2_reckon_2 : decode cX2_reckon 2 = .ok (.putfield 58, 3) := by decide +kernel
theorem dX2_reckon_5 : decode cX2_reckon 5 = .ok (.aload_n 0, 1) := by decide +kernel
theorem dX2_reckon_6 : decode cX2_reckon 6 = .ok (.iload_n 3, 1) := by decide +kernel
theorem dX2_reckon_7 : decode cX2_reckon 7 = .ok (.putfield 62, 3) := by decide +kernel
theorem dX2_reckon_10 : decode cX2_reckon 10 = .ok (.aload_n 0, 1) := by decide +kernel
theorem dX2_reckon_11 : decode cX2_reckon 11 = .ok (.aload_n 0, 1) := by decide +kernel
theorem dX2_reckon_12 : decode cX2_reckon 12 = .ok (.getfield 58, 3) := by decide +kernel
theorem dX2_reckon_15 : decode cX2_reckon 15 = .ok (.bipush 63, 2) := by decide +kernel
theorem dX2_reckon_17 : decode cX2_reckon 17 = .ok (.iadd, 1) := by decide +kernel
theorem dX2_reckon_18 : decode cX2_reckon 18 = .ok (.bipush 6, 2) := by decide +kernel
theorem dX2_reckon_20 : decode cX2_reckon 20 = .ok (.ishr, 1) := by decide +kernel
theorem dX2_reckon_21 : decode cX2_reckon 21 = .ok (.putfield 65, 3) := by decide +kernel
theorem dX2_reckon_24 : decode cX2_reckon 24 = .ok (.aload_n 0, 1) := by decide +kernel
theorem dX2_reckon_25 : decode cX2_reckon 25 = .ok (.aload_n 1, 1) := by decide +kernel
theorem dX2_reckon_26 : decode cX2_reckon 26 = .ok (.getfield 68, 3) := by decide +kernel
theorem dX2_reckon_29 : decode cX2_reckon 29 = .ok (.invokevirtual 73, 3) := by decide +kernel
theorem dX2_reckon_32 : decode cX2_reckon 32 = .ok (.iconst 0, 1) := by decide +kernel
theorem dX2_reckon_33 : decode cX2_reckon 33 = .ok (.istore 4, 2) := by decide +kernel
theorem dX2_reckon_35 : decode cX2_reckon 35 = .ok (.iload 4, 2) := by decide +kernel
theorem dX2_reckon_37 : decode cX2_reckon 37 = .ok (.aload_n 1, 1) := by decide +kernel
theorem dX2_reckon_38 : decode cX2_reckon 38 = .ok (.getfield 68, 3) := by decide +kernel
theorem dX2_reckon_41 : decode cX2_reckon 41 = .ok (.if_icmp .ge 16, 3) := by decide +kernel
theorem dX2_reckon_44 : decode cX2_reckon 44 = .ok (.aload_n 0, 1) := by decide +kernel
theorem dX2_reckon_45 : decode cX2_reckon 45 = .ok (.aload_n 1, 1) := by decide +kernel
theorem dX2_reckon_46 : decode cX2_reckon 46 = .ok (.iload 4, 2) := by decide +kernel
theorem dX2_reckon_48 : decode cX2_reckon 48 = .ok (.invokevirtual 77, 3) := by decide +kernel
theorem dX2_reckon_51 : decode cX2_reckon 51 = .ok (.iinc 4 1, 3) := by decide +kernel
theorem dX2_reckon_54 : decode cX2_reckon 54 = .ok (.goto (-19), 3) := by decide +kernel
theorem dX2_reckon_57 : decode cX2_reckon 57 = .ok (.aload_n 0, 1) := by decide +kernel
theorem dX2_reckon_58 : decode cX2_reckon 58 = .ok (.aload_n 1, 1) := by decide +kernel
theorem dX2_reckon_59 : decode cX2_reckon 59 = .ok (.invokevirtual 81, 3) := by decide +kernel
theorem dX2_reckon_62 : decode cX2_reckon 62 = .ok (.aload_n 0, 1) := by decide +kernel
theorem dX2_reckon_63 : decode cX2_reckon 63 = .ok (.getfield 31, 3) := by decide +kernel
theorem dX2_reckon_66 : decode cX2_reckon 66 = .ok (.iconst 0, 1) := by decide +kernel
theorem dX2_reckon_67 : decode cX2_reckon 67 = .ok (.aload_n 0, 1) := by decide +kernel
theorem dX2_reckon_68 : decode cX2_reckon 68 = .ok (.getfield 62, 3) := by decide +kernel
theorem dX2_reckon_71 : decode cX2_reckon 71 = .ok (.aload_n 0, 1) := by decide +kernel
theorem dX2_reckon_72 : decode cX2_reckon 72 = .ok (.getfield 65, 3) := by decide +kernel
theorem dX2_reckon_75 : decode cX2_reckon 75 = .ok (.imul, 1) := by decide +kernel
theorem dX2_reckon_76 : decode cX2_reckon 76 = .ok (.lconst 0, 1) := by decide +kernel
theorem dX2_reckon_77 : decode cX2_reckon 77 = .ok (.invokestatic 85, 3) := by decide +kernel
theorem dX2_reckon_80 : decode cX2_reckon 80 = .ok (.aload_n 0, 1) := by decide +kernel
theorem dX2_reckon_81 : decode cX2_reckon 81 = .ok (.getfield 34, 3) := by decide +kernel
theorem dX2_reckon_84 : decode cX2_reckon 84 = .ok (.iconst 0, 1) := by decide +kernel
theorem dX2_reckon_85 : decode cX2_reckon 85 = .ok (.aload_n 0, 1) := by decide +kernel
theorem dX2_reckon_86 : decode cX2_reckon 86 = .ok (.getfield 62, 3) := by decide +kernel
theorem dX2_reckon_89 : decode cX2_reckon 89 = .ok (.iconst (-1), 1) := by decide +kernel
theorem dX2_reckon_90 : decode cX2_reckon 90 = .ok (.invokestatic 91, 3) := by decide +kernel
theorem dX2_reckon_93 : decode cX2_reckon 93 = .ok (.iconst 0, 1) := by decide +kernel
theorem dX2_reckon_94 : decode cX2_reckon 94 = .ok (.istore 4, 2) := by decide +kernel
theorem dX2_reckon_96 : decode cX2_reckon 96 = .ok (.iload 4, 2) := by decide +kernel
theorem dX2_reckon_98 : decode cX2_reckon 98 = .ok (.aload_n 1, 1) := by decide +kernel
theorem dX2_reckon_99 : decode cX2_reckon 99 = .ok (.getfield 68, 3) := by decide +kernel
theorem dX2_reckon_102 : decode cX2_reckon 102 = .ok (.if_icmp .ge 16, 3) := by decide +kernel
theorem dX2_reckon_105 : decode cX2_reckon 105 = .ok (.aload_n 0, 1) := by decide +kernel
theorem dX2_reckon_106 : decode cX2_reckon 106 = .ok (.aload_n 1, 1) := by decide +kernel
theorem dX2_reckon_107 : decode cX2_reckon 107 = .ok (.iload 4, 2) := by decide +kernel
theorem dX2_reckon_109 : decode cX2_reckon 109 = .ok (.invokevirtual 94, 3) := by decide +kernel
theorem dX2_reckon_112 : decode cX2_reckon 112 = .ok (.iinc 4 1, 3) := by decide +kernel
theorem dX2_reckon_115 : decode cX2_reckon 115 = .ok (.goto (-19), 3) := by decide +kernel
theorem dX2_reckon_118 : decode cX2_reckon 118 = .ok (.aload_n 0, 1) := by decide +kernel
theorem dX2_reckon_119 : decode cX2_reckon 119 = .ok (.invokevirtual 97, 3) := by decide +kernel
theorem dX2_reckon_122 : decode cX2_reckon 122 = .ok (.aload_n 0, 1) := by decide +kernel
theorem dX2_reckon_123 : decode cX2_reckon 123 = .ok (.invokevirtual 100, 3) := by decide +kernel
theorem dX2_reckon_126 : decode cX2_reckon 126 = .ok (.return_, 1) := by decide +kernel
theorem qw642 : Cond.fieldLink RX0 93 "Gearbox$Flow" "blocks" "I" ∈ gw := mq_1 (i := 214) rfl rfl
theorem qw688 : Cond.code yX2_makeRoom cX2_makeRoom 2 (Option.none : Option Jvm.ClassFile.FieldType) ∈ gw := mq_8 (i := 194) rfl rfl
theorem qw689 : Cond.methodLink RX2 73 yX2_makeRoom ∈ gw := mq_8 (i := 191) rfl rfl
theorem qw690 : Cond.instanceMethod yX2_makeRoom ∈ gw := mq_8 (i := 193) rfl rfl
theorem qw691 : Cond.selects RX2 yX2_makeRoom yX2_makeRoom ∈ gw := mk_s (i := 63) rfl rfl
theorem qw716 : Cond.code yX2_noteBlock cX2_noteBlock 5 (Option.none : Option Jvm.ClassFile.FieldType) ∈ gw := mq_8 (i := 210) rfl rfl
theorem qw717 : Cond.methodLink RX2 77 yX2_noteBlock ∈ gw := mq_8 (i := 207) rfl rfl
theorem qw718 : Cond.instanceMethod yX2_noteBlock ∈ gw := mq_8 (i := 209) rfl rfl
theorem qw719 : Cond.selects RX2 yX2_noteBlock yX2_noteBlock ∈ gw := mk_s (i := 67) rfl rfl
theorem qw729 : Cond.code yX2_spreadLife cX2_spreadLife 6 (Option.none : Option Jvm.ClassFile.FieldType) ∈ gw := mq_8 (i := 232) rfl rfl
theorem qw730 : Cond.methodLink RX2 81 yX2_spreadLife ∈ gw := mq_8 (i := 229) rfl rfl
theorem qw731 : Cond.instanceMethod yX2_spreadLife ∈ gw := mq_8 (i := 231) rfl rfl
theorem qw732 : Cond.selects RX2 yX2_spreadLife yX2_spreadLife ∈ gw := mk_s (i := 69) rfl rfl
theorem qw733 : Cond.methodLink RX2 91 yJ7_fill_fda19 ∈ gw := mq_9 (i := 0) rfl rfl
theorem qw762 : Cond.code yX2_meetInBlock cX2_meetInBlock 7 (Option.none : Option Jvm.ClassFile.FieldType) ∈ gw := mq_9 (i := 4) rfl rfl
theorem qw763 : Cond.methodLink RX2 94 yX2_meetInBlock ∈ gw := mq_9 (i := 1) rfl rfl
theorem qw764 : Cond.instanceMethod yX2_meetInBlock ∈ gw := mq_9 (i := 3) rfl rfl
theorem qw765 : Cond.selects RX2 yX2_meetInBlock yX2_meetInBlock ∈ gw := mk_s (i := 76) rfl rfl
theorem qw766 : Cond.constantLong RJ13 314 (6148914691236517205) ∈ gw := mq_9 (i := 40) rfl rfl
theorem qw767 : Cond.constantLong RJ13 316 (3689348814741910323) ∈ gw := mq_9 (i := 41) rfl rfl
theorem qw768 : Cond.constantLong RJ13 318 (1085102592571150095) ∈ gw := mq_9 (i := 42) rfl rfl
theorem qw769 : Cond.code yJ13_bitCount_95d88 cJ13_bitCount_95d88 2 (Option.some Jvm.ClassFile.FieldType.int) ∈ gw := mq_9 (i := 39) rfl rfl
theorem qw770 : Cond.methodLink RX11 381 yJ13_bitCount_95d88 ∈ gw := mq_9 (i := 37) rfl rfl
theorem qw771 : Cond.static yJ13_bitCount_95d88 ∈ gw := mq_9 (i := 38) rfl rfl
theorem qw772 : Cond.initialized RJ13 ∈ gw := mq_1 (i := 34) rfl rfl
theorem qw773 : Cond.code yX11_lowest cX11_lowest 2 (Option.some Jvm.ClassFile.FieldType.int) ∈ gw := mq_9 (i := 36) rfl rfl
theorem qw774 : Cond.static yX11_lowest ∈ gw := mq_9 (i := 35) rfl rfl
theorem qw775 : Cond.code yX2_mirror cX2_mirror 5 (Option.none : Option Jvm.ClassFile.FieldType) ∈ gw := mq_9 (i := 33) rfl rfl
theorem qw776 : Cond.methodLink RX2 97 yX2_mirror ∈ gw := mq_9 (i := 30) rfl rfl
theorem qw777 : Cond.instanceMethod yX2_mirror ∈ gw := mq_9 (i := 32) rfl rfl
theorem qw778 : Cond.selects RX2 yX2_mirror yX2_mirror ∈ gw := mk_s (i := 77) rfl rfl
theorem qw779 : Cond.methodLink RX2 207 yJ13_bitCount_95d88 ∈ gw := mq_9 (i := 47) rfl rfl
theorem qw780 : Cond.code yX2_countDegrees cX2_countDegrees 5 (Option.none : Option Jvm.ClassFile.FieldType) ∈ gw := mq_9 (i := 46) rfl rfl
theorem qw781 : Cond.methodLink RX2 100 yX2_countDegrees ∈ gw := mq_9 (i := 43) rfl rfl
theorem qw782 : Cond.instanceMethod yX2_countDegrees ∈ gw := mq_9 (i := 45) rfl rfl
theorem qw783 : Cond.selects RX2 yX2_countDegrees yX2_countDegrees ∈ gw := mk_s (i := 78) rfl rfl
theorem qw795 : Cond.fieldLink RX0 183 "Gearbox$Steps" "next" "[I" ∈ gw := mq_1 (i := 193) rfl rfl
theorem qw798 : Cond.methodLink RX0 186 yX1_takeSteps ∈ gw := mq_9 (i := 63) rfl rfl
theorem qw799 : Cond.methodLink RX0 199 yX1_link ∈ gw := mq_9 (i := 66) rfl rfl
theorem qw800 : Cond.fieldLink RX0 196 "Gearbox$Steps" "right" "[I" ∈ gw := mq_1 (i := 186) rfl rfl
theorem qw801 : Cond.fieldLink RX0 202 "Gearbox$Flow" "endValue" "[I" ∈ gw := mq_2 (i := 14) rfl rfl
def fJ13_bitCount_95d88 (p0 : Int64) : Option Int32 := some (((((((((((p0 - ((((p0 : Int64).toUInt64 >>> ((1 : Int32).toInt64.toUInt64 &&& Int64.toUInt64 63)).toInt64) &&& (6148914691236517205 : Int64))) &&& (3689348814741910323 : Int64)) + (((((p0 - ((((p0 : Int64).toUInt64 >>> ((1 : Int32).toInt64.toUInt64 &&& Int64.toUInt64 63)).toInt64) &&& (6148914691236517205 : Int64))) : Int64).toUInt64 >>> ((2 : Int32).toInt64.toUInt64 &&& Int64.toUInt64 63)).toInt64) &&& (3689348814741910323 : Int64))) + ((((((p0 - ((((p0 : Int64).toUInt64 >>> ((1 : Int32).toInt64.toUInt64 &&& Int64.toUInt64 63)).toInt64) &&& (6148914691236517205 : Int64))) &&& (3689348814741910323 : Int64)) + (((((p0 - ((((p0 : Int64).toUInt64 >>> ((1 : Int32).toInt64.toUInt64 &&& Int64.toUInt64 63)).toInt64) &&& (6148914691236517205 : Int64))) : Int64).toUInt64 >>> ((2 : Int32).toInt64.toUInt64 &&& Int64.toUInt64 63)).toInt64) &&& (3689348814741910323 : Int64))) : Int64).toUInt64 >>> ((4 : Int32).toInt64.toUInt64 &&& Int64.toUInt64 63)).toInt64)) &&& (1085102592571150095 : Int64)) + ((((((((p0 - ((((p0 : Int64).toUInt64 >>> ((1 : Int32).toInt64.toUInt64 &&& Int64.toUInt64 63)).toInt64) &&& (6148914691236517205 : Int64))) &&& (3689348814741910323 : Int64)) + (((((p0 - ((((p0 : Int64).toUInt64 >>> ((1 : Int32).toInt64.toUInt64 &&& Int64.toUInt64 63)).toInt64) &&& (6148914691236517205 : Int64))) : Int64).toUInt64 >>> ((2 : Int32).toInt64.toUInt64 &&& Int64.toUInt64 63)).toInt64) &&& (3689348814741910323 : Int64))) + ((((((p0 - ((((p0 : Int64).toUInt64 >>> ((1 : Int32).toInt64.toUInt64 &&& Int64.toUInt64 63)).toInt64) &&& (6148914691236517205 : Int64))) &&& (3689348814741910323 : Int64)) + (((((p0 - ((((p0 : Int64).toUInt64 >>> ((1 : Int32).toInt64.toUInt64 &&& Int64.toUInt64 63)).toInt64) &&& (6148914691236517205 : Int64))) : Int64).toUInt64 >>> ((2 : Int32).toInt64.toUInt64 &&& Int64.toUInt64 63)).toInt64) &&& (3689348814741910323 : Int64))) : Int64).toUInt64 >>> ((4 : Int32).toInt64.toUInt64 &&& Int64.toUInt64 63)).toInt64)) &&& (1085102592571150095 : Int64)) : Int64).toUInt64 >>> ((8 : Int32).toInt64.toUInt64 &&& Int64.toUInt64 63)).toInt64)) + (((((((((p0 - ((((p0 : Int64).toUInt64 >>> ((1 : Int32).toInt64.toUInt64 &&& Int64.toUInt64 63)).toInt64) &&& (6148914691236517205 : Int64))) &&& (3689348814741910323 : Int64)) + (((((p0 - ((((p0 : Int64).toUInt64 >>> ((1 : Int32).toInt64.toUInt64 &&& Int64.toUInt64 63)).toInt64) &&& (6148914691236517205 : Int64))) : Int64).toUInt64 >>> ((2 : Int32).toInt64.toUInt64 &&& Int64.toUInt64 63)).toInt64) &&& (3689348814741910323 : Int64))) + ((((((p0 - ((((p0 : Int64).toUInt64 >>> ((1 : Int32).toInt64.toUInt64 &&& Int64.toUInt64 63)).toInt64) &&& (6148914691236517205 : Int64))) &&& (3689348814741910323 : Int64)) + (((((p0 - ((((p0 : Int64).toUInt64 >>> ((1 : Int32).toInt64.toUInt64 &&& Int64.toUInt64 63)).toInt64) &&& (6148914691236517205 : Int64))) : Int64).toUInt64 >>> ((2 : Int32).toInt64.toUInt64 &&& Int64.toUInt64 63)).toInt64) &&& (3689348814741910323 : Int64))) : Int64).toUInt64 >>> ((4 : Int32).toInt64.toUInt64 &&& Int64.toUInt64 63)).toInt64)) &&& (1085102592571150095 : Int64)) + ((((((((p0 - ((((p0 : Int64).toUInt64 >>> ((1 : Int32).toInt64.toUInt64 &&& Int64.toUInt64 63)).toInt64) &&& (6148914691236517205 : Int64))) &&& (3689348814741910323 : Int64)) + (((((p0 - ((((p0 : Int64).toUInt64 >>> ((1 : Int32).toInt64.toUInt64 &&& Int64.toUInt64 63)).toInt64) &&& (6148914691236517205 : Int64))) : Int64).toUInt64 >>> ((2 : Int32).toInt64.toUInt64 &&& Int64.toUInt64 63)).toInt64) &&& (3689348814741910323 : Int64))) + ((((((p0 - ((((p0 : Int64).toUInt64 >>> ((1 : Int32).toInt64.toUInt64 &&& Int64.toUInt64 63)).toInt64) &&& (6148914691236517205 : Int64))) &&& (3689348814741910323 : Int64)) + (((((p0 - ((((p0 : Int64).toUInt64 >>> ((1 : Int32).toInt64.toUInt64 &&& Int64.toUInt64 63)).toInt64) &&& (6148914691236517205 : Int64))) : Int64).toUInt64 >>> ((2 : Int32).toInt64.toUInt64 &&& Int64.toUInt64 63)).toInt64) &&& (3689348814741910323 : Int64))) : Int64).toUInt64 >>> ((4 : Int32).toInt64.toUInt64 &&& Int64.toUInt64 63)).toInt64)) &&& (1085102592571150095 : Int64)) : Int64).toUInt64 >>> ((8 : Int32).toInt64.toUInt64 &&& Int64.toUInt64 63)).toInt64)) : Int64).toUInt64 >>> ((16 : Int32).toInt64.toUInt64 &&& Int64.toUInt64 63)).toInt64)) + ((((((((((p0 - ((((p0 : Int64).toUInt64 >>> ((1 : Int32).toInt64.toUInt64 &&& Int64.toUInt64 63)).toInt64) &&& (6148914691236517205 : Int64))) &&& (3689348814741910323 : Int64)) + (((((p0 - ((((p0 : Int64).toUInt64 >>> ((1 : Int32).toInt64.toUInt64 &&& Int64.toUInt64 63)).toInt64) &&& (6148914691236517205 : Int64))) : Int64).toUInt64 >>> ((2 : Int32).toInt64.toUInt64 &&& Int64.toUInt64 63)).toInt64) &&& (3689348814741910323 : Int64))) + ((((((p0 - ((((p0 : Int64).toUInt64 >>> ((1 : Int32).toInt64.toUInt64 &&& Int64.toUInt64 63)).toInt64) &&& (6148914691236517205 : Int64))) &&& (3689348814741910323 : Int64)) + (((((p0 - ((((p0 : Int64).toUInt64 >>> ((1 : Int32).toInt64.toUInt64 &&& Int64.toUInt64 63)).toInt64) &&& (6148914691236517205 : Int64))) : Int64).toUInt64 >>> ((2 : Int32).toInt64.toUInt64 &&& Int64.toUInt64 63)).toInt64) &&& (3689348814741910323 : Int64))) : Int64).toUInt64 >>> ((4 : Int32).toInt64.toUInt64 &&& Int64.toUInt64 63)).toInt64)) &&& (1085102592571150095 : Int64)) + ((((((((p0 - ((((p0 : Int64).toUInt64 >>> ((1 : Int32).toInt64.toUInt64 &&& Int64.toUInt64 63)).toInt64) &&& (6148914691236517205 : Int64))) &&& (3689348814741910323 : Int64)) + (((((p0 - ((((p0 : Int64).toUInt64 >>> ((1 : Int32).toInt64.toUInt64 &&& Int64.toUInt64 63)).toInt64) &&& (6148914691236517205 : Int64))) : Int64).toUInt64 >>> ((2 : Int32).toInt64.toUInt64 &&& Int64.toUInt64 63)).toInt64) &&& (3689348814741910323 : Int64))) + ((((((p0 - ((((p0 : Int64).toUInt64 >>> ((1 : Int32).toInt64.toUInt64 &&& Int64.toUInt64 63)).toInt64) &&& (6148914691236517205 : Int64))) &&& (3689348814741910323 : Int64)) + (((((p0 - ((((p0 : Int64).toUInt64 >>> ((1 : Int32).toInt64.toUInt64 &&& Int64.toUInt64 63)).toInt64) &&& (6148914691236517205 : Int64))) : Int64).toUInt64 >>> ((2 : Int32).toInt64.toUInt64 &&& Int64.toUInt64 63)).toInt64) &&& (3689348814741910323 : Int64))) : Int64).toUInt64 >>> ((4 : Int32).toInt64.toUInt64 &&& Int64.toUInt64 63)).toInt64)) &&& (1085102592571150095 : Int64)) : Int64).toUInt64 >>> ((8 : Int32).toInt64.toUInt64 &&& Int64.toUInt64 63)).toInt64)) + (((((((((p0 - ((((p0 : Int64).toUInt64 >>> ((1 : Int32).toInt64.toUInt64 &&& Int64.toUInt64 63)).toInt64) &&& (6148914691236517205 : Int64))) &&& (3689348814741910323 : Int64)) + (((((p0 - ((((p0 : Int64).toUInt64 >>> ((1 : Int32).toInt64.toUInt64 &&& Int64.toUInt64 63)).toInt64) &&& (6148914691236517205 : Int64))) : Int64).toUInt64 >>> ((2 : Int32).toInt64.toUInt64 &&& Int64.toUInt64 63)).toInt64) &&& (3689348814741910323 : Int64))) + ((((((p0 - ((((p0 : Int64).toUInt64 >>> ((1 : Int32).toInt64.toUInt64 &&& Int64.toUInt64 63)).toInt64) &&& (6148914691236517205 : Int64))) &&& (3689348814741910323 : Int64)) + (((((p0 - ((((p0 : Int64).toUInt64 >>> ((1 : Int32).toInt64.toUInt64 &&& Int64.toUInt64 63)).toInt64) &&& (6148914691236517205 : Int64))) : Int64).toUInt64 >>> ((2 : Int32).toInt64.toUInt64 &&& Int64.toUInt64 63)).toInt64) &&& (3689348814741910323 : Int64))) : Int64).toUInt64 >>> ((4 : Int32).toInt64.toUInt64 &&& Int64.toUInt64 63)).toInt64)) &&& (1085102592571150095 : Int64)) + ((((((((p0 - ((((p0 : Int64).toUInt64 >>> ((1 : Int32).toInt64.toUInt64 &&& Int64.toUInt64 63)).toInt64) &&& (6148914691236517205 : Int64))) &&& (3689348814741910323 : Int64)) + (((((p0 - ((((p0 : Int64).toUInt64 >>> ((1 : Int32).toInt64.toUInt64 &&& Int64.toUInt64 63)).toInt64) &&& (6148914691236517205 : Int64))) : Int64).toUInt64 >>> ((2 : Int32).toInt64.toUInt64 &&& Int64.toUInt64 63)).toInt64) &&& (3689348814741910323 : Int64))) + ((((((p0 - ((((p0 : Int64).toUInt64 >>> ((1 : Int32).toInt64.toUInt64 &&& Int64.toUInt64 63)).toInt64) &&& (6148914691236517205 : Int64))) &&& (3689348814741910323 : Int64)) + (((((p0 - ((((p0 : Int64).toUInt64 >>> ((1 : Int32).toInt64.toUInt64 &&& Int64.toUInt64 63)).toInt64) &&& (6148914691236517205 : Int64))) : Int64).toUInt64 >>> ((2 : Int32).toInt64.toUInt64 &&& Int64.toUInt64 63)).toInt64) &&& (3689348814741910323 : Int64))) : Int64).toUInt64 >>> ((4 : Int32).toInt64.toUInt64 &&& Int64.toUInt64 63)).toInt64)) &&& (1085102592571150095 : Int64)) : Int64).toUInt64 >>> ((8 : Int32).toInt64.toUInt64 &&& Int64.toUInt64 63)).toInt64)) : Int64).toUInt64 >>> ((16 : Int32).toInt64.toUInt64 &&& Int64.toUInt64 63)).toInt64)) : Int64).toUInt64 >>> ((32 : Int32).toInt64.toUInt64 &&& Int64.toUInt64 63)).toInt64)) : Int64).toInt32) &&& 127)
set_option maxHeartbeats 16000000 in
set_option maxRecDepth 100000 in
theorem kJ13_bitCount_95d88 {zs : Nat × Nat} (l : Launch) (dC : Nat → ClassId) (dI : Nat → Nat → Nat) (p0 : Int64) (sz : Nat) (o : Int32) (hrun : fJ13_bitCount_95d88 p0 = some o) : Met l yJ13_bitCount_95d88 (wz yJ13_bitCount_95d88 cJ13_bitCount_95d88 2 (Option.some Jvm.ClassFile.FieldType.int)) ({ frames := 0, cells := 0, slots := 0, locals := 0 } : Room) (va_Pc [.long p0] (PRE zs dC dI ([] : va_W) ([] : List (ClassId × FieldType)) sz)) (va_Qi (fun (r : Int32) (_ : Unit) => r = o) (fun _ t => POST dC dI ([] : va_W) ([] : List (ClassId × FieldType)) (va_A ([] : va_W) sz) t) (va_A ([] : va_W) sz)) 0 0 (va_A ([] : va_W) sz) := by
  refine Met.ofW (cc := cJ13_bitCount_95d88) (maxL := 2) (ret := (Option.some Jvm.ClassFile.FieldType.int)) (by decide) rfl ?_
  intro p e s m args below meth c s₁ B hml hv
  obtain ⟨rfl, hsz, hP, hK, hD0, hE⟩ := hv
  have hx := B.exec
  have hb := B.bytes
  have hr := B.returns
  have hts0 := atoms_spec (ws := wz yJ13_bitCount_95d88 cJ13_bitCount_95d88 2 (Option.some Jvm.ClassFile.FieldType.int)) B.pre
  have hts : ∀ w ∈ gw, w.before _ s = true := fun w h => hts0 w (List.mem_cons_of_mem _ h)
  have hown : s.vm.findClass RJ13 = some m.cls := findClass_of_methodNamed B.named
  have hlocks := B.notSynchronized
  subst hsz
  have hD := hD0.self (sz := s.heap.size)
  refine gQ9 ?_
  intro Q hQ
  generalize hAe : va_A ([] : va_W) s.heap.size = A at hD hE hQ
  have hA : ∀ q : Nat, s.heap.size ≤ q → A q := fun q h => by rw [← hAe]; exact Or.inr h
  have hS : va_S A s.heap s.heap [] := va_S.rf
  have hP : va_P (dC, dI) cls ([] : va_W) s.heap := hP
  have hl := lv_entry ([.long p0]) (n := 2) (Nat.le_of_ble_eq_true rfl)
  rw [lg_entry_eq]
  generalize (lg_sl ([.long p0]) ++ List.replicate (2 - (lg_sl ([.long p0])).length) Slot.unset).toArray = ls at hl ⊢
  have hl : lv_has ls 2 [(0, .long p0)] := hl
  obtain ⟨H, hHe⟩ : ∃ H, H = s.heap := ⟨_, rfl⟩
  obtain ⟨locs, hle⟩ : ∃ locs : List Loc, locs = [] := ⟨_, rfl⟩
  rw [← hHe] at hP
  have hS : va_S A s.heap H locs := by rw [hHe, hle]; exact hS
  show W p l e ({ frames := 0, cells := 0, slots := 0, locals := 0 } : Room) s m ([.long p0] : List Value).toArray below meth c s.heap [] 0 0 Q (F0 m 0 ls [])
  rw [← hle]
  refine wH9 hHe ?_
  unfold fJ13_bitCount_95d88 at hrun
  refine lv_lload_n hx hb dJ13_bitCount_95d88_0 rfl (lv_at hl 0 rfl) ?_
  refine lv_lload_n hx hb dJ13_bitCount_95d88_1 rfl (lv_at hl 0 rfl) ?_
  refine lv_iconst (v := 1) hx hb dJ13_bitCount_95d88_2 (by decide) ?_
  refine lv_lushr (v := (((p0 : Int64).toUInt64 >>> ((1 : Int32).toInt64.toUInt64 &&& Int64.toUInt64 63)).toInt64)) hx hb dJ13_bitCount_95d88_3 rfl ?_
  refine lv_ldc2 (v := 6148914691236517205) hx hb hown (hts _ qw766) dJ13_bitCount_95d88_4 ?_
  refine lv_land hx hb dJ13_bitCount_95d88_7 ?_
  refine lv_lsub hx hb dJ13_bitCount_95d88_8 ?_
  refine lv_lstore_n (lv' := [(0, .long (p0 - ((((p0 : Int64).toUInt64 >>> ((1 : Int32).toInt64.toUInt64 &&& Int64.toUInt64 63)).toInt64) &&& (6148914691236517205 : Int64))))]) hx hb dJ13_bitCount_95d88_9 rfl hl (by decide) rfl (fun ls hl => ?_)
  refine lv_lload_n hx hb dJ13_bitCount_95d88_10 rfl (lv_at hl 0 rfl) ?_
  refine lv_ldc2 (v := 3689348814741910323) hx hb hown (hts _ qw767) dJ13_bitCount_95d88_11 ?_
  refine lv_land hx hb dJ13_bitCount_95d88_14 ?_
  refine lv_lload_n hx hb dJ13_bitCount_95d88_15 rfl (lv_at hl 0 rfl) ?_
  refine lv_iconst (v := 2) hx hb dJ13_bitCount_95d88_16 (by decide) ?_
  refine lv_lushr (v := ((((p0 - ((((p0 : Int64).toUInt64 >>> ((1 : Int32).toInt64.toUInt64 &&& Int64.toUInt64 63)).toInt64) &&& (6148914691236517205 : Int64))) : Int64).toUInt64 >>> ((2 : Int32).toInt64.toUInt64 &&& Int64.toUInt64 63)).toInt64)) hx hb dJ13_bitCount_95d88_17 rfl ?_
  refine lv_ldc2 (v := 3689348814741910323) hx hb hown (hts _ qw767) dJ13_bitCount_95d88_18 ?_
  refine lv_land hx hb dJ13_bitCount_95d88_21 ?_
  refine lv_ladd hx hb dJ13_bitCount_95d88_22 ?_
  refine lv_lstore_n (lv' := [(0, .long (((p0 - ((((p0 : Int64).toUInt64 >>> ((1 : Int32).toInt64.toUInt64 &&& Int64.toUInt64 63)).toInt64) &&& (6148914691236517205 : Int64))) &&& (3689348814741910323 : Int64)) + (((((p0 - ((((p0 : Int64).toUInt64 >>> ((1 : Int32).toInt64.toUInt64 &&& Int64.toUInt64 63)).toInt64) &&& (6148914691236517205 : Int64))) : Int64).toUInt64 >>> ((2 : Int32).toInt64.toUInt64 &&& Int64.toUInt64 63)).toInt64) &&& (3689348814741910323 : Int64))))]) hx hb dJ13_bitCount_95d88_23 rfl hl (by decide) rfl (fun ls hl => ?_)
  refine lv_lload_n hx hb dJ13_bitCount_95d88_24 rfl (lv_at hl 0 rfl) ?_
  refine lv_lload_n hx hb dJ13_bitCount_95d88_25 rfl (lv_at hl 0 rfl) ?_
  refine lv_iconst (v := 4) hx hb dJ13_bitCount_95d88_26 (by decide) ?_
  refine lv_lushr (v := ((((((p0 - ((((p0 : Int64).toUInt64 >>> ((1 : Int32).toInt64.toUInt64 &&& Int64.toUInt64 63)).toInt64) &&& (6148914691236517205 : Int64))) &&& (3689348814741910323 : Int64)) + (((((p0 - ((((p0 : Int64).toUInt64 >>> ((1 : Int32).toInt64.toUInt64 &&& Int64.toUInt64 63)).toInt64) &&& (6148914691236517205 : Int64))) : Int64).toUInt64 >>> ((2 : Int32).toInt64.toUInt64 &&& Int64.toUInt64 63)).toInt64) &&& (3689348814741910323 : Int64))) : Int64).toUInt64 >>> ((4 : Int32).toInt64.toUInt64 &&& Int64.toUInt64 63)).toInt64)) hx hb dJ13_bitCount_95d88_27 rfl ?_
  refine lv_ladd hx hb dJ13_bitCount_95d88_28 ?_
  refine lv_ldc2 (v := 1085102592571150095) hx hb hown (hts _ qw768) dJ13_bitCount_95d88_29 ?_
  refine lv_land hx hb dJ13_bitCount_95d88_32 ?_
  refine lv_lstore_n (lv' := [(0, .long (((((p0 - ((((p0 : Int64).toUInt64 >>> ((1 : Int32).toInt64.toUInt64 &&& Int64.toUInt64 63)).toInt64) &&& (6148914691236517205 : Int64))) &&& (3689348814741910323 : Int64)) + (((((p0 - ((((p0 : Int64).toUInt64 >>> ((1 : Int32).toInt64.toUInt64 &&& Int64.toUInt64 63)).toInt64) &&& (6148914691236517205 : Int64))) : Int64).toUInt64 >>> ((2 : Int32).toInt64.toUInt64 &&& Int64.toUInt64 63)).toInt64) &&& (3689348814741910323 : Int64))) + ((((((p0 - ((((p0 : Int64).toUInt64 >>> ((1 : Int32).toInt64.toUInt64 &&& Int64.toUInt64 63)).toInt64) &&& (6148914691236517205 : Int64))) &&& (3689348814741910323 : Int64)) + (((((p0 - ((((p0 : Int64).toUInt64 >>> ((1 : Int32).toInt64.toUInt64 &&& Int64.toUInt64 63)).toInt64) &&& (6148914691236517205 : Int64))) : Int64).toUInt64 >>> ((2 : Int32).toInt64.toUInt64 &&& Int64.toUInt64 63)).toInt64) &&& (3689348814741910323 : Int64))) : Int64).toUInt64 >>> ((4 : Int32).toInt64.toUInt64 &&& Int64.toUInt64 63)).toInt64)) &&& (1085102592571150095 : Int64)))]) hx hb dJ13_bitCount_95d88_33 rfl hl (by decide) rfl (fun ls hl => ?_)
  refine lv_lload_n hx hb dJ13_bitCount_95d88_34 rfl (lv_at hl 0 rfl) ?_
  refine lv_lload_n hx hb dJ13_bitCount_95d88_35 rfl (lv_at hl 0 rfl) ?_
  refine lv_bipush (v := 8) hx hb dJ13_bitCount_95d88_36 (by decide) ?_
  refine lv_lushr (v := ((((((((p0 - ((((p0 : Int64).toUInt64 >>> ((1 : Int32).toInt64.toUInt64 &&& Int64.toUInt64 63)).toInt64) &&& (6148914691236517205 : Int64))) &&& (3689348814741910323 : Int64)) + (((((p0 - ((((p0 : Int64).toUInt64 >>> ((1 : Int32).toInt64.toUInt64 &&& Int64.toUInt64 63)).toInt64) &&& (6148914691236517205 : Int64))) : Int64).toUInt64 >>> ((2 : Int32).toInt64.toUInt64 &&& Int64.toUInt64 63)).toInt64) &&& (3689348814741910323 : Int64))) + ((((((p0 - ((((p0 : Int64).toUInt64 >>> ((1 : Int32).toInt64.toUInt64 &&& Int64.toUInt64 63)).toInt64) &&& (6148914691236517205 : Int64))) &&& (3689348814741910323 : Int64)) + (((((p0 - ((((p0 : Int64).toUInt64 >>> ((1 : Int32).toInt64.toUInt64 &&& Int64.toUInt64 63)).toInt64) &&& (6148914691236517205 : Int64))) : Int64).toUInt64 >>> ((2 : Int32).toInt64.toUInt64 &&& Int64.toUInt64 63)).toInt64) &&& (3689348814741910323 : Int64))) : Int64).toUInt64 >>> ((4 : Int32).toInt64.toUInt64 &&& Int64.toUInt64 63)).toInt64)) &&& (1085102592571150095 : Int64)) : Int64).toUInt64 >>> ((8 : Int32).toInt64.toUInt64 &&& Int64.toUInt64 63)).toInt64)) hx hb dJ13_bitCount_95d88_38 rfl ?_
  refine lv_ladd hx hb dJ13_bitCount_95d88_39 ?_
  refine lv_lstore_n (lv' := [(0, .long ((((((p0 - ((((p0 : Int64).toUInt64 >>> ((1 : Int32).toInt64.toUInt64 &&& Int64.toUInt64 63)).toInt64) &&& (6148914691236517205 : Int64))) &&& (3689348814741910323 : Int64)) + (((((p0 - ((((p0 : Int64).toUInt64 >>> ((1 : Int32).toInt64.toUInt64 &&& Int64.toUInt64 63)).toInt64) &&& (6148914691236517205 : Int64))) : Int64).toUInt64 >>> ((2 : Int32).toInt64.toUInt64 &&& Int64.toUInt64 63)).toInt64) &&& (3689348814741910323 : Int64))) + ((((((p0 - ((((p0 : Int64).toUInt64 >>> ((1 : Int32).toInt64.toUInt64 &&& Int64.toUInt64 63)).toInt64) &&& (6148914691236517205 : Int64))) &&& (3689348814741910323 : Int64)) + (((((p0 - ((((p0 : Int64).toUInt64 >>> ((1 : Int32).toInt64.toUInt64 &&& Int64.toUInt64 63)).toInt64) &&& (6148914691236517205 : Int64))) : Int64).toUInt64 >>> ((2 : Int32).toInt64.toUInt64 &&& Int64.toUInt64 63)).toInt64) &&& (3689348814741910323 : Int64))) : Int64).toUInt64 >>> ((4 : Int32).toInt64.toUInt64 &&& Int64.toUInt64 63)).toInt64)) &&& (1085102592571150095 : Int64)) + ((((((((p0 - ((((p0 : Int64).toUInt64 >>> ((1 : Int32).toInt64.toUInt64 &&& Int64.toUInt64 63)).toInt64) &&& (6148914691236517205 : Int64))) &&& (3689348814741910323 : Int64)) + (((((p0 - ((((p0 : Int64).toUInt64 >>> ((1 : Int32).toInt64.toUInt64 &&& Int64.toUInt64 63)).toInt64) &&& (6148914691236517205 : Int64))) : Int64).toUInt64 >>> ((2 : Int32).toInt64.toUInt64 &&& Int64.toUInt64 63)).toInt64) &&& (3689348814741910323 : Int64))) + ((((((p0 - ((((p0 : Int64).toUInt64 >>> ((1 : Int32).toInt64.toUInt64 &&& Int64.toUInt64 63)).toInt64) &&& (6148914691236517205 : Int64))) &&& (3689348814741910323 : Int64)) + (((((p0 - ((((p0 : Int64).toUInt64 >>> ((1 : Int32).toInt64.toUInt64 &&& Int64.toUInt64 63)).toInt64) &&& (6148914691236517205 : Int64))) : Int64).toUInt64 >>> ((2 : Int32).toInt64.toUInt64 &&& Int64.toUInt64 63)).toInt64) &&& (3689348814741910323 : Int64))) : Int64).toUInt64 >>> ((4 : Int32).toInt64.toUInt64 &&& Int64.toUInt64 63)).toInt64)) &&& (1085102592571150095 : Int64)) : Int64).toUInt64 >>> ((8 : Int32).toInt64.toUInt64 &&& Int64.toUInt64 63)).toInt64)))]) hx hb dJ13_bitCount_95d88_40 rfl hl (by decide) rfl (fun ls hl => ?_)
  refine lv_lload_n hx hb dJ13_bitCount_95d88_41 rfl (lv_at hl 0 rfl) ?_
  refine lv_lload_n hx hb dJ13_bitCount_95d88_42 rfl (lv_at hl 0 rfl) ?_
  refine lv_bipush (v := 16) hx hb dJ13_bitCount_95d88_43 (by decide) ?_
  refine lv_lushr (v := (((((((((p0 - ((((p0 : Int64).toUInt64 >>> ((1 : Int32).toInt64.toUInt64 &&& Int64.toUInt64 63)).toInt64) &&& (6148914691236517205 : Int64))) &&& (3689348814741910323 : Int64)) + (((((p0 - ((((p0 : Int64).toUInt64 >>> ((1 : Int32).toInt64.toUInt64 &&& Int64.toUInt64 63)).toInt64) &&& (6148914691236517205 : Int64))) : Int64).toUInt64 >>> ((2 : Int32).toInt64.toUInt64 &&& Int64.toUInt64 63)).toInt64) &&& (3689348814741910323 : Int64))) + ((((((p0 - ((((p0 : Int64).toUInt64 >>> ((1 : Int32).toInt64.toUInt64 &&& Int64.toUInt64 63)).toInt64) &&& (6148914691236517205 : Int64))) &&& (3689348814741910323 : Int64)) + (((((p0 - ((((p0 : Int64).toUInt64 >>> ((1 : Int32).toInt64.toUInt64 &&& Int64.toUInt64 63)).toInt64) &&& (6148914691236517205 : Int64))) : Int64).toUInt64 >>> ((2 : Int32).toInt64.toUInt64 &&& Int64.toUInt64 63)).toInt64) &&& (3689348814741910323 : Int64))) : Int64).toUInt64 >>> ((4 : Int32).toInt64.toUInt64 &&& Int64.toUInt64 63)).toInt64)) &&& (1085102592571150095 : Int64)) + ((((((((p0 - ((((p0 : Int64).toUInt64 >>> ((1 : Int32).toInt64.toUInt64 &&& Int64.toUInt64 63)).toInt64) &&& (6148914691236517205 : Int64))) &&& (3689348814741910323 : Int64)) + (((((p0 - ((((p0 : Int64).toUInt64 >>> ((1 : Int32).toInt64.toUInt64 &&& Int64.toUInt64 63)).toInt64) &&& (6148914691236517205 : Int64))) : Int64).toUInt64 >>> ((2 : Int32).toInt64.toUInt64 &&& Int64.toUInt64 63)).toInt64) &&& (3689348814741910323 : Int64))) + ((((((p0 - ((((p0 : Int64).toUInt64 >>> ((1 : Int32).toInt64.toUInt64 &&& Int64.toUInt64 63)).toInt64) &&& (6148914691236517205 : Int64))) &&& (3689348814741910323 : Int64)) + (((((p0 - ((((p0 : Int64).toUInt64 >>> ((1 : Int32).toInt64.toUInt64 &&& Int64.toUInt64 63)).toInt64) &&& (6148914691236517205 : Int64))) : Int64).toUInt64 >>> ((2 : Int32).toInt64.toUInt64 &&& Int64.toUInt64 63)).toInt64) &&& (3689348814741910323 : Int64))) : Int64).toUInt64 >>> ((4 : Int32).toInt64.toUInt64 &&& Int64.toUInt64 63)).toInt64)) &&& (1085102592571150095 : Int64)) : Int64).toUInt64 >>> ((8 : Int32).toInt64.toUInt64 &&& Int64.toUInt64 63)).toInt64)) : Int64).toUInt64 >>> ((16 : Int32).toInt64.toUInt64 &&& Int64.toUInt64 63)).toInt64)) hx hb dJ13_bitCount_95d88_45 rfl ?_
  refine lv_ladd hx hb dJ13_bitCount_95d88_46 ?_
  refine lv_lstore_n (lv' := [(0, .long (((((((p0 - ((((p0 : Int64).toUInt64 >>> ((1 : Int32).toInt64.toUInt64 &&& Int64.toUInt64 63)).toInt64) &&& (6148914691236517205 : Int64))) &&& (3689348814741910323 : Int64)) + (((((p0 - ((((p0 : Int64).toUInt64 >>> ((1 : Int32).toInt64.toUInt64 &&& Int64.toUInt64 63)).toInt64) &&& (6148914691236517205 : Int64))) : Int64).toUInt64 >>> ((2 : Int32).toInt64.toUInt64 &&& Int64.toUInt64 63)).toInt64) &&& (3689348814741910323 : Int64))) + ((((((p0 - ((((p0 : Int64).toUInt64 >>> ((1 : Int32).toInt64.toUInt64 &&& Int64.toUInt64 63)).toInt64) &&& (6148914691236517205 : Int64))) &&& (3689348814741910323 : Int64)) + (((((p0 - ((((p0 : Int64).toUInt64 >>> ((1 : Int32).toInt64.toUInt64 &&& Int64.toUInt64 63)).toInt64) &&& (6148914691236517205 : Int64))) : Int64).toUInt64 >>> ((2 : Int32).toInt64.toUInt64 &&& Int64.toUInt64 63)).toInt64) &&& (3689348814741910323 : Int64))) : Int64).toUInt64 >>> ((4 : Int32).toInt64.toUInt64 &&& Int64.toUInt64 63)).toInt64)) &&& (1085102592571150095 : Int64)) + ((((((((p0 - ((((p0 : Int64).toUInt64 >>> ((1 : Int32).toInt64.toUInt64 &&& Int64.toUInt64 63)).toInt64) &&& (6148914691236517205 : Int64))) &&& (3689348814741910323 : Int64)) + (((((p0 - ((((p0 : Int64).toUInt64 >>> ((1 : Int32).toInt64.toUInt64 &&& Int64.toUInt64 63)).toInt64) &&& (6148914691236517205 : Int64))) : Int64).toUInt64 >>> ((2 : Int32).toInt64.toUInt64 &&& Int64.toUInt64 63)).toInt64) &&& (3689348814741910323 : Int64))) + ((((((p0 - ((((p0 : Int64).toUInt64 >>> ((1 : Int32).toInt64.toUInt64 &&& Int64.toUInt64 63)).toInt64) &&& (6148914691236517205 : Int64))) &&& (3689348814741910323 : Int64)) + (((((p0 - ((((p0 : Int64).toUInt64 >>> ((1 : Int32).toInt64.toUInt64 &&& Int64.toUInt64 63)).toInt64) &&& (6148914691236517205 : Int64))) : Int64).toUInt64 >>> ((2 : Int32).toInt64.toUInt64 &&& Int64.toUInt64 63)).toInt64) &&& (3689348814741910323 : Int64))) : Int64).toUInt64 >>> ((4 : Int32).toInt64.toUInt64 &&& Int64.toUInt64 63)).toInt64)) &&& (1085102592571150095 : Int64)) : Int64).toUInt64 >>> ((8 : Int32).toInt64.toUInt64 &&& Int64.toUInt64 63)).toInt64)) + (((((((((p0 - ((((p0 : Int64).toUInt64 >>> ((1 : Int32).toInt64.toUInt64 &&& Int64.toUInt64 63)).toInt64) &&& (6148914691236517205 : Int64))) &&& (3689348814741910323 : Int64)) + (((((p0 - ((((p0 : Int64).toUInt64 >>> ((1 : Int32).toInt64.toUInt64 &&& Int64.toUInt64 63)).toInt64) &&& (6148914691236517205 : Int64))) : Int64).toUInt64 >>> ((2 : Int32).toInt64.toUInt64 &&& Int64.toUInt64 63)).toInt64) &&& (3689348814741910323 : Int64))) + ((((((p0 - ((((p0 : Int64).toUInt64 >>> ((1 : Int32).toInt64.toUInt64 &&& Int64.toUInt64 63)).toInt64) &&& (6148914691236517205 : Int64))) &&& (3689348814741910323 : Int64)) + (((((p0 - ((((p0 : Int64).toUInt64 >>> ((1 : Int32).toInt64.toUInt64 &&& Int64.toUInt64 63)).toInt64) &&& (6148914691236517205 : Int64))) : Int64).toUInt64 >>> ((2 : Int32).toInt64.toUInt64 &&& Int64.toUInt64 63)).toInt64) &&& (3689348814741910323 : Int64))) : Int64).toUInt64 >>> ((4 : Int32).toInt64.toUInt64 &&& Int64.toUInt64 63)).toInt64)) &&& (1085102592571150095 : Int64)) + ((((((((p0 - ((((p0 : Int64).toUInt64 >>> ((1 : Int32).toInt64.toUInt64 &&& Int64.toUInt64 63)).toInt64) &&& (6148914691236517205 : Int64))) &&& (3689348814741910323 : Int64)) + (((((p0 - ((((p0 : Int64).toUInt64 >>> ((1 : Int32).toInt64.toUInt64 &&& Int64.toUInt64 63)).toInt64) &&& (6148914691236517205 : Int64))) : Int64).toUInt64 >>> ((2 : Int32).toInt64.toUInt64 &&& Int64.toUInt64 63)).toInt64) &&& (3689348814741910323 : Int64))) + ((((((p0 - ((((p0 : Int64).toUInt64 >>> ((1 : Int32).toInt64.toUInt64 &&& Int64.toUInt64 63)).toInt64) &&& (6148914691236517205 : Int64))) &&& (3689348814741910323 : Int64)) + (((((p0 - ((((p0 : Int64).toUInt64 >>> ((1 : Int32).toInt64.toUInt64 &&& Int64.toUInt64 63)).toInt64) &&& (6148914691236517205 : Int64))) : Int64).toUInt64 >>> ((2 : Int32).toInt64.toUInt64 &&& Int64.toUInt64 63)).toInt64) &&& (3689348814741910323 : Int64))) : Int64).toUInt64 >>> ((4 : Int32).toInt64.toUInt64 &&& Int64.toUInt64 63)).toInt64)) &&& (1085102592571150095 : Int64)) : Int64).toUInt64 >>> ((8 : Int32).toInt64.toUInt64 &&& Int64.toUInt64 63)).toInt64)) : Int64).toUInt64 >>> ((16 : Int32).toInt64.toUInt64 &&& Int64.toUInt64 63)).toInt64)))]) hx hb dJ13_bitCount_95d88_47 rfl hl (by decide) rfl (fun ls hl => ?_)
  refine lv_lload_n hx hb dJ13_bitCount_95d88_48 rfl (lv_at hl 0 rfl) ?_
  refine lv_lload_n hx hb dJ13_bitCount_95d88_49 rfl (lv_at hl 0 rfl) ?_
  refine lv_bipush (v := 32) hx hb dJ13_bitCount_95d88_50 (by decide) ?_
  refine lv_lushr (v := ((((((((((p0 - ((((p0 : Int64).toUInt64 >>> ((1 : Int32).toInt64.toUInt64 &&& Int64.toUInt64 63)).toInt64) &&& (6148914691236517205 : Int64))) &&& (3689348814741910323 : Int64)) + (((((p0 - ((((p0 : Int64).toUInt64 >>> ((1 : Int32).toInt64.toUInt64 &&& Int64.toUInt64 63)).toInt64) &&& (6148914691236517205 : Int64))) : Int64).toUInt64 >>> ((2 : Int32).toInt64.toUInt64 &&& Int64.toUInt64 63)).toInt64) &&& (3689348814741910323 : Int64))) + ((((((p0 - ((((p0 : Int64).toUInt64 >>> ((1 : Int32).toInt64.toUInt64 &&& Int64.toUInt64 63)).toInt64) &&& (6148914691236517205 : Int64))) &&& (3689348814741910323 : Int64)) + (((((p0 - ((((p0 : Int64).toUInt64 >>> ((1 : Int32).toInt64.toUInt64 &&& Int64.toUInt64 63)).toInt64) &&& (6148914691236517205 : Int64))) : Int64).toUInt64 >>> ((2 : Int32).toInt64.toUInt64 &&& Int64.toUInt64 63)).toInt64) &&& (3689348814741910323 : Int64))) : Int64).toUInt64 >>> ((4 : Int32).toInt64.toUInt64 &&& Int64.toUInt64 63)).toInt64)) &&& (1085102592571150095 : Int64)) + ((((((((p0 - ((((p0 : Int64).toUInt64 >>> ((1 : Int32).toInt64.toUInt64 &&& Int64.toUInt64 63)).toInt64) &&& (6148914691236517205 : Int64))) &&& (3689348814741910323 : Int64)) + (((((p0 - ((((p0 : Int64).toUInt64 >>> ((1 : Int32).toInt64.toUInt64 &&& Int64.toUInt64 63)).toInt64) &&& (6148914691236517205 : Int64))) : Int64).toUInt64 >>> ((2 : Int32).toInt64.toUInt64 &&& Int64.toUInt64 63)).toInt64) &&& (3689348814741910323 : Int64))) + ((((((p0 - ((((p0 : Int64).toUInt64 >>> ((1 : Int32).toInt64.toUInt64 &&& Int64.toUInt64 63)).toInt64) &&& (6148914691236517205 : Int64))) &&& (3689348814741910323 : Int64)) + (((((p0 - ((((p0 : Int64).toUInt64 >>> ((1 : Int32).toInt64.toUInt64 &&& Int64.toUInt64 63)).toInt64) &&& (6148914691236517205 : Int64))) : Int64).toUInt64 >>> ((2 : Int32).toInt64.toUInt64 &&& Int64.toUInt64 63)).toInt64) &&& (3689348814741910323 : Int64))) : Int64).toUInt64 >>> ((4 : Int32).toInt64.toUInt64 &&& Int64.toUInt64 63)).toInt64)) &&& (1085102592571150095 : Int64)) : Int64).toUInt64 >>> ((8 : Int32).toInt64.toUInt64 &&& Int64.toUInt64 63)).toInt64)) + (((((((((p0 - ((((p0 : Int64).toUInt64 >>> ((1 : Int32).toInt64.toUInt64 &&& Int64.toUInt64 63)).toInt64) &&& (6148914691236517205 : Int64))) &&& (3689348814741910323 : Int64)) + (((((p0 - ((((p0 : Int64).toUInt64 >>> ((1 : Int32).toInt64.toUInt64 &&& Int64.toUInt64 63)).toInt64) &&& (6148914691236517205 : Int64))) : Int64).toUInt64 >>> ((2 : Int32).toInt64.toUInt64 &&& Int64.toUInt64 63)).toInt64) &&& (3689348814741910323 : Int64))) + ((((((p0 - ((((p0 : Int64).toUInt64 >>> ((1 : Int32).toInt64.toUInt64 &&& Int64.toUInt64 63)).toInt64) &&& (6148914691236517205 : Int64))) &&& (3689348814741910323 : Int64)) + (((((p0 - ((((p0 : Int64).toUInt64 >>> ((1 : Int32).toInt64.toUInt64 &&& Int64.toUInt64 63)).toInt64) &&& (6148914691236517205 : Int64))) : Int64).toUInt64 >>> ((2 : Int32).toInt64.toUInt64 &&& Int64.toUInt64 63)).toInt64) &&& (3689348814741910323 : Int64))) : Int64).toUInt64 >>> ((4 : Int32).toInt64.toUInt64 &&& Int64.toUInt64 63)).toInt64)) &&& (1085102592571150095 : Int64)) + ((((((((p0 - ((((p0 : Int64).toUInt64 >>> ((1 : Int32).toInt64.toUInt64 &&& Int64.toUInt64 63)).toInt64) &&& (6148914691236517205 : Int64))) &&& (3689348814741910323 : Int64)) + (((((p0 - ((((p0 : Int64).toUInt64 >>> ((1 : Int32).toInt64.toUInt64 &&& Int64.toUInt64 63)).toInt64) &&& (6148914691236517205 : Int64))) : Int64).toUInt64 >>> ((2 : Int32).toInt64.toUInt64 &&& Int64.toUInt64 63)).toInt64) &&& (3689348814741910323 : Int64))) + ((((((p0 - ((((p0 : Int64).toUInt64 >>> ((1 : Int32).toInt64.toUInt64 &&& Int64.toUInt64 63)).toInt64) &&& (6148914691236517205 : Int64))) &&& (3689348814741910323 : Int64)) + (((((p0 - ((((p0 : Int64).toUInt64 >>> ((1 : Int32).toInt64.toUInt64 &&& Int64.toUInt64 63)).toInt64) &&& (6148914691236517205 : Int64))) : Int64).toUInt64 >>> ((2 : Int32).toInt64.toUInt64 &&& Int64.toUInt64 63)).toInt64) &&& (3689348814741910323 : Int64))) : Int64).toUInt64 >>> ((4 : Int32).toInt64.toUInt64 &&& Int64.toUInt64 63)).toInt64)) &&& (1085102592571150095 : Int64)) : Int64).toUInt64 >>> ((8 : Int32).toInt64.toUInt64 &&& Int64.toUInt64 63)).toInt64)) : Int64).toUInt64 >>> ((16 : Int32).toInt64.toUInt64 &&& Int64.toUInt64 63)).toInt64)) : Int64).toUInt64 >>> ((32 : Int32).toInt64.toUInt64 &&& Int64.toUInt64 63)).toInt64)) hx hb dJ13_bitCount_95d88_52 rfl ?_
  refine lv_ladd hx hb dJ13_bitCount_95d88_53 ?_
  refine lv_lstore_n (lv' := [(0, .long ((((((((p0 - ((((p0 : Int64).toUInt64 >>> ((1 : Int32).toInt64.toUInt64 &&& Int64.toUInt64 63)).toInt64) &&& (6148914691236517205 : Int64))) &&& (3689348814741910323 : Int64)) + (((((p0 - ((((p0 : Int64).toUInt64 >>> ((1 : Int32).toInt64.toUInt64 &&& Int64.toUInt64 63)).toInt64) &&& (6148914691236517205 : Int64))) : Int64).toUInt64 >>> ((2 : Int32).toInt64.toUInt64 &&& Int64.toUInt64 63)).toInt64) &&& (3689348814741910323 : Int64))) + ((((((p0 - ((((p0 : Int64).toUInt64 >>> ((1 : Int32).toInt64.toUInt64 &&& Int64.toUInt64 63)).toInt64) &&& (6148914691236517205 : Int64))) &&& (3689348814741910323 : Int64)) + (((((p0 - ((((p0 : Int64).toUInt64 >>> ((1 : Int32).toInt64.toUInt64 &&& Int64.toUInt64 63)).toInt64) &&& (6148914691236517205 : Int64))) : Int64).toUInt64 >>> ((2 : Int32).toInt64.toUInt64 &&& Int64.toUInt64 63)).toInt64) &&& (3689348814741910323 : Int64))) : Int64).toUInt64 >>> ((4 : Int32).toInt64.toUInt64 &&& Int64.toUInt64 63)).toInt64)) &&& (1085102592571150095 : Int64)) + ((((((((p0 - ((((p0 : Int64).toUInt64 >>> ((1 : Int32).toInt64.toUInt64 &&& Int64.toUInt64 63)).toInt64) &&& (6148914691236517205 : Int64))) &&& (3689348814741910323 : Int64)) + (((((p0 - ((((p0 : Int64).toUInt64 >>> ((1 : Int32).toInt64.toUInt64 &&& Int64.toUInt64 63)).toInt64) &&& (6148914691236517205 : Int64))) : Int64).toUInt64 >>> ((2 : Int32).toInt64.toUInt64 &&& Int64.toUInt64 63)).toInt64) &&& (3689348814741910323 : Int64))) + ((((((p0 - ((((p0 : Int64).toUInt64 >>> ((1 : Int32).toInt64.toUInt64 &&& Int64.toUInt64 63)).toInt64) &&& (6148914691236517205 : Int64))) &&& (3689348814741910323 : Int64)) + (((((p0 - ((((p0 : Int64).toUInt64 >>> ((1 : Int32).toInt64.toUInt64 &&& Int64.toUInt64 63)).toInt64) &&& (6148914691236517205 : Int64))) : Int64).toUInt64 >>> ((2 : Int32).toInt64.toUInt64 &&& Int64.toUInt64 63)).toInt64) &&& (3689348814741910323 : Int64))) : Int64).toUInt64 >>> ((4 : Int32).toInt64.toUInt64 &&& Int64.toUInt64 63)).toInt64)) &&& (1085102592571150095 : Int64)) : Int64).toUInt64 >>> ((8 : Int32).toInt64.toUInt64 &&& Int64.toUInt64 63)).toInt64)) + (((((((((p0 - ((((p0 : Int64).toUInt64 >>> ((1 : Int32).toInt64.toUInt64 &&& Int64.toUInt64 63)).toInt64) &&& (6148914691236517205 : Int64))) &&& (3689348814741910323 : Int64)) + (((((p0 - ((((p0 : Int64).toUInt64 >>> ((1 : Int32).toInt64.toUInt64 &&& Int64.toUInt64 63)).toInt64) &&& (6148914691236517205 : Int64))) : Int64).toUInt64 >>> ((2 : Int32).toInt64.toUInt64 &&& Int64.toUInt64 63)).toInt64) &&& (3689348814741910323 : Int64))) + ((((((p0 - ((((p0 : Int64).toUInt64 >>> ((1 : Int32).toInt64.toUInt64 &&& Int64.toUInt64 63)).toInt64) &&& (6148914691236517205 : Int64))) &&& (3689348814741910323 : Int64)) + (((((p0 - ((((p0 : Int64).toUInt64 >>> ((1 : Int32).toInt64.toUInt64 &&& Int64.toUInt64 63)).toInt64) &&& (6148914691236517205 : Int64))) : Int64).toUInt64 >>> ((2 : Int32).toInt64.toUInt64 &&& Int64.toUInt64 63)).toInt64) &&& (3689348814741910323 : Int64))) : Int64).toUInt64 >>> ((4 : Int32).toInt64.toUInt64 &&& Int64.toUInt64 63)).toInt64)) &&& (1085102592571150095 : Int64)) + ((((((((p0 - ((((p0 : Int64).toUInt64 >>> ((1 : Int32).toInt64.toUInt64 &&& Int64.toUInt64 63)).toInt64) &&& (6148914691236517205 : Int64))) &&& (3689348814741910323 : Int64)) + (((((p0 - ((((p0 : Int64).toUInt64 >>> ((1 : Int32).toInt64.toUInt64 &&& Int64.toUInt64 63)).toInt64) &&& (6148914691236517205 : Int64))) : Int64).toUInt64 >>> ((2 : Int32).toInt64.toUInt64 &&& Int64.toUInt64 63)).toInt64) &&& (3689348814741910323 : Int64))) + ((((((p0 - ((((p0 : Int64).toUInt64 >>> ((1 : Int32).toInt64.toUInt64 &&& Int64.toUInt64 63)).toInt64) &&& (6148914691236517205 : Int64))) &&& (3689348814741910323 : Int64)) + (((((p0 - ((((p0 : Int64).toUInt64 >>> ((1 : Int32).toInt64.toUInt64 &&& Int64.toUInt64 63)).toInt64) &&& (6148914691236517205 : Int64))) : Int64).toUInt64 >>> ((2 : Int32).toInt64.toUInt64 &&& Int64.toUInt64 63)).toInt64) &&& (3689348814741910323 : Int64))) : Int64).toUInt64 >>> ((4 : Int32).toInt64.toUInt64 &&& Int64.toUInt64 63)).toInt64)) &&& (1085102592571150095 : Int64)) : Int64).toUInt64 >>> ((8 : Int32).toInt64.toUInt64 &&& Int64.toUInt64 63)).toInt64)) : Int64).toUInt64 >>> ((16 : Int32).toInt64.toUInt64 &&& Int64.toUInt64 63)).toInt64)) + ((((((((((p0 - ((((p0 : Int64).toUInt64 >>> ((1 : Int32).toInt64.toUInt64 &&& Int64.toUInt64 63)).toInt64) &&& (6148914691236517205 : Int64))) &&& (3689348814741910323 : Int64)) + (((((p0 - ((((p0 : Int64).toUInt64 >>> ((1 : Int32).toInt64.toUInt64 &&& Int64.toUInt64 63)).toInt64) &&& (6148914691236517205 : Int64))) : Int64).toUInt64 >>> ((2 : Int32).toInt64.toUInt64 &&& Int64.toUInt64 63)).toInt64) &&& (3689348814741910323 : Int64))) + ((((((p0 - ((((p0 : Int64).toUInt64 >>> ((1 : Int32).toInt64.toUInt64 &&& Int64.toUInt64 63)).toInt64) &&& (6148914691236517205 : Int64))) &&& (3689348814741910323 : Int64)) + (((((p0 - ((((p0 : Int64).toUInt64 >>> ((1 : Int32).toInt64.toUInt64 &&& Int64.toUInt64 63)).toInt64) &&& (6148914691236517205 : Int64))) : Int64).toUInt64 >>> ((2 : Int32).toInt64.toUInt64 &&& Int64.toUInt64 63)).toInt64) &&& (3689348814741910323 : Int64))) : Int64).toUInt64 >>> ((4 : Int32).toInt64.toUInt64 &&& Int64.toUInt64 63)).toInt64)) &&& (1085102592571150095 : Int64)) + ((((((((p0 - ((((p0 : Int64).toUInt64 >>> ((1 : Int32).toInt64.toUInt64 &&& Int64.toUInt64 63)).toInt64) &&& (6148914691236517205 : Int64))) &&& (3689348814741910323 : Int64)) + (((((p0 - ((((p0 : Int64).toUInt64 >>> ((1 : Int32).toInt64.toUInt64 &&& Int64.toUInt64 63)).toInt64) &&& (6148914691236517205 : Int64))) : Int64).toUInt64 >>> ((2 : Int32).toInt64.toUInt64 &&& Int64.toUInt64 63)).toInt64) &&& (3689348814741910323 : Int64))) + ((((((p0 - ((((p0 : Int64).toUInt64 >>> ((1 : Int32).toInt64.toUInt64 &&& Int64.toUInt64 63)).toInt64) &&& (6148914691236517205 : Int64))) &&& (3689348814741910323 : Int64)) + (((((p0 - ((((p0 : Int64).toUInt64 >>> ((1 : Int32).toInt64.toUInt64 &&& Int64.toUInt64 63)).toInt64) &&& (6148914691236517205 : Int64))) : Int64).toUInt64 >>> ((2 : Int32).toInt64.toUInt64 &&& Int64.toUInt64 63)).toInt64) &&& (3689348814741910323 : Int64))) : Int64).toUInt64 >>> ((4 : Int32).toInt64.toUInt64 &&& Int64.toUInt64 63)).toInt64)) &&& (1085102592571150095 : Int64)) : Int64).toUInt64 >>> ((8 : Int32).toInt64.toUInt64 &&& Int64.toUInt64 63)).toInt64)) + (((((((((p0 - ((((p0 : Int64).toUInt64 >>> ((1 : Int32).toInt64.toUInt64 &&& Int64.toUInt64 63)).toInt64) &&& (6148914691236517205 : Int64))) &&& (3689348814741910323 : Int64)) + (((((p0 - ((((p0 : Int64).toUInt64 >>> ((1 : Int32).toInt64.toUInt64 &&& Int64.toUInt64 63)).toInt64) &&& (6148914691236517205 : Int64))) : Int64).toUInt64 >>> ((2 : Int32).toInt64.toUInt64 &&& Int64.toUInt64 63)).toInt64) &&& (3689348814741910323 : Int64))) + ((((((p0 - ((((p0 : Int64).toUInt64 >>> ((1 : Int32).toInt64.toUInt64 &&& Int64.toUInt64 63)).toInt64) &&& (6148914691236517205 : Int64))) &&& (3689348814741910323 : Int64)) + (((((p0 - ((((p0 : Int64).toUInt64 >>> ((1 : Int32).toInt64.toUInt64 &&& Int64.toUInt64 63)).toInt64) &&& (6148914691236517205 : Int64))) : Int64).toUInt64 >>> ((2 : Int32).toInt64.toUInt64 &&& Int64.toUInt64 63)).toInt64) &&& (3689348814741910323 : Int64))) : Int64).toUInt64 >>> ((4 : Int32).toInt64.toUInt64 &&& Int64.toUInt64 63)).toInt64)) &&& (1085102592571150095 : Int64)) + ((((((((p0 - ((((p0 : Int64).toUInt64 >>> ((1 : Int32).toInt64.toUInt64 &&& Int64.toUInt64 63)).toInt64) &&& (6148914691236517205 : Int64))) &&& (3689348814741910323 : Int64)) + (((((p0 - ((((p0 : Int64).toUInt64 >>> ((1 : Int32).toInt64.toUInt64 &&& Int64.toUInt64 63)).toInt64) &&& (6148914691236517205 : Int64))) : Int64).toUInt64 >>> ((2 : Int32).toInt64.toUInt64 &&& Int64.toUInt64 63)).toInt64) &&& (3689348814741910323 : Int64))) + ((((((p0 - ((((p0 : Int64).toUInt64 >>> ((1 : Int32).toInt64.toUInt64 &&& Int64.toUInt64 63)).toInt64) &&& (6148914691236517205 : Int64))) &&& (3689348814741910323 : Int64)) + (((((p0 - ((((p0 : Int64).toUInt64 >>> ((1 : Int32).toInt64.toUInt64 &&& Int64.toUInt64 63)).toInt64) &&& (6148914691236517205 : Int64))) : Int64).toUInt64 >>> ((2 : Int32).toInt64.toUInt64 &&& Int64.toUInt64 63)).toInt64) &&& (3689348814741910323 : Int64))) : Int64).toUInt64 >>> ((4 : Int32).toInt64.toUInt64 &&& Int64.toUInt64 63)).toInt64)) &&& (1085102592571150095 : Int64)) : Int64).toUInt64 >>> ((8 : Int32).toInt64.toUInt64 &&& Int64.toUInt64 63)).toInt64)) : Int64).toUInt64 >>> ((16 : Int32).toInt64.toUInt64 &&& Int64.toUInt64 63)).toInt64)) : Int64).toUInt64 >>> ((32 : Int32).toInt64.toUInt64 &&& Int64.toUInt64 63)).toInt64)))]) hx hb dJ13_bitCount_95d88_54 rfl hl (by decide) rfl (fun ls hl => ?_)
  refine lv_lload_n hx hb dJ13_bitCount_95d88_55 rfl (lv_at hl 0 rfl) ?_
  refine lv_l2i (v := ((((((((((p0 - ((((p0 : Int64).toUInt64 >>> ((1 : Int32).toInt64.toUInt64 &&& Int64.toUInt64 63)).toInt64) &&& (6148914691236517205 : Int64))) &&& (3689348814741910323 : Int64)) + (((((p0 - ((((p0 : Int64).toUInt64 >>> ((1 : Int32).toInt64.toUInt64 &&& Int64.toUInt64 63)).toInt64) &&& (6148914691236517205 : Int64))) : Int64).toUInt64 >>> ((2 : Int32).toInt64.toUInt64 &&& Int64.toUInt64 63)).toInt64) &&& (3689348814741910323 : Int64))) + ((((((p0 - ((((p0 : Int64).toUInt64 >>> ((1 : Int32).toInt64.toUInt64 &&& Int64.toUInt64 63)).toInt64) &&& (6148914691236517205 : Int64))) &&& (3689348814741910323 : Int64)) + (((((p0 - ((((p0 : Int64).toUInt64 >>> ((1 : Int32).toInt64.toUInt64 &&& Int64.toUInt64 63)).toInt64) &&& (6148914691236517205 : Int64))) : Int64).toUInt64 >>> ((2 : Int32).toInt64.toUInt64 &&& Int64.toUInt64 63)).toInt64) &&& (3689348814741910323 : Int64))) : Int64).toUInt64 >>> ((4 : Int32).toInt64.toUInt64 &&& Int64.toUInt64 63)).toInt64)) &&& (1085102592571150095 : Int64)) + ((((((((p0 - ((((p0 : Int64).toUInt64 >>> ((1 : Int32).toInt64.toUInt64 &&& Int64.toUInt64 63)).toInt64) &&& (6148914691236517205 : Int64))) &&& (3689348814741910323 : Int64)) + (((((p0 - ((((p0 : Int64).toUInt64 >>> ((1 : Int32).toInt64.toUInt64 &&& Int64.toUInt64 63)).toInt64) &&& (6148914691236517205 : Int64))) : Int64).toUInt64 >>> ((2 : Int32).toInt64.toUInt64 &&& Int64.toUInt64 63)).toInt64) &&& (3689348814741910323 : Int64))) + ((((((p0 - ((((p0 : Int64).toUInt64 >>> ((1 : Int32).toInt64.toUInt64 &&& Int64.toUInt64 63)).toInt64) &&& (6148914691236517205 : Int64))) &&& (3689348814741910323 : Int64)) + (((((p0 - ((((p0 : Int64).toUInt64 >>> ((1 : Int32).toInt64.toUInt64 &&& Int64.toUInt64 63)).toInt64) &&& (6148914691236517205 : Int64))) : Int64).toUInt64 >>> ((2 : Int32).toInt64.toUInt64 &&& Int64.toUInt64 63)).toInt64) &&& (3689348814741910323 : Int64))) : Int64).toUInt64 >>> ((4 : Int32).toInt64.toUInt64 &&& Int64.toUInt64 63)).toInt64)) &&& (1085102592571150095 : Int64)) : Int64).toUInt64 >>> ((8 : Int32).toInt64.toUInt64 &&& Int64.toUInt64 63)).toInt64)) + (((((((((p0 - ((((p0 : Int64).toUInt64 >>> ((1 : Int32).toInt64.toUInt64 &&& Int64.toUInt64 63)).toInt64) &&& (6148914691236517205 : Int64))) &&& (3689348814741910323 : Int64)) + (((((p0 - ((((p0 : Int64).toUInt64 >>> ((1 : Int32).toInt64.toUInt64 &&& Int64.toUInt64 63)).toInt64) &&& (6148914691236517205 : Int64))) : Int64).toUInt64 >>> ((2 : Int32).toInt64.toUInt64 &&& Int64.toUInt64 63)).toInt64) &&& (3689348814741910323 : Int64))) + ((((((p0 - ((((p0 : Int64).toUInt64 >>> ((1 : Int32).toInt64.toUInt64 &&& Int64.toUInt64 63)).toInt64) &&& (6148914691236517205 : Int64))) &&& (3689348814741910323 : Int64)) + (((((p0 - ((((p0 : Int64).toUInt64 >>> ((1 : Int32).toInt64.toUInt64 &&& Int64.toUInt64 63)).toInt64) &&& (6148914691236517205 : Int64))) : Int64).toUInt64 >>> ((2 : Int32).toInt64.toUInt64 &&& Int64.toUInt64 63)).toInt64) &&& (3689348814741910323 : Int64))) : Int64).toUInt64 >>> ((4 : Int32).toInt64.toUInt64 &&& Int64.toUInt64 63)).toInt64)) &&& (1085102592571150095 : Int64)) + ((((((((p0 - ((((p0 : Int64).toUInt64 >>> ((1 : Int32).toInt64.toUInt64 &&& Int64.toUInt64 63)).toInt64) &&& (6148914691236517205 : Int64))) &&& (3689348814741910323 : Int64)) + (((((p0 - ((((p0 : Int64).toUInt64 >>> ((1 : Int32).toInt64.toUInt64 &&& Int64.toUInt64 63)).toInt64) &&& (6148914691236517205 : Int64))) : Int64).toUInt64 >>> ((2 : Int32).toInt64.toUInt64 &&& Int64.toUInt64 63)).toInt64) &&& (3689348814741910323 : Int64))) + ((((((p0 - ((((p0 : Int64).toUInt64 >>> ((1 : Int32).toInt64.toUInt64 &&& Int64.toUInt64 63)).toInt64) &&& (6148914691236517205 : Int64))) &&& (3689348814741910323 : Int64)) + (((((p0 - ((((p0 : Int64).toUInt64 >>> ((1 : Int32).toInt64.toUInt64 &&& Int64.toUInt64 63)).toInt64) &&& (6148914691236517205 : Int64))) : Int64).toUInt64 >>> ((2 : Int32).toInt64.toUInt64 &&& Int64.toUInt64 63)).toInt64) &&& (3689348814741910323 : Int64))) : Int64).toUInt64 >>> ((4 : Int32).toInt64.toUInt64 &&& Int64.toUInt64 63)).toInt64)) &&& (1085102592571150095 : Int64)) : Int64).toUInt64 >>> ((8 : Int32).toInt64.toUInt64 &&& Int64.toUInt64 63)).toInt64)) : Int64).toUInt64 >>> ((16 : Int32).toInt64.toUInt64 &&& Int64.toUInt64 63)).toInt64)) + ((((((((((p0 - ((((p0 : Int64).toUInt64 >>> ((1 : Int32).toInt64.toUInt64 &&& Int64.toUInt64 63)).toInt64) &&& (6148914691236517205 : Int64))) &&& (3689348814741910323 : Int64)) + (((((p0 - ((((p0 : Int64).toUInt64 >>> ((1 : Int32).toInt64.toUInt64 &&& Int64.toUInt64 63)).toInt64) &&& (6148914691236517205 : Int64))) : Int64).toUInt64 >>> ((2 : Int32).toInt64.toUInt64 &&& Int64.toUInt64 63)).toInt64) &&& (3689348814741910323 : Int64))) + ((((((p0 - ((((p0 : Int64).toUInt64 >>> ((1 : Int32).toInt64.toUInt64 &&& Int64.toUInt64 63)).toInt64) &&& (6148914691236517205 : Int64))) &&& (3689348814741910323 : Int64)) + (((((p0 - ((((p0 : Int64).toUInt64 >>> ((1 : Int32).toInt64.toUInt64 &&& Int64.toUInt64 63)).toInt64) &&& (6148914691236517205 : Int64))) : Int64).toUInt64 >>> ((2 : Int32).toInt64.toUInt64 &&& Int64.toUInt64 63)).toInt64) &&& (3689348814741910323 : Int64))) : Int64).toUInt64 >>> ((4 : Int32).toInt64.toUInt64 &&& Int64.toUInt64 63)).toInt64)) &&& (1085102592571150095 : Int64)) + ((((((((p0 - ((((p0 : Int64).toUInt64 >>> ((1 : Int32).toInt64.toUInt64 &&& Int64.toUInt64 63)).toInt64) &&& (6148914691236517205 : Int64))) &&& (3689348814741910323 : Int64)) + (((((p0 - ((((p0 : Int64).toUInt64 >>> ((1 : Int32).toInt64.toUInt64 &&& Int64.toUInt64 63)).toInt64) &&& (6148914691236517205 : Int64))) : Int64).toUInt64 >>> ((2 : Int32).toInt64.toUInt64 &&& Int64.toUInt64 63)).toInt64) &&& (3689348814741910323 : Int64))) + ((((((p0 - ((((p0 : Int64).toUInt64 >>> ((1 : Int32).toInt64.toUInt64 &&& Int64.toUInt64 63)).toInt64) &&& (6148914691236517205 : Int64))) &&& (3689348814741910323 : Int64)) + (((((p0 - ((((p0 : Int64).toUInt64 >>> ((1 : Int32).toInt64.toUInt64 &&& Int64.toUInt64 63)).toInt64) &&& (6148914691236517205 : Int64))) : Int64).toUInt64 >>> ((2 : Int32).toInt64.toUInt64 &&& Int64.toUInt64 63)).toInt64) &&& (3689348814741910323 : Int64))) : Int64).toUInt64 >>> ((4 : Int32).toInt64.toUInt64 &&& Int64.toUInt64 63)).toInt64)) &&& (1085102592571150095 : Int64)) : Int64).toUInt64 >>> ((8 : Int32).toInt64.toUInt64 &&& Int64.toUInt64 63)).toInt64)) + (((((((((p0 - ((((p0 : Int64).toUInt64 >>> ((1 : Int32).toInt64.toUInt64 &&& Int64.toUInt64 63)).toInt64) &&& (6148914691236517205 : Int64))) &&& (3689348814741910323 : Int64)) + (((((p0 - ((((p0 : Int64).toUInt64 >>> ((1 : Int32).toInt64.toUInt64 &&& Int64.toUInt64 63)).toInt64) &&& (6148914691236517205 : Int64))) : Int64).toUInt64 >>> ((2 : Int32).toInt64.toUInt64 &&& Int64.toUInt64 63)).toInt64) &&& (3689348814741910323 : Int64))) + ((((((p0 - ((((p0 : Int64).toUInt64 >>> ((1 : Int32).toInt64.toUInt64 &&& Int64.toUInt64 63)).toInt64) &&& (6148914691236517205 : Int64))) &&& (3689348814741910323 : Int64)) + (((((p0 - ((((p0 : Int64).toUInt64 >>> ((1 : Int32).toInt64.toUInt64 &&& Int64.toUInt64 63)).toInt64) &&& (6148914691236517205 : Int64))) : Int64).toUInt64 >>> ((2 : Int32).toInt64.toUInt64 &&& Int64.toUInt64 63)).toInt64) &&& (3689348814741910323 : Int64))) : Int64).toUInt64 >>> ((4 : Int32).toInt64.toUInt64 &&& Int64.toUInt64 63)).toInt64)) &&& (1085102592571150095 : Int64)) + ((((((((p0 - ((((p0 : Int64).toUInt64 >>> ((1 : Int32).toInt64.toUInt64 &&& Int64.toUInt64 63)).toInt64) &&& (6148914691236517205 : Int64))) &&& (3689348814741910323 : Int64)) + (((((p0 - ((((p0 : Int64).toUInt64 >>> ((1 : Int32).toInt64.toUInt64 &&& Int64.toUInt64 63)).toInt64) &&& (6148914691236517205 : Int64))) : Int64).toUInt64 >>> ((2 : Int32).toInt64.toUInt64 &&& Int64.toUInt64 63)).toInt64) &&& (3689348814741910323 : Int64))) + ((((((p0 - ((((p0 : Int64).toUInt64 >>> ((1 : Int32).toInt64.toUInt64 &&& Int64.toUInt64 63)).toInt64) &&& (6148914691236517205 : Int64))) &&& (3689348814741910323 : Int64)) + (((((p0 - ((((p0 : Int64).toUInt64 >>> ((1 : Int32).toInt64.toUInt64 &&& Int64.toUInt64 63)).toInt64) &&& (6148914691236517205 : Int64))) : Int64).toUInt64 >>> ((2 : Int32).toInt64.toUInt64 &&& Int64.toUInt64 63)).toInt64) &&& (3689348814741910323 : Int64))) : Int64).toUInt64 >>> ((4 : Int32).toInt64.toUInt64 &&& Int64.toUInt64 63)).toInt64)) &&& (1085102592571150095 : Int64)) : Int64).toUInt64 >>> ((8 : Int32).toInt64.toUInt64 &&& Int64.toUInt64 63)).toInt64)) : Int64).toUInt64 >>> ((16 : Int32).toInt64.toUInt64 &&& Int64.toUInt64 63)).toInt64)) : Int64).toUInt64 >>> ((32 : Int32).toInt64.toUInt64 &&& Int64.toUInt64 63)).toInt64)) : Int64).toInt32)) hx hb dJ13_bitCount_95d88_56 rfl ?_
  refine lv_bipush (v := 127) hx hb dJ13_bitCount_95d88_57 (by decide) ?_
  refine lv_iand hx hb dJ13_bitCount_95d88_59 ?_
  have ho9 : (((((((((((p0 - ((((p0 : Int64).toUInt64 >>> ((1 : Int32).toInt64.toUInt64 &&& Int64.toUInt64 63)).toInt64) &&& (6148914691236517205 : Int64))) &&& (3689348814741910323 : Int64)) + (((((p0 - ((((p0 : Int64).toUInt64 >>> ((1 : Int32).toInt64.toUInt64 &&& Int64.toUInt64 63)).toInt64) &&& (6148914691236517205 : Int64))) : Int64).toUInt64 >>> ((2 : Int32).toInt64.toUInt64 &&& Int64.toUInt64 63)).toInt64) &&& (3689348814741910323 : Int64))) + ((((((p0 - ((((p0 : Int64).toUInt64 >>> ((1 : Int32).toInt64.toUInt64 &&& Int64.toUInt64 63)).toInt64) &&& (6148914691236517205 : Int64))) &&& (3689348814741910323 : Int64)) + (((((p0 - ((((p0 : Int64).toUInt64 >>> ((1 : Int32).toInt64.toUInt64 &&& Int64.toUInt64 63)).toInt64) &&& (6148914691236517205 : Int64))) : Int64).toUInt64 >>> ((2 : Int32).toInt64.toUInt64 &&& Int64.toUInt64 63)).toInt64) &&& (3689348814741910323 : Int64))) : Int64).toUInt64 >>> ((4 : Int32).toInt64.toUInt64 &&& Int64.toUInt64 63)).toInt64)) &&& (1085102592571150095 : Int64)) + ((((((((p0 - ((((p0 : Int64).toUInt64 >>> ((1 : Int32).toInt64.toUInt64 &&& Int64.toUInt64 63)).toInt64) &&& (6148914691236517205 : Int64))) &&& (3689348814741910323 : Int64)) + (((((p0 - ((((p0 : Int64).toUInt64 >>> ((1 : Int32).toInt64.toUInt64 &&& Int64.toUInt64 63)).toInt64) &&& (6148914691236517205 : Int64))) : Int64).toUInt64 >>> ((2 : Int32).toInt64.toUInt64 &&& Int64.toUInt64 63)).toInt64) &&& (3689348814741910323 : Int64))) + ((((((p0 - ((((p0 : Int64).toUInt64 >>> ((1 : Int32).toInt64.toUInt64 &&& Int64.toUInt64 63)).toInt64) &&& (6148914691236517205 : Int64))) &&& (3689348814741910323 : Int64)) + (((((p0 - ((((p0 : Int64).toUInt64 >>> ((1 : Int32).toInt64.toUInt64 &&& Int64.toUInt64 63)).toInt64) &&& (6148914691236517205 : Int64))) : Int64).toUInt64 >>> ((2 : Int32).toInt64.toUInt64 &&& Int64.toUInt64 63)).toInt64) &&& (3689348814741910323 : Int64))) : Int64).toUInt64 >>> ((4 : Int32).toInt64.toUInt64 &&& Int64.toUInt64 63)).toInt64)) &&& (1085102592571150095 : Int64)) : Int64).toUInt64 >>> ((8 : Int32).toInt64.toUInt64 &&& Int64.toUInt64 63)).toInt64)) + (((((((((p0 - ((((p0 : Int64).toUInt64 >>> ((1 : Int32).toInt64.toUInt64 &&& Int64.toUInt64 63)).toInt64) &&& (6148914691236517205 : Int64))) &&& (3689348814741910323 : Int64)) + (((((p0 - ((((p0 : Int64).toUInt64 >>> ((1 : Int32).toInt64.toUInt64 &&& Int64.toUInt64 63)).toInt64) &&& (6148914691236517205 : Int64))) : Int64).toUInt64 >>> ((2 : Int32).toInt64.toUInt64 &&& Int64.toUInt64 63)).toInt64) &&& (3689348814741910323 : Int64))) + ((((((p0 - ((((p0 : Int64).toUInt64 >>> ((1 : Int32).toInt64.toUInt64 &&& Int64.toUInt64 63)).toInt64) &&& (6148914691236517205 : Int64))) &&& (3689348814741910323 : Int64)) + (((((p0 - ((((p0 : Int64).toUInt64 >>> ((1 : Int32).toInt64.toUInt64 &&& Int64.toUInt64 63)).toInt64) &&& (6148914691236517205 : Int64))) : Int64).toUInt64 >>> ((2 : Int32).toInt64.toUInt64 &&& Int64.toUInt64 63)).toInt64) &&& (3689348814741910323 : Int64))) : Int64).toUInt64 >>> ((4 : Int32).toInt64.toUInt64 &&& Int64.toUInt64 63)).toInt64)) &&& (1085102592571150095 : Int64)) + ((((((((p0 - ((((p0 : Int64).toUInt64 >>> ((1 : Int32).toInt64.toUInt64 &&& Int64.toUInt64 63)).toInt64) &&& (6148914691236517205 : Int64))) &&& (3689348814741910323 : Int64)) + (((((p0 - ((((p0 : Int64).toUInt64 >>> ((1 : Int32).toInt64.toUInt64 &&& Int64.toUInt64 63)).toInt64) &&& (6148914691236517205 : Int64))) : Int64).toUInt64 >>> ((2 : Int32).toInt64.toUInt64 &&& Int64.toUInt64 63)).toInt64) &&& (3689348814741910323 : Int64))) + ((((((p0 - ((((p0 : Int64).toUInt64 >>> ((1 : Int32).toInt64.toUInt64 &&& Int64.toUInt64 63)).toInt64) &&& (6148914691236517205 : Int64))) &&& (3689348814741910323 : Int64)) + (((((p0 - ((((p0 : Int64).toUInt64 >>> ((1 : Int32).toInt64.toUInt64 &&& Int64.toUInt64 63)).toInt64) &&& (6148914691236517205 : Int64))) : Int64).toUInt64 >>> ((2 : Int32).toInt64.toUInt64 &&& Int64.toUInt64 63)).toInt64) &&& (3689348814741910323 : Int64))) : Int64).toUInt64 >>> ((4 : Int32).toInt64.toUInt64 &&& Int64.toUInt64 63)).toInt64)) &&& (1085102592571150095 : Int64)) : Int64).toUInt64 >>> ((8 : Int32).toInt64.toUInt64 &&& Int64.toUInt64 63)).toInt64)) : Int64).toUInt64 >>> ((16 : Int32).toInt64.toUInt64 &&& Int64.toUInt64 63)).toInt64)) + ((((((((((p0 - ((((p0 : Int64).toUInt64 >>> ((1 : Int32).toInt64.toUInt64 &&& Int64.toUInt64 63)).toInt64) &&& (6148914691236517205 : Int64))) &&& (3689348814741910323 : Int64)) + (((((p0 - ((((p0 : Int64).toUInt64 >>> ((1 : Int32).toInt64.toUInt64 &&& Int64.toUInt64 63)).toInt64) &&& (6148914691236517205 : Int64))) : Int64).toUInt64 >>> ((2 : Int32).toInt64.toUInt64 &&& Int64.toUInt64 63)).toInt64) &&& (3689348814741910323 : Int64))) + ((((((p0 - ((((p0 : Int64).toUInt64 >>> ((1 : Int32).toInt64.toUInt64 &&& Int64.toUInt64 63)).toInt64) &&& (6148914691236517205 : Int64))) &&& (3689348814741910323 : Int64)) + (((((p0 - ((((p0 : Int64).toUInt64 >>> ((1 : Int32).toInt64.toUInt64 &&& Int64.toUInt64 63)).toInt64) &&& (6148914691236517205 : Int64))) : Int64).toUInt64 >>> ((2 : Int32).toInt64.toUInt64 &&& Int64.toUInt64 63)).toInt64) &&& (3689348814741910323 : Int64))) : Int64).toUInt64 >>> ((4 : Int32).toInt64.toUInt64 &&& Int64.toUInt64 63)).toInt64)) &&& (1085102592571150095 : Int64)) + ((((((((p0 - ((((p0 : Int64).toUInt64 >>> ((1 : Int32).toInt64.toUInt64 &&& Int64.toUInt64 63)).toInt64) &&& (6148914691236517205 : Int64))) &&& (3689348814741910323 : Int64)) + (((((p0 - ((((p0 : Int64).toUInt64 >>> ((1 : Int32).toInt64.toUInt64 &&& Int64.toUInt64 63)).toInt64) &&& (6148914691236517205 : Int64))) : Int64).toUInt64 >>> ((2 : Int32).toInt64.toUInt64 &&& Int64.toUInt64 63)).toInt64) &&& (3689348814741910323 : Int64))) + ((((((p0 - ((((p0 : Int64).toUInt64 >>> ((1 : Int32).toInt64.toUInt64 &&& Int64.toUInt64 63)).toInt64) &&& (6148914691236517205 : Int64))) &&& (3689348814741910323 : Int64)) + (((((p0 - ((((p0 : Int64).toUInt64 >>> ((1 : Int32).toInt64.toUInt64 &&& Int64.toUInt64 63)).toInt64) &&& (6148914691236517205 : Int64))) : Int64).toUInt64 >>> ((2 : Int32).toInt64.toUInt64 &&& Int64.toUInt64 63)).toInt64) &&& (3689348814741910323 : Int64))) : Int64).toUInt64 >>> ((4 : Int32).toInt64.toUInt64 &&& Int64.toUInt64 63)).toInt64)) &&& (1085102592571150095 : Int64)) : Int64).toUInt64 >>> ((8 : Int32).toInt64.toUInt64 &&& Int64.toUInt64 63)).toInt64)) + (((((((((p0 - ((((p0 : Int64).toUInt64 >>> ((1 : Int32).toInt64.toUInt64 &&& Int64.toUInt64 63)).toInt64) &&& (6148914691236517205 : Int64))) &&& (3689348814741910323 : Int64)) + (((((p0 - ((((p0 : Int64).toUInt64 >>> ((1 : Int32).toInt64.toUInt64 &&& Int64.toUInt64 63)).toInt64) &&& (6148914691236517205 : Int64))) : Int64).toUInt64 >>> ((2 : Int32).toInt64.toUInt64 &&& Int64.toUInt64 63)).toInt64) &&& (3689348814741910323 : Int64))) + ((((((p0 - ((((p0 : Int64).toUInt64 >>> ((1 : Int32).toInt64.toUInt64 &&& Int64.toUInt64 63)).toInt64) &&& (6148914691236517205 : Int64))) &&& (3689348814741910323 : Int64)) + (((((p0 - ((((p0 : Int64).toUInt64 >>> ((1 : Int32).toInt64.toUInt64 &&& Int64.toUInt64 63)).toInt64) &&& (6148914691236517205 : Int64))) : Int64).toUInt64 >>> ((2 : Int32).toInt64.toUInt64 &&& Int64.toUInt64 63)).toInt64) &&& (3689348814741910323 : Int64))) : Int64).toUInt64 >>> ((4 : Int32).toInt64.toUInt64 &&& Int64.toUInt64 63)).toInt64)) &&& (1085102592571150095 : Int64)) + ((((((((p0 - ((((p0 : Int64).toUInt64 >>> ((1 : Int32).toInt64.toUInt64 &&& Int64.toUInt64 63)).toInt64) &&& (6148914691236517205 : Int64))) &&& (3689348814741910323 : Int64)) + (((((p0 - ((((p0 : Int64).toUInt64 >>> ((1 : Int32).toInt64.toUInt64 &&& Int64.toUInt64 63)).toInt64) &&& (6148914691236517205 : Int64))) : Int64).toUInt64 >>> ((2 : Int32).toInt64.toUInt64 &&& Int64.toUInt64 63)).toInt64) &&& (3689348814741910323 : Int64))) + ((((((p0 - ((((p0 : Int64).toUInt64 >>> ((1 : Int32).toInt64.toUInt64 &&& Int64.toUInt64 63)).toInt64) &&& (6148914691236517205 : Int64))) &&& (3689348814741910323 : Int64)) + (((((p0 - ((((p0 : Int64).toUInt64 >>> ((1 : Int32).toInt64.toUInt64 &&& Int64.toUInt64 63)).toInt64) &&& (6148914691236517205 : Int64))) : Int64).toUInt64 >>> ((2 : Int32).toInt64.toUInt64 &&& Int64.toUInt64 63)).toInt64) &&& (3689348814741910323 : Int64))) : Int64).toUInt64 >>> ((4 : Int32).toInt64.toUInt64 &&& Int64.toUInt64 63)).toInt64)) &&& (1085102592571150095 : Int64)) : Int64).toUInt64 >>> ((8 : Int32).toInt64.toUInt64 &&& Int64.toUInt64 63)).toInt64)) : Int64).toUInt64 >>> ((16 : Int32).toInt64.toUInt64 &&& Int64.toUInt64 63)).toInt64)) : Int64).toUInt64 >>> ((32 : Int32).toInt64.toUInt64 &&& Int64.toUInt64 63)).toInt64)) : Int64).toInt32) &&& 127) = o := Option.some.inj hrun
  have hP9 : va_P (dC, dI) cls ([] : va_W) H := by first | exact hP | (rw [← ho9]; exact hP)
  have hD9 : va_D A ([] : va_W) := by first | exact hD | (rw [← ho9]; exact hD)
  subst hQ
  exact W.iret (v := (((((((((((p0 - ((((p0 : Int64).toUInt64 >>> ((1 : Int32).toInt64.toUInt64 &&& Int64.toUInt64 63)).toInt64) &&& (6148914691236517205 : Int64))) &&& (3689348814741910323 : Int64)) + (((((p0 - ((((p0 : Int64).toUInt64 >>> ((1 : Int32).toInt64.toUInt64 &&& Int64.toUInt64 63)).toInt64) &&& (6148914691236517205 : Int64))) : Int64).toUInt64 >>> ((2 : Int32).toInt64.toUInt64 &&& Int64.toUInt64 63)).toInt64) &&& (3689348814741910323 : Int64))) + ((((((p0 - ((((p0 : Int64).toUInt64 >>> ((1 : Int32).toInt64.toUInt64 &&& Int64.toUInt64 63)).toInt64) &&& (6148914691236517205 : Int64))) &&& (3689348814741910323 : Int64)) + (((((p0 - ((((p0 : Int64).toUInt64 >>> ((1 : Int32).toInt64.toUInt64 &&& Int64.toUInt64 63)).toInt64) &&& (6148914691236517205 : Int64))) : Int64).toUInt64 >>> ((2 : Int32).toInt64.toUInt64 &&& Int64.toUInt64 63)).toInt64) &&& (3689348814741910323 : Int64))) : Int64).toUInt64 >>> ((4 : Int32).toInt64.toUInt64 &&& Int64.toUInt64 63)).toInt64)) &&& (1085102592571150095 : Int64)) + ((((((((p0 - ((((p0 : Int64).toUInt64 >>> ((1 : Int32).toInt64.toUInt64 &&& Int64.toUInt64 63)).toInt64) &&& (6148914691236517205 : Int64))) &&& (3689348814741910323 : Int64)) + (((((p0 - ((((p0 : Int64).toUInt64 >>> ((1 : Int32).toInt64.toUInt64 &&& Int64.toUInt64 63)).toInt64) &&& (6148914691236517205 : Int64))) : Int64).toUInt64 >>> ((2 : Int32).toInt64.toUInt64 &&& Int64.toUInt64 63)).toInt64) &&& (3689348814741910323 : Int64))) + ((((((p0 - ((((p0 : Int64).toUInt64 >>> ((1 : Int32).toInt64.toUInt64 &&& Int64.toUInt64 63)).toInt64) &&& (6148914691236517205 : Int64))) &&& (3689348814741910323 : Int64)) + (((((p0 - ((((p0 : Int64).toUInt64 >>> ((1 : Int32).toInt64.toUInt64 &&& Int64.toUInt64 63)).toInt64) &&& (6148914691236517205 : Int64))) : Int64).toUInt64 >>> ((2 : Int32).toInt64.toUInt64 &&& Int64.toUInt64 63)).toInt64) &&& (3689348814741910323 : Int64))) : Int64).toUInt64 >>> ((4 : Int32).toInt64.toUInt64 &&& Int64.toUInt64 63)).toInt64)) &&& (1085102592571150095 : Int64)) : Int64).toUInt64 >>> ((8 : Int32).toInt64.toUInt64 &&& Int64.toUInt64 63)).toInt64)) + (((((((((p0 - ((((p0 : Int64).toUInt64 >>> ((1 : Int32).toInt64.toUInt64 &&& Int64.toUInt64 63)).toInt64) &&& (6148914691236517205 : Int64))) &&& (3689348814741910323 : Int64)) + (((((p0 - ((((p0 : Int64).toUInt64 >>> ((1 : Int32).toInt64.toUInt64 &&& Int64.toUInt64 63)).toInt64) &&& (6148914691236517205 : Int64))) : Int64).toUInt64 >>> ((2 : Int32).toInt64.toUInt64 &&& Int64.toUInt64 63)).toInt64) &&& (3689348814741910323 : Int64))) + ((((((p0 - ((((p0 : Int64).toUInt64 >>> ((1 : Int32).toInt64.toUInt64 &&& Int64.toUInt64 63)).toInt64) &&& (6148914691236517205 : Int64))) &&& (3689348814741910323 : Int64)) + (((((p0 - ((((p0 : Int64).toUInt64 >>> ((1 : Int32).toInt64.toUInt64 &&& Int64.toUInt64 63)).toInt64) &&& (6148914691236517205 : Int64))) : Int64).toUInt64 >>> ((2 : Int32).toInt64.toUInt64 &&& Int64.toUInt64 63)).toInt64) &&& (3689348814741910323 : Int64))) : Int64).toUInt64 >>> ((4 : Int32).toInt64.toUInt64 &&& Int64.toUInt64 63)).toInt64)) &&& (1085102592571150095 : Int64)) + ((((((((p0 - ((((p0 : Int64).toUInt64 >>> ((1 : Int32).toInt64.toUInt64 &&& Int64.toUInt64 63)).toInt64) &&& (6148914691236517205 : Int64))) &&& (3689348814741910323 : Int64)) + (((((p0 - ((((p0 : Int64).toUInt64 >>> ((1 : Int32).toInt64.toUInt64 &&& Int64.toUInt64 63)).toInt64) &&& (6148914691236517205 : Int64))) : Int64).toUInt64 >>> ((2 : Int32).toInt64.toUInt64 &&& Int64.toUInt64 63)).toInt64) &&& (3689348814741910323 : Int64))) + ((((((p0 - ((((p0 : Int64).toUInt64 >>> ((1 : Int32).toInt64.toUInt64 &&& Int64.toUInt64 63)).toInt64) &&& (6148914691236517205 : Int64))) &&& (3689348814741910323 : Int64)) + (((((p0 - ((((p0 : Int64).toUInt64 >>> ((1 : Int32).toInt64.toUInt64 &&& Int64.toUInt64 63)).toInt64) &&& (6148914691236517205 : Int64))) : Int64).toUInt64 >>> ((2 : Int32).toInt64.toUInt64 &&& Int64.toUInt64 63)).toInt64) &&& (3689348814741910323 : Int64))) : Int64).toUInt64 >>> ((4 : Int32).toInt64.toUInt64 &&& Int64.toUInt64 63)).toInt64)) &&& (1085102592571150095 : Int64)) : Int64).toUInt64 >>> ((8 : Int32).toInt64.toUInt64 &&& Int64.toUInt64 63)).toInt64)) : Int64).toUInt64 >>> ((16 : Int32).toInt64.toUInt64 &&& Int64.toUInt64 63)).toInt64)) + ((((((((((p0 - ((((p0 : Int64).toUInt64 >>> ((1 : Int32).toInt64.toUInt64 &&& Int64.toUInt64 63)).toInt64) &&& (6148914691236517205 : Int64))) &&& (3689348814741910323 : Int64)) + (((((p0 - ((((p0 : Int64).toUInt64 >>> ((1 : Int32).toInt64.toUInt64 &&& Int64.toUInt64 63)).toInt64) &&& (6148914691236517205 : Int64))) : Int64).toUInt64 >>> ((2 : Int32).toInt64.toUInt64 &&& Int64.toUInt64 63)).toInt64) &&& (3689348814741910323 : Int64))) + ((((((p0 - ((((p0 : Int64).toUInt64 >>> ((1 : Int32).toInt64.toUInt64 &&& Int64.toUInt64 63)).toInt64) &&& (6148914691236517205 : Int64))) &&& (3689348814741910323 : Int64)) + (((((p0 - ((((p0 : Int64).toUInt64 >>> ((1 : Int32).toInt64.toUInt64 &&& Int64.toUInt64 63)).toInt64) &&& (6148914691236517205 : Int64))) : Int64).toUInt64 >>> ((2 : Int32).toInt64.toUInt64 &&& Int64.toUInt64 63)).toInt64) &&& (3689348814741910323 : Int64))) : Int64).toUInt64 >>> ((4 : Int32).toInt64.toUInt64 &&& Int64.toUInt64 63)).toInt64)) &&& (1085102592571150095 : Int64)) + ((((((((p0 - ((((p0 : Int64).toUInt64 >>> ((1 : Int32).toInt64.toUInt64 &&& Int64.toUInt64 63)).toInt64) &&& (6148914691236517205 : Int64))) &&& (3689348814741910323 : Int64)) + (((((p0 - ((((p0 : Int64).toUInt64 >>> ((1 : Int32).toInt64.toUInt64 &&& Int64.toUInt64 63)).toInt64) &&& (6148914691236517205 : Int64))) : Int64).toUInt64 >>> ((2 : Int32).toInt64.toUInt64 &&& Int64.toUInt64 63)).toInt64) &&& (3689348814741910323 : Int64))) + ((((((p0 - ((((p0 : Int64).toUInt64 >>> ((1 : Int32).toInt64.toUInt64 &&& Int64.toUInt64 63)).toInt64) &&& (6148914691236517205 : Int64))) &&& (3689348814741910323 : Int64)) + (((((p0 - ((((p0 : Int64).toUInt64 >>> ((1 : Int32).toInt64.toUInt64 &&& Int64.toUInt64 63)).toInt64) &&& (6148914691236517205 : Int64))) : Int64).toUInt64 >>> ((2 : Int32).toInt64.toUInt64 &&& Int64.toUInt64 63)).toInt64) &&& (3689348814741910323 : Int64))) : Int64).toUInt64 >>> ((4 : Int32).toInt64.toUInt64 &&& Int64.toUInt64 63)).toInt64)) &&& (1085102592571150095 : Int64)) : Int64).toUInt64 >>> ((8 : Int32).toInt64.toUInt64 &&& Int64.toUInt64 63)).toInt64)) + (((((((((p0 - ((((p0 : Int64).toUInt64 >>> ((1 : Int32).toInt64.toUInt64 &&& Int64.toUInt64 63)).toInt64) &&& (6148914691236517205 : Int64))) &&& (3689348814741910323 : Int64)) + (((((p0 - ((((p0 : Int64).toUInt64 >>> ((1 : Int32).toInt64.toUInt64 &&& Int64.toUInt64 63)).toInt64) &&& (6148914691236517205 : Int64))) : Int64).toUInt64 >>> ((2 : Int32).toInt64.toUInt64 &&& Int64.toUInt64 63)).toInt64) &&& (3689348814741910323 : Int64))) + ((((((p0 - ((((p0 : Int64).toUInt64 >>> ((1 : Int32).toInt64.toUInt64 &&& Int64.toUInt64 63)).toInt64) &&& (6148914691236517205 : Int64))) &&& (3689348814741910323 : Int64)) + (((((p0 - ((((p0 : Int64).toUInt64 >>> ((1 : Int32).toInt64.toUInt64 &&& Int64.toUInt64 63)).toInt64) &&& (6148914691236517205 : Int64))) : Int64).toUInt64 >>> ((2 : Int32).toInt64.toUInt64 &&& Int64.toUInt64 63)).toInt64) &&& (3689348814741910323 : Int64))) : Int64).toUInt64 >>> ((4 : Int32).toInt64.toUInt64 &&& Int64.toUInt64 63)).toInt64)) &&& (1085102592571150095 : Int64)) + ((((((((p0 - ((((p0 : Int64).toUInt64 >>> ((1 : Int32).toInt64.toUInt64 &&& Int64.toUInt64 63)).toInt64) &&& (6148914691236517205 : Int64))) &&& (3689348814741910323 : Int64)) + (((((p0 - ((((p0 : Int64).toUInt64 >>> ((1 : Int32).toInt64.toUInt64 &&& Int64.toUInt64 63)).toInt64) &&& (6148914691236517205 : Int64))) : Int64).toUInt64 >>> ((2 : Int32).toInt64.toUInt64 &&& Int64.toUInt64 63)).toInt64) &&& (3689348814741910323 : Int64))) + ((((((p0 - ((((p0 : Int64).toUInt64 >>> ((1 : Int32).toInt64.toUInt64 &&& Int64.toUInt64 63)).toInt64) &&& (6148914691236517205 : Int64))) &&& (3689348814741910323 : Int64)) + (((((p0 - ((((p0 : Int64).toUInt64 >>> ((1 : Int32).toInt64.toUInt64 &&& Int64.toUInt64 63)).toInt64) &&& (6148914691236517205 : Int64))) : Int64).toUInt64 >>> ((2 : Int32).toInt64.toUInt64 &&& Int64.toUInt64 63)).toInt64) &&& (3689348814741910323 : Int64))) : Int64).toUInt64 >>> ((4 : Int32).toInt64.toUInt64 &&& Int64.toUInt64 63)).toInt64)) &&& (1085102592571150095 : Int64)) : Int64).toUInt64 >>> ((8 : Int32).toInt64.toUInt64 &&& Int64.toUInt64 63)).toInt64)) : Int64).toUInt64 >>> ((16 : Int32).toInt64.toUInt64 &&& Int64.toUInt64 63)).toInt64)) : Int64).toUInt64 >>> ((32 : Int32).toInt64.toUInt64 &&& Int64.toUInt64 63)).toInt64)) : Int64).toInt32) &&& 127)) hx hb hr (fun t ht hW => ⟨⟨(((((((((((p0 - ((((p0 : Int64).toUInt64 >>> ((1 : Int32).toInt64.toUInt64 &&& Int64.toUInt64 63)).toInt64) &&& (6148914691236517205 : Int64))) &&& (3689348814741910323 : Int64)) + (((((p0 - ((((p0 : Int64).toUInt64 >>> ((1 : Int32).toInt64.toUInt64 &&& Int64.toUInt64 63)).toInt64) &&& (6148914691236517205 : Int64))) : Int64).toUInt64 >>> ((2 : Int32).toInt64.toUInt64 &&& Int64.toUInt64 63)).toInt64) &&& (3689348814741910323 : Int64))) + ((((((p0 - ((((p0 : Int64).toUInt64 >>> ((1 : Int32).toInt64.toUInt64 &&& Int64.toUInt64 63)).toInt64) &&& (6148914691236517205 : Int64))) &&& (3689348814741910323 : Int64)) + (((((p0 - ((((p0 : Int64).toUInt64 >>> ((1 : Int32).toInt64.toUInt64 &&& Int64.toUInt64 63)).toInt64) &&& (6148914691236517205 : Int64))) : Int64).toUInt64 >>> ((2 : Int32).toInt64.toUInt64 &&& Int64.toUInt64 63)).toInt64) &&& (3689348814741910323 : Int64))) : Int64).toUInt64 >>> ((4 : Int32).toInt64.toUInt64 &&& Int64.toUInt64 63)).toInt64)) &&& (1085102592571150095 : Int64)) + ((((((((p0 - ((((p0 : Int64).toUInt64 >>> ((1 : Int32).toInt64.toUInt64 &&& Int64.toUInt64 63)).toInt64) &&& (6148914691236517205 : Int64))) &&& (3689348814741910323 : Int64)) + (((((p0 - ((((p0 : Int64).toUInt64 >>> ((1 : Int32).toInt64.toUInt64 &&& Int64.toUInt64 63)).toInt64) &&& (6148914691236517205 : Int64))) : Int64).toUInt64 >>> ((2 : Int32).toInt64.toUInt64 &&& Int64.toUInt64 63)).toInt64) &&& (3689348814741910323 : Int64))) + ((((((p0 - ((((p0 : Int64).toUInt64 >>> ((1 : Int32).toInt64.toUInt64 &&& Int64.toUInt64 63)).toInt64) &&& (6148914691236517205 : Int64))) &&& (3689348814741910323 : Int64)) + (((((p0 - ((((p0 : Int64).toUInt64 >>> ((1 : Int32).toInt64.toUInt64 &&& Int64.toUInt64 63)).toInt64) &&& (6148914691236517205 : Int64))) : Int64).toUInt64 >>> ((2 : Int32).toInt64.toUInt64 &&& Int64.toUInt64 63)).toInt64) &&& (3689348814741910323 : Int64))) : Int64).toUInt64 >>> ((4 : Int32).toInt64.toUInt64 &&& Int64.toUInt64 63)).toInt64)) &&& (1085102592571150095 : Int64)) : Int64).toUInt64 >>> ((8 : Int32).toInt64.toUInt64 &&& Int64.toUInt64 63)).toInt64)) + (((((((((p0 - ((((p0 : Int64).toUInt64 >>> ((1 : Int32).toInt64.toUInt64 &&& Int64.toUInt64 63)).toInt64) &&& (6148914691236517205 : Int64))) &&& (3689348814741910323 : Int64)) + (((((p0 - ((((p0 : Int64).toUInt64 >>> ((1 : Int32).toInt64.toUInt64 &&& Int64.toUInt64 63)).toInt64) &&& (6148914691236517205 : Int64))) : Int64).toUInt64 >>> ((2 : Int32).toInt64.toUInt64 &&& Int64.toUInt64 63)).toInt64) &&& (3689348814741910323 : Int64))) + ((((((p0 - ((((p0 : Int64).toUInt64 >>> ((1 : Int32).toInt64.toUInt64 &&& Int64.toUInt64 63)).toInt64) &&& (6148914691236517205 : Int64))) &&& (3689348814741910323 : Int64)) + (((((p0 - ((((p0 : Int64).toUInt64 >>> ((1 : Int32).toInt64.toUInt64 &&& Int64.toUInt64 63)).toInt64) &&& (6148914691236517205 : Int64))) : Int64).toUInt64 >>> ((2 : Int32).toInt64.toUInt64 &&& Int64.toUInt64 63)).toInt64) &&& (3689348814741910323 : Int64))) : Int64).toUInt64 >>> ((4 : Int32).toInt64.toUInt64 &&& Int64.toUInt64 63)).toInt64)) &&& (1085102592571150095 : Int64)) + ((((((((p0 - ((((p0 : Int64).toUInt64 >>> ((1 : Int32).toInt64.toUInt64 &&& Int64.toUInt64 63)).toInt64) &&& (6148914691236517205 : Int64))) &&& (3689348814741910323 : Int64)) + (((((p0 - ((((p0 : Int64).toUInt64 >>> ((1 : Int32).toInt64.toUInt64 &&& Int64.toUInt64 63)).toInt64) &&& (6148914691236517205 : Int64))) : Int64).toUInt64 >>> ((2 : Int32).toInt64.toUInt64 &&& Int64.toUInt64 63)).toInt64) &&& (3689348814741910323 : Int64))) + ((((((p0 - ((((p0 : Int64).toUInt64 >>> ((1 : Int32).toInt64.toUInt64 &&& Int64.toUInt64 63)).toInt64) &&& (6148914691236517205 : Int64))) &&& (3689348814741910323 : Int64)) + (((((p0 - ((((p0 : Int64).toUInt64 >>> ((1 : Int32).toInt64.toUInt64 &&& Int64.toUInt64 63)).toInt64) &&& (6148914691236517205 : Int64))) : Int64).toUInt64 >>> ((2 : Int32).toInt64.toUInt64 &&& Int64.toUInt64 63)).toInt64) &&& (3689348814741910323 : Int64))) : Int64).toUInt64 >>> ((4 : Int32).toInt64.toUInt64 &&& Int64.toUInt64 63)).toInt64)) &&& (1085102592571150095 : Int64)) : Int64).toUInt64 >>> ((8 : Int32).toInt64.toUInt64 &&& Int64.toUInt64 63)).toInt64)) : Int64).toUInt64 >>> ((16 : Int32).toInt64.toUInt64 &&& Int64.toUInt64 63)).toInt64)) + ((((((((((p0 - ((((p0 : Int64).toUInt64 >>> ((1 : Int32).toInt64.toUInt64 &&& Int64.toUInt64 63)).toInt64) &&& (6148914691236517205 : Int64))) &&& (3689348814741910323 : Int64)) + (((((p0 - ((((p0 : Int64).toUInt64 >>> ((1 : Int32).toInt64.toUInt64 &&& Int64.toUInt64 63)).toInt64) &&& (6148914691236517205 : Int64))) : Int64).toUInt64 >>> ((2 : Int32).toInt64.toUInt64 &&& Int64.toUInt64 63)).toInt64) &&& (3689348814741910323 : Int64))) + ((((((p0 - ((((p0 : Int64).toUInt64 >>> ((1 : Int32).toInt64.toUInt64 &&& Int64.toUInt64 63)).toInt64) &&& (6148914691236517205 : Int64))) &&& (3689348814741910323 : Int64)) + (((((p0 - ((((p0 : Int64).toUInt64 >>> ((1 : Int32).toInt64.toUInt64 &&& Int64.toUInt64 63)).toInt64) &&& (6148914691236517205 : Int64))) : Int64).toUInt64 >>> ((2 : Int32).toInt64.toUInt64 &&& Int64.toUInt64 63)).toInt64) &&& (3689348814741910323 : Int64))) : Int64).toUInt64 >>> ((4 : Int32).toInt64.toUInt64 &&& Int64.toUInt64 63)).toInt64)) &&& (1085102592571150095 : Int64)) + ((((((((p0 - ((((p0 : Int64).toUInt64 >>> ((1 : Int32).toInt64.toUInt64 &&& Int64.toUInt64 63)).toInt64) &&& (6148914691236517205 : Int64))) &&& (3689348814741910323 : Int64)) + (((((p0 - ((((p0 : Int64).toUInt64 >>> ((1 : Int32).toInt64.toUInt64 &&& Int64.toUInt64 63)).toInt64) &&& (6148914691236517205 : Int64))) : Int64).toUInt64 >>> ((2 : Int32).toInt64.toUInt64 &&& Int64.toUInt64 63)).toInt64) &&& (3689348814741910323 : Int64))) + ((((((p0 - ((((p0 : Int64).toUInt64 >>> ((1 : Int32).toInt64.toUInt64 &&& Int64.toUInt64 63)).toInt64) &&& (6148914691236517205 : Int64))) &&& (3689348814741910323 : Int64)) + (((((p0 - ((((p0 : Int64).toUInt64 >>> ((1 : Int32).toInt64.toUInt64 &&& Int64.toUInt64 63)).toInt64) &&& (6148914691236517205 : Int64))) : Int64).toUInt64 >>> ((2 : Int32).toInt64.toUInt64 &&& Int64.toUInt64 63)).toInt64) &&& (3689348814741910323 : Int64))) : Int64).toUInt64 >>> ((4 : Int32).toInt64.toUInt64 &&& Int64.toUInt64 63)).toInt64)) &&& (1085102592571150095 : Int64)) : Int64).toUInt64 >>> ((8 : Int32).toInt64.toUInt64 &&& Int64.toUInt64 63)).toInt64)) + (((((((((p0 - ((((p0 : Int64).toUInt64 >>> ((1 : Int32).toInt64.toUInt64 &&& Int64.toUInt64 63)).toInt64) &&& (6148914691236517205 : Int64))) &&& (3689348814741910323 : Int64)) + (((((p0 - ((((p0 : Int64).toUInt64 >>> ((1 : Int32).toInt64.toUInt64 &&& Int64.toUInt64 63)).toInt64) &&& (6148914691236517205 : Int64))) : Int64).toUInt64 >>> ((2 : Int32).toInt64.toUInt64 &&& Int64.toUInt64 63)).toInt64) &&& (3689348814741910323 : Int64))) + ((((((p0 - ((((p0 : Int64).toUInt64 >>> ((1 : Int32).toInt64.toUInt64 &&& Int64.toUInt64 63)).toInt64) &&& (6148914691236517205 : Int64))) &&& (3689348814741910323 : Int64)) + (((((p0 - ((((p0 : Int64).toUInt64 >>> ((1 : Int32).toInt64.toUInt64 &&& Int64.toUInt64 63)).toInt64) &&& (6148914691236517205 : Int64))) : Int64).toUInt64 >>> ((2 : Int32).toInt64.toUInt64 &&& Int64.toUInt64 63)).toInt64) &&& (3689348814741910323 : Int64))) : Int64).toUInt64 >>> ((4 : Int32).toInt64.toUInt64 &&& Int64.toUInt64 63)).toInt64)) &&& (1085102592571150095 : Int64)) + ((((((((p0 - ((((p0 : Int64).toUInt64 >>> ((1 : Int32).toInt64.toUInt64 &&& Int64.toUInt64 63)).toInt64) &&& (6148914691236517205 : Int64))) &&& (3689348814741910323 : Int64)) + (((((p0 - ((((p0 : Int64).toUInt64 >>> ((1 : Int32).toInt64.toUInt64 &&& Int64.toUInt64 63)).toInt64) &&& (6148914691236517205 : Int64))) : Int64).toUInt64 >>> ((2 : Int32).toInt64.toUInt64 &&& Int64.toUInt64 63)).toInt64) &&& (3689348814741910323 : Int64))) + ((((((p0 - ((((p0 : Int64).toUInt64 >>> ((1 : Int32).toInt64.toUInt64 &&& Int64.toUInt64 63)).toInt64) &&& (6148914691236517205 : Int64))) &&& (3689348814741910323 : Int64)) + (((((p0 - ((((p0 : Int64).toUInt64 >>> ((1 : Int32).toInt64.toUInt64 &&& Int64.toUInt64 63)).toInt64) &&& (6148914691236517205 : Int64))) : Int64).toUInt64 >>> ((2 : Int32).toInt64.toUInt64 &&& Int64.toUInt64 63)).toInt64) &&& (3689348814741910323 : Int64))) : Int64).toUInt64 >>> ((4 : Int32).toInt64.toUInt64 &&& Int64.toUInt64 63)).toInt64)) &&& (1085102592571150095 : Int64)) : Int64).toUInt64 >>> ((8 : Int32).toInt64.toUInt64 &&& Int64.toUInt64 63)).toInt64)) : Int64).toUInt64 >>> ((16 : Int32).toInt64.toUInt64 &&& Int64.toUInt64 63)).toInt64)) : Int64).toUInt64 >>> ((32 : Int32).toInt64.toUInt64 &&& Int64.toUInt64 63)).toInt64)) : Int64).toInt32) &&& 127), (), rfl, (by rw [← ho9]), ⟨by rw [ht]; exact hP9, va_K.moved hW.alike hK, hD9⟩⟩, hS.F ht⟩) hS.2.2 dJ13_bitCount_95d88_60
def fX11_lowest (p0 : Int64) : Option Int32 := ((fJ13_bitCount_95d88 ((p0 &&& (-p0)) - (1 : Int64))).bind fun (o_1 : Int32) => some o_1)
set_option maxHeartbeats 16000000 in
set_option maxRecDepth 100000 in
theorem kX11_lowest {zs : Nat × Nat} (l : Launch) (dC : Nat → ClassId) (dI : Nat → Nat → Nat) (p0 : Int64) (sz : Nat) (o : Int32) (hrun : fX11_lowest p0 = some o) : Met l yX11_lowest (wz yX11_lowest cX11_lowest 2 (Option.some Jvm.ClassFile.FieldType.int)) ({ frames := 1, cells := 0, slots := 0, locals := 21 } : Room) (va_Pc [.long p0] (PRE zs dC dI ([] : va_W) ([] : List (ClassId × FieldType)) sz)) (va_Qi (fun (r : Int32) (_ : Unit) => r = o) (fun _ t => POST dC dI ([] : va_W) ([] : List (ClassId × FieldType)) (va_A ([] : va_W) sz) t) (va_A ([] : va_W) sz)) 0 0 (va_A ([] : va_W) sz) := by
  refine Met.ofW (cc := cX11_lowest) (maxL := 2) (ret := (Option.some Jvm.ClassFile.FieldType.int)) (by decide) rfl ?_
  intro p e s m args below meth c s₁ B hml hv
  obtain ⟨rfl, hsz, hP, hK, hD0, hE⟩ := hv
  have hx := B.exec
  have hb := B.bytes
  have hr := B.returns
  have hts0 := atoms_spec (ws := wz yX11_lowest cX11_lowest 2 (Option.some Jvm.ClassFile.FieldType.int)) B.pre
  have hts : ∀ w ∈ gw, w.before _ s = true := fun w h => hts0 w (List.mem_cons_of_mem _ h)
  have hown : s.vm.findClass RX11 = some m.cls := findClass_of_methodNamed B.named
  have hlocks := B.notSynchronized
  subst hsz
  have hD := hD0.self (sz := s.heap.size)
  refine gQ9 ?_
  intro Q hQ
  generalize hAe : va_A ([] : va_W) s.heap.size = A at hD hE hQ
  have hA : ∀ q : Nat, s.heap.size ≤ q → A q := fun q h => by rw [← hAe]; exact Or.inr h
  have hS : va_S A s.heap s.heap [] := va_S.rf
  have hP : va_P (dC, dI) cls ([] : va_W) s.heap := hP
  have hl := lv_entry ([.long p0]) (n := 2) (Nat.le_of_ble_eq_true rfl)
  rw [lg_entry_eq]
  generalize (lg_sl ([.long p0]) ++ List.replicate (2 - (lg_sl ([.long p0])).length) Slot.unset).toArray = ls at hl ⊢
  have hl : lv_has ls 2 [(0, .long p0)] := hl
  obtain ⟨H, hHe⟩ : ∃ H, H = s.heap := ⟨_, rfl⟩
  obtain ⟨locs, hle⟩ : ∃ locs : List Loc, locs = [] := ⟨_, rfl⟩
  rw [← hHe] at hP
  have hS : va_S A s.heap H locs := by rw [hHe, hle]; exact hS
  show W p l e ({ frames := 1, cells := 0, slots := 0, locals := 21 } : Room) s m ([.long p0] : List Value).toArray below meth c s.heap [] 0 0 Q (F0 m 0 ls [])
  rw [← hle]
  refine wH9 hHe ?_
  unfold fX11_lowest at hrun
  refine lv_lload_n hx hb dX11_lowest_0 rfl (lv_at hl 0 rfl) ?_
  refine lv_lload_n hx hb dX11_lowest_1 rfl (lv_at hl 0 rfl) ?_
  refine lv_lneg hx hb dX11_lowest_2 ?_
  refine lv_land hx hb dX11_lowest_3 ?_
  refine lv_lconst (v := 1) hx hb dX11_lowest_4 (by decide) ?_
  refine lv_lsub hx hb dX11_lowest_5 ?_
  obtain ⟨o_1, hc_1, hrun⟩ := bnd9 hrun
  have hPc := hP.sub (ws' := ([] : va_W)) [] rfl
  have hDc := hD.sub (ws' := ([] : va_W)) [] (by decide) rfl
  have hKc := hK.sub (tys' := ([] : List (ClassId × FieldType))) [] rfl
  have hFc := va_free (wc := ([] : va_W)) hD hS hA [] rfl
  refine va_calli (va_runS (As := [.long ((p0 &&& (-p0)) - (1 : Int64))]) (rest := []) ⟨hx, hb, hml, hown, hts⟩ (kJ13_bitCount_95d88 l dC dI (p0 := ((p0 &&& (-p0)) - (1 : Int64))) (sz := _) (o := o_1) (hrun := hc_1)) (va_cwS 1 hts (gi_S qw770 qw771 qw772 (gi_z qw769)) rfl rfl rfl (by decide +kernel) ⟨Nat.le_of_ble_eq_true rfl, Nat.le_of_ble_eq_true rfl⟩) ⟨PRE.blind, PRE.of hE hS hFc hPc hKc hDc⟩ rfl rfl hl.1 rfl (lv_room (Nat.le_of_ble_eq_true rfl)) dX11_lowest_6 ⟨(Nat.le_of_ble_eq_true rfl), (Nat.le_of_ble_eq_true rfl)⟩) hS (fun q _ h => hFc q h) hFc (fun r2 u t H locs ht hvm hw hB hz1 hk1 hS => ?_)
  obtain ⟨hP, hD, hK⟩ := JOIN (wr := ([] : va_W)) hP hD hK [] [] [] rfl rfl (by decide) (by decide) rfl hk1 hFc ht hvm hB
  have hP : va_P (dC, dI) cls ([] : va_W) H := hP.sub [] rfl
  have hD : va_D A ([] : va_W) := hD.sub [] (by decide) rfl
  have hK : va_K (dC, dI) cls ([] : List (ClassId × FieldType)) s := hK.sub [] rfl
  obtain rfl : o_1 = r2 := hw.symm
  have ho9 : o_1 = o := Option.some.inj hrun
  have hP9 : va_P (dC, dI) cls ([] : va_W) H := by first | exact hP | (rw [← ho9]; exact hP)
  have hD9 : va_D A ([] : va_W) := by first | exact hD | (rw [← ho9]; exact hD)
  subst hQ
  exact W.iret (v := o_1) hx hb hr (fun t ht hW => ⟨⟨o_1, (), rfl, (by rw [← ho9]), ⟨by rw [ht]; exact hP9, va_K.moved hW.alike hK, hD9⟩⟩, hS.F ht⟩) hS.2.2 dX11_lowest_9
def fX2_mirror_L34 (p0n : Nat → Nat) (p0w : ST) (v1_2 : Int32) (v2_12 : Int32) : Nat → Int64 → SL → Option SL
  | 0 => fun _ _ => none
  | n_34 + 1 => fun v3_34 p0l_34 => (if (lg_cmp v3_34 (0 : Int64)) = 0 then some p0l_34 else ((fX11_lowest v3_34).bind fun (o_5 : Int32) => ((fX2_put_a1_p0_10 p0n p0w p0l_34 ((v2_12 * 64) + o_5) v1_2).bind fun (o_7 : SL) => ((fX2_mirror_L34 p0n p0w v1_2 v2_12 n_34) (v3_34 &&& (v3_34 - (1 : Int64))) o_7))))
def fX2_mirror_L12 (p0n : Nat → Nat) (p0w : ST) (v1_2 : Int32) : Nat → Int32 → SL → Option SL
  | 0 => fun _ _ => none
  | n_12 + 1 => fun v2_12 p0l_12 => (if (p0w 0 2) ≤ v2_12 then some p0l_12 else (if ixb ((v1_2 * (p0w 0 2)) + v2_12) (p0n 11) = true then ((fX2_mirror_L34 p0n p0w v1_2 v2_12 NF (p0l_12 11 (nn ((v1_2 * (p0w 0 2)) + v2_12))) p0l_12).bind fun (o34 : SL) => ((fX2_mirror_L12 p0n p0w v1_2 n_12) (v2_12 + 1) o34)) else none))
def fX2_mirror_L2 (p0n : Nat → Nat) (p0w : ST) : Nat → Int32 → SL → Option SL
  | 0 => fun _ _ => none
  | n_2 + 1 => fun v1_2 p0l_2 => (if (p0w 0 0) ≤ v1_2 then some p0l_2 else ((fX2_mirror_L12 p0n p0w v1_2 NF 0 p0l_2).bind fun (o12 : SL) => ((fX2_mirror_L2 p0n p0w n_2) (v1_2 + 1) o12)))
def fX2_mirror (p0n : Nat → Nat) (p0w : ST) (p0l : SL) : Option SL := ((fX2_mirror_L2 p0n p0w NF 0 p0l).bind fun (o2 : SL) => some o2)
set_option maxHeartbeats 16000000 in
set_option maxRecDepth 100000 in
theorem kX2_mirror {zs : Nat × Nat} (l : Launch) (dC : Nat → ClassId) (dI : Nat → Nat → Nat) (p0a : Nat → Nat) (p0k : Nat → ClassId) (p0n : Nat → Nat) (p0w : ST) (p0l : SL) (sz : Nat) (o : SL) (hrun : fX2_mirror p0n p0w p0l = some o) : Met l yX2_mirror (wz yX2_mirror cX2_mirror 5 (Option.none : Option Jvm.ClassFile.FieldType)) ({ frames := 2, cells := 0, slots := 0, locals := 42 } : Room) (va_Pc [.ref (p0a 0)] (PRE zs dC dI (oX2 (p0a 0) p0a p0k p0n p0w p0l) (tX2 p0k) sz)) (va_Qv (fun (_ : Unit) => True) (fun _ t => POST dC dI (oX2 (p0a 0) p0a p0k p0n p0w o) (tX2 p0k) (va_A (oX2 (p0a 0) p0a p0k p0n p0w p0l) sz) t) (va_A (oX2 (p0a 0) p0a p0k p0n p0w p0l) sz)) 0 0 (va_A (oX2 (p0a 0) p0a p0k p0n p0w p0l) sz) := by
  refine Met.ofW (cc := cX2_mirror) (maxL := 5) (ret := (Option.none : Option Jvm.ClassFile.FieldType)) (by decide) rfl ?_
  intro p e s m args below meth c s₁ B hml hv
  obtain ⟨rfl, hsz, hP, hK, hD0, hE⟩ := hv
  have hx := B.exec
  have hb := B.bytes
  have hr := B.returns
  have hts0 := atoms_spec (ws := wz yX2_mirror cX2_mirror 5 (Option.none : Option Jvm.ClassFile.FieldType)) B.pre
  have hts : ∀ w ∈ gw, w.before _ s = true := fun w h => hts0 w (List.mem_cons_of_mem _ h)
  have hown : s.vm.findClass RX2 = some m.cls := findClass_of_methodNamed B.named
  have hlocks := B.notSynchronized
  subst hsz
  have hD := hD0.self (sz := s.heap.size)
  refine gQ9 ?_
  intro Q hQ
  generalize hAe : va_A (oX2 (p0a 0) p0a p0k p0n p0w p0l) s.heap.size = A at hD hE hQ
  have hA : ∀ q : Nat, s.heap.size ≤ q → A q := fun q h => by rw [← hAe]; exact Or.inr h
  have hS : va_S A s.heap s.heap [] := va_S.rf
  have hP : va_P (dC, dI) cls (oX2 (p0a 0) p0a p0k p0n p0w p0l) s.heap := hP
  have hl := lv_entry ([.ref (p0a 0)]) (n := 5) (Nat.le_of_ble_eq_true rfl)
  rw [lg_entry_eq]
  generalize (lg_sl ([.ref (p0a 0)]) ++ List.replicate (5 - (lg_sl ([.ref (p0a 0)])).length) Slot.unset).toArray = ls at hl ⊢
  have hl : lv_has ls 5 [(0, .ref (p0a 0))] := hl
  obtain ⟨H, hHe⟩ : ∃ H, H = s.heap := ⟨_, rfl⟩
  obtain ⟨locs, hle⟩ : ∃ locs : List Loc, locs = [] := ⟨_, rfl⟩
  rw [← hHe] at hP
  have hS : va_S A s.heap H locs := by rw [hHe, hle]; exact hS
  show W p l e ({ frames := 2, cells := 0, slots := 0, locals := 42 } : Room) s m ([.ref (p0a 0)] : List Value).toArray below meth c s.heap [] 0 0 Q (F0 m 0 ls [])
  rw [← hle]
  refine wH9 hHe ?_
  unfold fX2_mirror at hrun
  refine lv_iconst (v := 0) hx hb dX2_mirror_0 (by decide) ?_
  refine lv_istore_n (lv' := [(1, .int 0), (0, .ref (p0a 0))]) hx hb dX2_mirror_1 rfl hl (by decide) rfl (fun ls hl => ?_)
  have L2 : ∀ (n_2 : Nat) (v1_2 : Int32) (p0l_2 : SL) (o2 : SL) (H : Heap) (locs : List Loc) (ls : Array Slot), (fX2_mirror_L2 p0n p0w n_2) v1_2 p0l_2 = some o2 → va_P (dC, dI) cls (oX2 (p0a 0) p0a p0k p0n p0w p0l_2) H → va_D A (oX2 (p0a 0) p0a p0k p0n p0w p0l_2) → va_K (dC, dI) cls (tX2 p0k) s → va_S A s.heap H locs → lv_has ls 5 [(0, .ref (p0a 0)), (1, .int v1_2)] → (∀ (H : Heap) (locs : List Loc) (ls : Array Slot), va_P (dC, dI) cls (oX2 (p0a 0) p0a p0k p0n p0w o2) H → va_D A (oX2 (p0a 0) p0a p0k p0n p0w o2) → va_K (dC, dI) cls (tX2 p0k) s → va_S A s.heap H locs → lv_has ls 5 [] → W p l e ({ frames := 2, cells := 0, slots := 0, locals := 42 } : Room) s m ([.ref (p0a 0)] : List Value).toArray below meth c H locs 0 0 Q (F0 m 79 ls [])) → W p l e ({ frames := 2, cells := 0, slots := 0, locals := 42 } : Room) s m ([.ref (p0a 0)] : List Value).toArray below meth c H locs 0 0 Q (F0 m 2 ls []) := by
    intro n_2
    induction n_2 with
    | zero => intro v1_2 p0l_2 o2 H locs ls hrun; exact (no9 rfl hrun).elim
    | succ n_2 IH2 =>
      intro v1_2 p0l_2 o2 H locs ls hrun hP hD hK hS hl hk2
      unfold fX2_mirror_L2 at hrun
      refine lv_iload_n hx hb dX2_mirror_2 rfl (lv_at hl 1 rfl) ?_
      refine lv_aload_n hx hb dX2_mirror_3 rfl (lv_at hl 0 rfl) ?_
      refine va_get (D := (dC, dI)) (ci := 9) (v := .int (p0w 0 0)) (C := RX2) (T := TX2) (N := 19) hx hb hts i_X2 hown hK hP 0 rfl rfl 0 (by decide) (hts _ qw665) (fun _ h9 => h9) rfl dX2_mirror_4 ?_
      rcases br9 hrun with ⟨hc1, hrun⟩ | ⟨hc1, hrun⟩
      · refine lv_icmp_ge (tgt := 79) hx hb dX2_mirror_7 (by decide) (fun _ => ?_) (fun c => absurd hc1 c)
        obtain rfl := (Option.some.inj hrun)
        exact hk2 _ _ _ hP hD hK hS (lv_sub hl [] rfl)
      · refine lv_icmp_ge (tgt := 79) hx hb dX2_mirror_7 (by decide) (fun c => absurd c hc1) (fun _ => ?_)
        refine lv_iconst (v := 0) hx hb dX2_mirror_10 (by decide) ?_
        refine lv_istore_n (lv' := [(2, .int 0), (0, .ref (p0a 0)), (1, .int v1_2)]) hx hb dX2_mirror_11 rfl hl (by decide) rfl (fun ls hl => ?_)
        have L12 : ∀ (n_12 : Nat) (v2_12 : Int32) (p0l_12 : SL) (o12 : SL) (H : Heap) (locs : List Loc) (ls : Array Slot), (fX2_mirror_L12 p0n p0w v1_2 n_12) v2_12 p0l_12 = some o12 → va_P (dC, dI) cls (oX2 (p0a 0) p0a p0k p0n p0w p0l_12) H → va_D A (oX2 (p0a 0) p0a p0k p0n p0w p0l_12) → va_K (dC, dI) cls (tX2 p0k) s → va_S A s.heap H locs → lv_has ls 5 [(0, .ref (p0a 0)), (1, .int v1_2), (2, .int v2_12)] → (∀ (H : Heap) (locs : List Loc) (ls : Array Slot), va_P (dC, dI) cls (oX2 (p0a 0) p0a p0k p0n p0w o12) H → va_D A (oX2 (p0a 0) p0a p0k p0n p0w o12) → va_K (dC, dI) cls (tX2 p0k) s → va_S A s.heap H locs → lv_has ls 5 [(0, .ref (p0a 0)), (1, .int v1_2)] → W p l e ({ frames := 2, cells := 0, slots := 0, locals := 42 } : Room) s m ([.ref (p0a 0)] : List Value).toArray below meth c H locs 0 0 Q (F0 m 73 ls [])) → W p l e ({ frames := 2, cells := 0, slots := 0, locals := 42 } : Room) s m ([.ref (p0a 0)] : List Value).toArray below meth c H locs 0 0 Q (F0 m 12 ls []) := by
          intro n_12
          induction n_12 with
          | zero => intro v2_12 p0l_12 o12 H locs ls hrun; exact (no9 rfl hrun).elim
          | succ n_12 IH12 =>
            intro v2_12 p0l_12 o12 H locs ls hrun hP hD hK hS hl hk12
            unfold fX2_mirror_L12 at hrun
            refine lv_iload_n hx hb dX2_mirror_12 rfl (lv_at hl 2 rfl) ?_
            refine lv_aload_n hx hb dX2_mirror_13 rfl (lv_at hl 0 rfl) ?_
            refine va_get (D := (dC, dI)) (ci := 9) (v := .int (p0w 0 2)) (C := RX2) (T := TX2) (N := 19) hx hb hts i_X2 hown hK hP 0 rfl rfl 2 (by decide) (hts _ qw667) (fun _ h9 => h9) rfl dX2_mirror_14 ?_
            rcases br9 hrun with ⟨hc2, hrun⟩ | ⟨hc2, hrun⟩
            · refine lv_icmp_ge (tgt := 73) hx hb dX2_mirror_17 (by decide) (fun _ => ?_) (fun c => absurd hc2 c)
              obtain rfl := (Option.some.inj hrun)
              exact hk12 _ _ _ hP hD hK hS (lv_sub hl [0, 1] rfl)
            · refine lv_icmp_ge (tgt := 73) hx hb dX2_mirror_17 (by decide) (fun c => absurd c hc2) (fun _ => ?_)
              refine lv_aload_n hx hb dX2_mirror_20 rfl (lv_at hl 0 rfl) ?_
              refine va_get (D := (dC, dI)) (ci := 9) (v := .ref (p0a 11)) (C := RX2) (T := TX2) (N := 19) hx hb hts i_X2 hown hK hP 0 rfl rfl 10 (by decide) (hts _ qw679) (fun _ h9 => h9) rfl dX2_mirror_21 ?_
              refine lv_iload_n hx hb dX2_mirror_24 rfl (lv_at hl 1 rfl) ?_
              refine lv_aload_n hx hb dX2_mirror_25 rfl (lv_at hl 0 rfl) ?_
              refine va_get (D := (dC, dI)) (ci := 9) (v := .int (p0w 0 2)) (C := RX2) (T := TX2) (N := 19) hx hb hts i_X2 hown hK hP 0 rfl rfl 2 (by decide) (hts _ qw667) (fun _ h9 => h9) rfl dX2_mirror_26 ?_
              refine lv_imul hx hb dX2_mirror_29 ?_
              refine lv_iload_n hx hb dX2_mirror_30 rfl (lv_at hl 2 rfl) ?_
              refine lv_iadd hx hb dX2_mirror_31 ?_
              obtain ⟨hq3, hrun⟩ := chk9 hrun
              refine va_lald hx hb hK hP 7 6 rfl rfl (ixb_in hq3) dX2_mirror_32 ?_
              refine lv_lstore_n (lv' := [(3, .long (p0l_12 11 (nn ((v1_2 * (p0w 0 2)) + v2_12)))), (0, .ref (p0a 0)), (1, .int v1_2), (2, .int v2_12)]) hx hb dX2_mirror_33 rfl hl (by decide) rfl (fun ls hl => ?_)
              have L34 : ∀ (n_34 : Nat) (v3_34 : Int64) (p0l_34 : SL) (o34 : SL) (H : Heap) (locs : List Loc) (ls : Array Slot), (fX2_mirror_L34 p0n p0w v1_2 v2_12 n_34) v3_34 p0l_34 = some o34 → va_P (dC, dI) cls (oX2 (p0a 0) p0a p0k p0n p0w p0l_34) H → va_D A (oX2 (p0a 0) p0a p0k p0n p0w p0l_34) → va_K (dC, dI) cls (tX2 p0k) s → va_S A s.heap H locs → lv_has ls 5 [(0, .ref (p0a 0)), (1, .int v1_2), (2, .int v2_12), (3, .long v3_34)] → (∀ (H : Heap) (locs : List Loc) (ls : Array Slot), va_P (dC, dI) cls (oX2 (p0a 0) p0a p0k p0n p0w o34) H → va_D A (oX2 (p0a 0) p0a p0k p0n p0w o34) → va_K (dC, dI) cls (tX2 p0k) s → va_S A s.heap H locs → lv_has ls 5 [(0, .ref (p0a 0)), (1, .int v1_2), (2, .int v2_12)] → W p l e ({ frames := 2, cells := 0, slots := 0, locals := 42 } : Room) s m ([.ref (p0a 0)] : List Value).toArray below meth c H locs 0 0 Q (F0 m 67 ls [])) → W p l e ({ frames := 2, cells := 0, slots := 0, locals := 42 } : Room) s m ([.ref (p0a 0)] : List Value).toArray below meth c H locs 0 0 Q (F0 m 34 ls []) := by
                intro n_34
                induction n_34 with
                | zero => intro v3_34 p0l_34 o34 H locs ls hrun; exact (no9 rfl hrun).elim
                | succ n_34 IH34 =>
                  intro v3_34 p0l_34 o34 H locs ls hrun hP hD hK hS hl hk34
                  unfold fX2_mirror_L34 at hrun
                  refine lv_lload_n hx hb dX2_mirror_34 rfl (lv_at hl 3 rfl) ?_
                  refine lv_lconst (v := 0) hx hb dX2_mirror_35 (by decide) ?_
                  refine W.lcmp hx hb dX2_mirror_36 ?_
                  rcases br9 hrun with ⟨hc4, hrun⟩ | ⟨hc4, hrun⟩
                  · refine lv_if_eq (tgt := 67) hx hb dX2_mirror_37 (by decide) (fun _ => ?_) (fun c => absurd hc4 c)
                    obtain rfl := (Option.some.inj hrun)
                    exact hk34 _ _ _ hP hD hK hS (lv_sub hl [0, 1, 2] rfl)
                  · refine lv_if_eq (tgt := 67) hx hb dX2_mirror_37 (by decide) (fun c => absurd c hc4) (fun _ => ?_)
                    refine lv_aload_n hx hb dX2_mirror_40 rfl (lv_at hl 0 rfl) ?_
                    refine lv_aload_n hx hb dX2_mirror_41 rfl (lv_at hl 0 rfl) ?_
                    refine va_get (D := (dC, dI)) (ci := 9) (v := .ref (p0a 11)) (C := RX2) (T := TX2) (N := 19) hx hb hts i_X2 hown hK hP 0 rfl rfl 10 (by decide) (hts _ qw679) (fun _ h9 => h9) rfl dX2_mirror_42 ?_
                    refine lv_iload_n hx hb dX2_mirror_45 rfl (lv_at hl 2 rfl) ?_
                    refine lv_bipush (v := 64) hx hb dX2_mirror_46 (by decide) ?_
                    refine lv_imul hx hb dX2_mirror_48 ?_
                    refine lv_lload_n hx hb dX2_mirror_49 rfl (lv_at hl 3 rfl) ?_
                    obtain ⟨o_5, hc_5, hrun⟩ := bnd9 hrun
                    have hPc := hP.sub (ws' := ([] : va_W)) [] rfl
                    have hDc := hD.sub (ws' := ([] : va_W)) [] (by decide) rfl
                    have hKc := hK.sub (tys' := ([] : List (ClassId × FieldType))) [] rfl
                    have hFc := va_free (wc := ([] : va_W)) hD hS hA [] rfl
                    refine va_calli (va_runSN (As := [.long v3_34]) (rest := [.int (v2_12 * 64), .ref (p0a 11), .ref (p0a 0)]) ⟨hx, hb, hml, hown, hts⟩ (kX11_lowest l dC dI (p0 := v3_34) (sz := _) (o := o_5) (hrun := hc_5)) ⟨(va_cnB 1 hts (gi_z qw773) rfl rfl rfl (hE.nw (List.mem_append_right _ (tbl_9 (i := 34) rfl)) rfl) (hts _ qw129) (by decide +kernel) ⟨Nat.le_of_ble_eq_true rfl, Nat.le_of_ble_eq_true rfl⟩), (hts _ qw774), trivial⟩ ⟨PRE.blind, PRE.of hE hS hFc hPc hKc hDc⟩ rfl rfl hl.1 rfl (lv_room (Nat.le_of_ble_eq_true rfl)) dX2_mirror_50 ⟨(Nat.le_of_ble_eq_true rfl), (Nat.le_of_ble_eq_true rfl)⟩) hS (fun q _ h => hFc q h) hFc (fun r6 u t H locs ht hvm hw hB hz1 hk1 hS => ?_)
                    obtain ⟨hP, hD, hK⟩ := JOIN (wr := (oX2 (p0a 0) p0a p0k p0n p0w p0l_34)) hP hD hK [] [0, 1, 2, 3, 4, 5, 6, 7, 8, 9, 10, 11, 12, 13, 14, 15] [0, 1, 2, 3, 4, 5, 6, 7, 8, 9, 10, 11, 12, 13, 14] rfl rfl (by decide) (by decide) rfl hk1 hFc ht hvm hB
                    have hP : va_P (dC, dI) cls (oX2 (p0a 0) p0a p0k p0n p0w p0l_34) H := hP.sub [0, 1, 2, 3, 4, 5, 6, 7, 8, 9, 10, 11, 12, 13, 14, 15] rfl
                    have hD : va_D A (oX2 (p0a 0) p0a p0k p0n p0w p0l_34) := hD.sub [0, 1, 2, 3, 4, 5, 6, 7, 8, 9, 10, 11, 12, 13, 14, 15] (by decide) rfl
                    have hK : va_K (dC, dI) cls (tX2 p0k) s := hK.sub [0, 1, 2, 3, 4, 5, 6, 7, 8, 9, 10, 11, 12, 13, 14] rfl
                    obtain rfl : o_5 = r6 := hw.symm
                    refine lv_iadd hx hb dX2_mirror_53 ?_
                    refine lv_iload_n hx hb dX2_mirror_54 rfl (lv_at hl 1 rfl) ?_
                    obtain ⟨o_7, hc_7, hrun⟩ := bnd9 hrun
                    have hPc := hP.sub (ws' := (oX2 (p0a 0) p0a p0k p0n p0w p0l_34)) [0, 1, 2, 3, 4, 5, 6, 7, 8, 9, 10, 11, 12, 13, 14, 15] rfl
                    have hDc := hD.sub (ws' := (oX2 (p0a 0) p0a p0k p0n p0w p0l_34)) [0, 1, 2, 3, 4, 5, 6, 7, 8, 9, 10, 11, 12, 13, 14, 15] (by decide) rfl
                    have hKc := hK.sub (tys' := (tX2 p0k)) [0, 1, 2, 3, 4, 5, 6, 7, 8, 9, 10, 11, 12, 13, 14] rfl
                    have hFc := va_free (wc := (oX2 (p0a 0) p0a p0k p0n p0w p0l_34)) hD hS hA [0, 1, 2, 3, 4, 5, 6, 7, 8, 9, 10, 11, 12, 13, 14, 15] rfl
                    refine va_callv (va_runV (As := [.ref (p0a 11), .int ((v2_12 * 64) + o_5), .int v1_2]) (rest := []) ⟨hx, hb, hml, hown, hts⟩ (kX2_put_a1_p0_10 l dC dI (p0a := (st0 (p0a 0) p0a)) (p0k := p0k) (p0n := p0n) (p0w := p0w) (p0l := p0l_34) (p2 := ((v2_12 * 64) + o_5)) (p3 := v1_2) (sz := _) (o := o_7) (hrun := hc_7)) (cwV 3 hts (gi_V qw702 qw703 qw704 qw692 (gi_z qw701)) rfl rfl rfl (by decide +kernel) ⟨Nat.le_of_ble_eq_true rfl, Nat.le_of_ble_eq_true rfl⟩) ⟨PRE.blind, va_recv hKc hPc (ci := 9) (q0 := 0) rfl rfl, PRE.of hE hS hFc hPc hKc hDc⟩ rfl rfl hl.1 rfl (lv_room (Nat.le_of_ble_eq_true rfl)) dX2_mirror_55 ⟨(Nat.le_of_ble_eq_true rfl), (Nat.le_of_ble_eq_true rfl)⟩) hS (fun q _ h => hFc q h) hFc (fun u t H locs ht hvm hw hB hz1 hk1 hS => ?_)
                    obtain ⟨hP, hD, hK⟩ := JOIN (wr := ([] : va_W)) hP hD hK [0, 1, 2, 3, 4, 5, 6, 7, 8, 9, 10, 11, 12, 13, 14, 15] [] [] rfl rfl (by decide) (by decide) rfl hk1 hFc ht hvm hB
                    have hP : va_P (dC, dI) cls (oX2 (p0a 0) p0a p0k p0n p0w o_7) H := hP.sub [0, 1, 2, 3, 4, 5, 6, 7, 8, 9, 10, 11, 12, 13, 14, 15] rfl
                    have hD : va_D A (oX2 (p0a 0) p0a p0k p0n p0w o_7) := hD.sub [0, 1, 2, 3, 4, 5, 6, 7, 8, 9, 10, 11, 12, 13, 14, 15] (by decide) rfl
                    have hK : va_K (dC, dI) cls (tX2 p0k) s := hK.sub [0, 1, 2, 3, 4, 5, 6, 7, 8, 9, 10, 11, 12, 13, 14] rfl
                    refine lv_lload_n hx hb dX2_mirror_58 rfl (lv_at hl 3 rfl) ?_
                    refine lv_lload_n hx hb dX2_mirror_59 rfl (lv_at hl 3 rfl) ?_
                    refine lv_lconst (v := 1) hx hb dX2_mirror_60 (by decide) ?_
                    refine lv_lsub hx hb dX2_mirror_61 ?_
                    refine lv_land hx hb dX2_mirror_62 ?_
                    refine lv_lstore_n (lv' := [(3, .long (v3_34 &&& (v3_34 - (1 : Int64)))), (0, .ref (p0a 0)), (1, .int v1_2), (2, .int v2_12)]) hx hb dX2_mirror_63 rfl hl (by decide) rfl (fun ls hl => ?_)
                    refine lv_goto (tgt := 34) hx hb dX2_mirror_64 (by decide) ?_
                    exact IH34 (v3_34 &&& (v3_34 - (1 : Int64))) o_7 o34 _ _ _ hrun hP hD hK hS (lv_sub hl [1, 2, 3, 0] rfl) hk34
              obtain ⟨o34, hc34, hrun⟩ := bnd9 hrun
              refine L34 NF (p0l_12 11 (nn ((v1_2 * (p0w 0 2)) + v2_12))) p0l_12 o34 _ _ _ hc34 hP hD hK hS (lv_sub hl [1, 2, 3, 0] rfl) ?_
              intro H locs ls hP hD hK hS hl
              have hl := hl
              refine lv_iinc (v := (v2_12 + 1)) (lv' := [(2, .int (v2_12 + 1)), (0, .ref (p0a 0)), (1, .int v1_2)]) hx hb dX2_mirror_67 hl (k := 2) rfl rfl (by decide) rfl (fun ls hl => ?_)
              refine lv_goto (tgt := 12) hx hb dX2_mirror_70 (by decide) ?_
              exact IH12 (v2_12 + 1) o34 o12 _ _ _ hrun hP hD hK hS (lv_sub hl [1, 2, 0] rfl) hk12
        obtain ⟨o12, hc12, hrun⟩ := bnd9 hrun
        refine L12 NF 0 p0l_2 o12 _ _ _ hc12 hP hD hK hS (lv_sub hl [1, 2, 0] rfl) ?_
        intro H locs ls hP hD hK hS hl
        have hl := hl
        refine lv_iinc (v := (v1_2 + 1)) (lv' := [(1, .int (v1_2 + 1)), (0, .ref (p0a 0))]) hx hb dX2_mirror_73 hl (k := 1) rfl rfl (by decide) rfl (fun ls hl => ?_)
        refine lv_goto (tgt := 2) hx hb dX2_mirror_76 (by decide) ?_
        exact IH2 (v1_2 + 1) o12 o2 _ _ _ hrun hP hD hK hS (lv_sub hl [1, 0] rfl) hk2
  obtain ⟨o2, hc2, hrun⟩ := bnd9 hrun
  refine L2 NF 0 p0l o2 _ _ _ hc2 hP hD hK hS (lv_sub hl [1, 0] rfl) ?_
  intro H locs ls hP hD hK hS hl
  have hl := hl
  have ho9 : o2 = o := Option.some.inj hrun
  have hP9 : va_P (dC, dI) cls (oX2 (p0a 0) p0a p0k p0n p0w o) H := by first | exact hP | (rw [← ho9]; exact hP)
  have hD9 : va_D A (oX2 (p0a 0) p0a p0k p0n p0w o) := by first | exact hD | (rw [← ho9]; exact hD)
  subst hQ
  exact W.vret hx hb hr (fun t ht hW => ⟨⟨(), rfl, trivial, ⟨by rw [ht]; exact hP9, va_K.moved hW.alike hK, hD9⟩⟩, hS.F ht⟩) hS.2.2 dX2_mirror_79
def fX2_countDegrees_L32 (p0n : Nat → Nat) (p0l : SL) (v1_2 : Int32) : Nat → Int32 → ST → Option ST
  | 0 => fun _ _ => none
  | n_32 + 1 => fun v2_32 p0w_32 => (if (p0w_32 0 2) ≤ v2_32 then some p0w_32 else (if ixb v1_2 (p0n 13) = true then (if ixb ((v1_2 * (p0w_32 0 2)) + v2_32) (p0n 11) = true then ((fJ13_bitCount_95d88 (p0l 11 (nn ((v1_2 * (p0w_32 0 2)) + v2_32)))).bind fun (o_8 : Int32) => (if ixb v1_2 (p0n 13) = true then (lt9 (upw p0w_32 13 (nn v1_2) ((p0w_32 13 (nn v1_2)) + o_8)) fun (w11 : ST) => ((fX2_countDegrees_L32 p0n p0l v1_2 n_32) (v2_32 + 1) w11)) else none)) else none) else none))
def fX2_countDegrees_J29 (kk2 : Int32 → ST → Option ST) (p0n : Nat → Nat) (p0l : SL) (v1_2 : Int32) (p0w_2 : ST) (y0_29 : Int32) (y1_29 : Int32) : Option ST := (if ixb y1_29 (p0n 13) = true then (lt9 (upw p0w_2 13 (nn y1_29) y0_29) fun (w4 : ST) => ((fX2_countDegrees_L32 p0n p0l v1_2 NF 0 w4).bind fun (o32 : ST) => (kk2 (v1_2 + 1) o32))) else none)
def fX2_countDegrees_L2 (p0n : Nat → Nat) (p0l : SL) : Nat → Int32 → ST → Option ST
  | 0 => fun _ _ => none
  | n_2 + 1 => fun v1_2 p0w_2 => (if (p0w_2 0 1) ≤ v1_2 then some p0w_2 else (if ixb v1_2 (p0n 12) = true then (if (p0w_2 12 (nn v1_2)) < 0 then (fX2_countDegrees_J29 (fX2_countDegrees_L2 p0n p0l n_2) p0n p0l v1_2 p0w_2 0 v1_2) else (fX2_countDegrees_J29 (fX2_countDegrees_L2 p0n p0l n_2) p0n p0l v1_2 p0w_2 1 v1_2)) else none))
def fX2_countDegrees_L114 (p0n : Nat → Nat) (v2_92 : Int32) : Nat → Int64 → ST → Option ST
  | 0 => fun _ _ => none
  | n_114 + 1 => fun v3_114 p0w_114 => (if (lg_cmp v3_114 (0 : Int64)) = 0 then some p0w_114 else ((fX11_lowest v3_114).bind fun (o_17 : Int32) => (if ixb ((v2_92 * 64) + o_17) (p0n 13) = true then (if ixb ((v2_92 * 64) + o_17) (p0n 13) = true then (lt9 (upw p0w_114 13 (nn ((v2_92 * 64) + o_17)) ((p0w_114 13 (nn ((v2_92 * 64) + o_17))) + 1)) fun (w21 : ST) => ((fX2_countDegrees_L114 p0n v2_92 n_114) (v3_114 &&& (v3_114 - (1 : Int64))) w21)) else none) else none)))
def fX2_countDegrees_L92 (p0n : Nat → Nat) (p0l : SL) (v1_82 : Int32) : Nat → Int32 → ST → Option ST
  | 0 => fun _ _ => none
  | n_92 + 1 => fun v2_92 p0w_92 => (if (p0w_92 0 2) ≤ v2_92 then some p0w_92 else (if ixb ((v1_82 * (p0w_92 0 2)) + v2_92) (p0n 11) = true then ((fX2_countDegrees_L114 p0n v2_92 NF (p0l 11 (nn ((v1_82 * (p0w_92 0 2)) + v2_92))) p0w_92).bind fun (o114 : ST) => ((fX2_countDegrees_L92 p0n p0l v1_82 n_92) (v2_92 + 1) o114)) else none))
def fX2_countDegrees_L82 (p0n : Nat → Nat) (p0l : SL) : Nat → Int32 → ST → Option ST
  | 0 => fun _ _ => none
  | n_82 + 1 => fun v1_82 p0w_82 => (if (p0w_82 0 1) ≤ v1_82 then some p0w_82 else ((fX2_countDegrees_L92 p0n p0l v1_82 NF 0 p0w_82).bind fun (o92 : ST) => ((fX2_countDegrees_L82 p0n p0l n_82) (v1_82 + 1) o92)))
def fX2_countDegrees (p0n : Nat → Nat) (p0w : ST) (p0l : SL) : Option ST := ((fX2_countDegrees_L2 p0n p0l NF 0 p0w).bind fun (o2 : ST) => ((fX2_countDegrees_L82 p0n p0l NF (o2 0 0) o2).bind fun (o82 : ST) => some o82))
set_option maxHeartbeats 16000000 in
set_option maxRecDepth 100000 in
theorem kX2_countDegrees {zs : Nat × Nat} (l : Launch) (dC : Nat → ClassId) (dI : Nat → Nat → Nat) (p0a : Nat → Nat) (p0k : Nat → ClassId) (p0n : Nat → Nat) (p0w : ST) (p0l : SL) (sz : Nat) (o : ST) (hrun : fX2_countDegrees p0n p0w p0l = some o) : Met l yX2_countDegrees (wz yX2_countDegrees cX2_countDegrees 5 (Option.none : Option Jvm.ClassFile.FieldType)) ({ frames := 2, cells := 0, slots := 0, locals := 42 } : Room) (va_Pc [.ref (p0a 0)] (PRE zs dC dI (oX2 (p0a 0) p0a p0k p0n p0w p0l) (tX2 p0k) sz)) (va_Qv (fun (_ : Unit) => True) (fun _ t => POST dC dI (oX2 (p0a 0) p0a p0k p0n o p0l) (tX2 p0k) (va_A (oX2 (p0a 0) p0a p0k p0n p0w p0l) sz) t) (va_A (oX2 (p0a 0) p0a p0k p0n p0w p0l) sz)) 0 0 (va_A (oX2 (p0a 0) p0a p0k p0n p0w p0l) sz) := by
  refine Met.ofW (cc := cX2_countDegrees) (maxL := 5) (ret := (Option.none : Option Jvm.ClassFile.FieldType)) (by decide) rfl ?_
  intro p e s m args below meth c s₁ B hml hv
  obtain ⟨rfl, hsz, hP, hK, hD0, hE⟩ := hv
  have hx := B.exec
  have hb := B.bytes
  have hr := B.returns
  have hts0 := atoms_spec (ws := wz yX2_countDegrees cX2_countDegrees 5 (Option.none : Option Jvm.ClassFile.FieldType)) B.pre
  have hts : ∀ w ∈ gw, w.before _ s = true := fun w h => hts0 w (List.mem_cons_of_mem _ h)
  have hown : s.vm.findClass RX2 = some m.cls := findClass_of_methodNamed B.named
  have hlocks := B.notSynchronized
  subst hsz
  have hD := hD0.self (sz := s.heap.size)
  refine gQ9 ?_
  intro Q hQ
  generalize hAe : va_A (oX2 (p0a 0) p0a p0k p0n p0w p0l) s.heap.size = A at hD hE hQ
  have hA : ∀ q : Nat, s.heap.size ≤ q → A q := fun q h => by rw [← hAe]; exact Or.inr h
  have hS : va_S A s.heap s.heap [] := va_S.rf
  have hP : va_P (dC, dI) cls (oX2 (p0a 0) p0a p0k p0n p0w p0l) s.heap := hP
  have hl := lv_entry ([.ref (p0a 0)]) (n := 5) (Nat.le_of_ble_eq_true rfl)
  rw [lg_entry_eq]
  generalize (lg_sl ([.ref (p0a 0)]) ++ List.replicate (5 - (lg_sl ([.ref (p0a 0)])).length) Slot.unset).toArray = ls at hl ⊢
  have hl : lv_has ls 5 [(0, .ref (p0a 0))] := hl
  obtain ⟨H, hHe⟩ : ∃ H, H = s.heap := ⟨_, rfl⟩
  obtain ⟨locs, hle⟩ : ∃ locs : List Loc, locs = [] := ⟨_, rfl⟩
  rw [← hHe] at hP
  have hS : va_S A s.heap H locs := by rw [hHe, hle]; exact hS
  show W p l e ({ frames := 2, cells := 0, slots := 0, locals := 42 } : Room) s m ([.ref (p0a 0)] : List Value).toArray below meth c s.heap [] 0 0 Q (F0 m 0 ls [])
  rw [← hle]
  refine wH9 hHe ?_
  unfold fX2_countDegrees at hrun
  refine lv_iconst (v := 0) hx hb dX2_countDegrees_0 (by decide) ?_
  refine lv_istore_n (lv' := [(1, .int 0), (0, .ref (p0a 0))]) hx hb dX2_countDegrees_1 rfl hl (by decide) rfl (fun ls hl => ?_)
  have L2 : ∀ (n_2 : Nat) (v1_2 : Int32) (p0w_2 : ST) (o2 : ST) (H : Heap) (locs : List Loc) (ls : Array Slot), (fX2_countDegrees_L2 p0n p0l n_2) v1_2 p0w_2 = some o2 → va_P (dC, dI) cls (oX2 (p0a 0) p0a p0k p0n p0w_2 p0l) H → va_D A (oX2 (p0a 0) p0a p0k p0n p0w_2 p0l) → va_K (dC, dI) cls (tX2 p0k) s → va_S A s.heap H locs → lv_has ls 5 [(0, .ref (p0a 0)), (1, .int v1_2)] → (∀ (H : Heap) (locs : List Loc) (ls : Array Slot), va_P (dC, dI) cls (oX2 (p0a 0) p0a p0k p0n o2 p0l) H → va_D A (oX2 (p0a 0) p0a p0k p0n o2 p0l) → va_K (dC, dI) cls (tX2 p0k) s → va_S A s.heap H locs → lv_has ls 5 [(0, .ref (p0a 0))] → W p l e ({ frames := 2, cells := 0, slots := 0, locals := 42 } : Room) s m ([.ref (p0a 0)] : List Value).toArray below meth c H locs 0 0 Q (F0 m 77 ls [])) → W p l e ({ frames := 2, cells := 0, slots := 0, locals := 42 } : Room) s m ([.ref (p0a 0)] : List Value).toArray below meth c H locs 0 0 Q (F0 m 2 ls []) := by
    intro n_2
    induction n_2 with
    | zero => intro v1_2 p0w_2 o2 H locs ls hrun; exact (no9 rfl hrun).elim
    | succ n_2 IH2 =>
      intro v1_2 p0w_2 o2 H locs ls hrun hP hD hK hS hl hk2
      unfold fX2_countDegrees_L2 at hrun
      refine lv_iload_n hx hb dX2_countDegrees_2 rfl (lv_at hl 1 rfl) ?_
      refine lv_aload_n hx hb dX2_countDegrees_3 rfl (lv_at hl 0 rfl) ?_
      refine va_get (D := (dC, dI)) (ci := 9) (v := .int (p0w_2 0 1)) (C := RX2) (T := TX2) (N := 19) hx hb hts i_X2 hown hK hP 0 rfl rfl 1 (by decide) (hts _ qw666) (fun _ h9 => h9) rfl dX2_countDegrees_4 ?_
      rcases br9 hrun with ⟨hc1, hrun⟩ | ⟨hc1, hrun⟩
      · refine lv_icmp_ge (tgt := 77) hx hb dX2_countDegrees_7 (by decide) (fun _ => ?_) (fun c => absurd hc1 c)
        obtain rfl := (Option.some.inj hrun)
        exact hk2 _ _ _ hP hD hK hS (lv_sub hl [0] rfl)
      · refine lv_icmp_ge (tgt := 77) hx hb dX2_countDegrees_7 (by decide) (fun c => absurd c hc1) (fun _ => ?_)
        refine lv_aload_n hx hb dX2_countDegrees_10 rfl (lv_at hl 0 rfl) ?_
        refine va_get (D := (dC, dI)) (ci := 9) (v := .ref (p0a 13)) (C := RX2) (T := TX2) (N := 19) hx hb hts i_X2 hown hK hP 0 rfl rfl 12 (by decide) (hts _ qw681) (fun _ h9 => h9) rfl dX2_countDegrees_11 ?_
        refine lv_iload_n hx hb dX2_countDegrees_14 rfl (lv_at hl 1 rfl) ?_
        refine lv_aload_n hx hb dX2_countDegrees_15 rfl (lv_at hl 0 rfl) ?_
        refine va_get (D := (dC, dI)) (ci := 9) (v := .ref (p0a 12)) (C := RX2) (T := TX2) (N := 19) hx hb hts i_X2 hown hK hP 0 rfl rfl 11 (by decide) (hts _ qw680) (fun _ h9 => h9) rfl dX2_countDegrees_16 ?_
        refine lv_iload_n hx hb dX2_countDegrees_19 rfl (lv_at hl 1 rfl) ?_
        obtain ⟨hq2, hrun⟩ := chk9 hrun
        refine va_iald hx hb hK hP 8 7 rfl rfl (ixb_in hq2) dX2_countDegrees_20 ?_
        have J29 : ∀ (y0_29 : Int32) (y1_29 : Int32) (H : Heap) (locs : List Loc) (ls : Array Slot), (fX2_countDegrees_J29 (fX2_countDegrees_L2 p0n p0l n_2) p0n p0l v1_2 p0w_2 y0_29 y1_29) = some o2 → va_P (dC, dI) cls (oX2 (p0a 0) p0a p0k p0n p0w_2 p0l) H → va_D A (oX2 (p0a 0) p0a p0k p0n p0w_2 p0l) → va_K (dC, dI) cls (tX2 p0k) s → va_S A s.heap H locs → lv_has ls 5 [(0, .ref (p0a 0)), (1, .int v1_2)] → W p l e ({ frames := 2, cells := 0, slots := 0, locals := 42 } : Room) s m ([.ref (p0a 0)] : List Value).toArray below meth c H locs 0 0 Q (F0 m 29 ls [.int y0_29, .int y1_29, .ref (p0a 13)]) := by
          intro y0_29 y1_29 H locs ls hrun hP hD hK hS hl 
          unfold fX2_countDegrees_J29 at hrun
          obtain ⟨hq3, hrun⟩ := chk9 hrun
          refine va_iast hx hb hK hP hD hS 9 8 rfl rfl (ixb_in hq3) dX2_countDegrees_29 (fun H locs hP hD hS => ?_)
          have hP : va_P (dC, dI) cls (oX2 (p0a 0) p0a p0k p0n (upw p0w_2 13 (nn y1_29) y0_29) p0l) H := hP
          have hD : va_D A (oX2 (p0a 0) p0a p0k p0n (upw p0w_2 13 (nn y1_29) y0_29) p0l) := hD
          obtain ⟨w4, ew4, hrun⟩ := let9 hrun
          rw [← ew4] at hP hD
          refine lv_iconst (v := 0) hx hb dX2_countDegrees_30 (by decide) ?_
          refine lv_istore_n (lv' := [(2, .int 0), (0, .ref (p0a 0)), (1, .int v1_2)]) hx hb dX2_countDegrees_31 rfl hl (by decide) rfl (fun ls hl => ?_)
          have L32 : ∀ (n_32 : Nat) (v2_32 : Int32) (p0w_32 : ST) (o32 : ST) (H : Heap) (locs : List Loc) (ls : Array Slot), (fX2_countDegrees_L32 p0n p0l v1_2 n_32) v2_32 p0w_32 = some o32 → va_P (dC, dI) cls (oX2 (p0a 0) p0a p0k p0n p0w_32 p0l) H → va_D A (oX2 (p0a 0) p0a p0k p0n p0w_32 p0l) → va_K (dC, dI) cls (tX2 p0k) s → va_S A s.heap H locs → lv_has ls 5 [(0, .ref (p0a 0)), (1, .int v1_2), (2, .int v2_32)] → (∀ (H : Heap) (locs : List Loc) (ls : Array Slot), va_P (dC, dI) cls (oX2 (p0a 0) p0a p0k p0n o32 p0l) H → va_D A (oX2 (p0a 0) p0a p0k p0n o32 p0l) → va_K (dC, dI) cls (tX2 p0k) s → va_S A s.heap H locs → lv_has ls 5 [(0, .ref (p0a 0)), (1, .int v1_2)] → W p l e ({ frames := 2, cells := 0, slots := 0, locals := 42 } : Room) s m ([.ref (p0a 0)] : List Value).toArray below meth c H locs 0 0 Q (F0 m 71 ls [])) → W p l e ({ frames := 2, cells := 0, slots := 0, locals := 42 } : Room) s m ([.ref (p0a 0)] : List Value).toArray below meth c H locs 0 0 Q (F0 m 32 ls []) := by
            intro n_32
            induction n_32 with
            | zero => intro v2_32 p0w_32 o32 H locs ls hrun; exact (no9 rfl hrun).elim
            | succ n_32 IH32 =>
              intro v2_32 p0w_32 o32 H locs ls hrun hP hD hK hS hl hk32
              unfold fX2_countDegrees_L32 at hrun
              refine lv_iload_n hx hb dX2_countDegrees_32 rfl (lv_at hl 2 rfl) ?_
              refine lv_aload_n hx hb dX2_countDegrees_33 rfl (lv_at hl 0 rfl) ?_
              refine va_get (D := (dC, dI)) (ci := 9) (v := .int (p0w_32 0 2)) (C := RX2) (T := TX2) (N := 19) hx hb hts i_X2 hown hK hP 0 rfl rfl 2 (by decide) (hts _ qw667) (fun _ h9 => h9) rfl dX2_countDegrees_34 ?_
              rcases br9 hrun with ⟨hc5, hrun⟩ | ⟨hc5, hrun⟩
              · refine lv_icmp_ge (tgt := 71) hx hb dX2_countDegrees_37 (by decide) (fun _ => ?_) (fun c => absurd hc5 c)
                obtain rfl := (Option.some.inj hrun)
                exact hk32 _ _ _ hP hD hK hS (lv_sub hl [0, 1] rfl)
              · refine lv_icmp_ge (tgt := 71) hx hb dX2_countDegrees_37 (by decide) (fun c => absurd c hc5) (fun _ => ?_)
                refine lv_aload_n hx hb dX2_countDegrees_40 rfl (lv_at hl 0 rfl) ?_
                refine va_get (D := (dC, dI)) (ci := 9) (v := .ref (p0a 13)) (C := RX2) (T := TX2) (N := 19) hx hb hts i_X2 hown hK hP 0 rfl rfl 12 (by decide) (hts _ qw681) (fun _ h9 => h9) rfl dX2_countDegrees_41 ?_
                refine lv_iload_n hx hb dX2_countDegrees_44 rfl (lv_at hl 1 rfl) ?_
                refine lv_dup2_11 hx hb dX2_countDegrees_45 rfl rfl ?_
                obtain ⟨hq6, hrun⟩ := chk9 hrun
                refine va_iald hx hb hK hP 9 8 rfl rfl (ixb_in hq6) dX2_countDegrees_46 ?_
                refine lv_aload_n hx hb dX2_countDegrees_47 rfl (lv_at hl 0 rfl) ?_
                refine va_get (D := (dC, dI)) (ci := 9) (v := .ref (p0a 11)) (C := RX2) (T := TX2) (N := 19) hx hb hts i_X2 hown hK hP 0 rfl rfl 10 (by decide) (hts _ qw679) (fun _ h9 => h9) rfl dX2_countDegrees_48 ?_
                refine lv_iload_n hx hb dX2_countDegrees_51 rfl (lv_at hl 1 rfl) ?_
                refine lv_aload_n hx hb dX2_countDegrees_52 rfl (lv_at hl 0 rfl) ?_
                refine va_get (D := (dC, dI)) (ci := 9) (v := .int (p0w_32 0 2)) (C := RX2) (T := TX2) (N := 19) hx hb hts i_X2 hown hK hP 0 rfl rfl 2 (by decide) (hts _ qw667) (fun _ h9 => h9) rfl dX2_countDegrees_53 ?_
                refine lv_imul hx hb dX2_countDegrees_56 ?_
                refine lv_iload_n hx hb dX2_countDegrees_57 rfl (lv_at hl 2 rfl) ?_
                refine lv_iadd hx hb dX2_countDegrees_58 ?_
                obtain ⟨hq7, hrun⟩ := chk9 hrun
                refine va_lald hx hb hK hP 7 6 rfl rfl (ixb_in hq7) dX2_countDegrees_59 ?_
                obtain ⟨o_8, hc_8, hrun⟩ := bnd9 hrun
                have hPc := hP.sub (ws' := ([] : va_W)) [] rfl
                have hDc := hD.sub (ws' := ([] : va_W)) [] (by decide) rfl
                have hKc := hK.sub (tys' := ([] : List (ClassId × FieldType))) [] rfl
                have hFc := va_free (wc := ([] : va_W)) hD hS hA [] rfl
                refine va_calli (va_runS (As := [.long (p0l 11 (nn ((v1_2 * (p0w_32 0 2)) + v2_32)))]) (rest := [.int (p0w_32 13 (nn v1_2)), .int v1_2, .ref (p0a 13)]) ⟨hx, hb, hml, hown, hts⟩ (kJ13_bitCount_95d88 l dC dI (p0 := (p0l 11 (nn ((v1_2 * (p0w_32 0 2)) + v2_32)))) (sz := _) (o := o_8) (hrun := hc_8)) (va_cwS 1 hts (gi_S qw779 qw771 qw772 (gi_z qw769)) rfl rfl rfl (by decide +kernel) ⟨Nat.le_of_ble_eq_true rfl, Nat.le_of_ble_eq_true rfl⟩) ⟨PRE.blind, PRE.of hE hS hFc hPc hKc hDc⟩ rfl rfl hl.1 rfl (lv_room (Nat.le_of_ble_eq_true rfl)) dX2_countDegrees_60 ⟨(Nat.le_of_ble_eq_true rfl), (Nat.le_of_ble_eq_true rfl)⟩) hS (fun q _ h => hFc q h) hFc (fun r9 u t H locs ht hvm hw hB hz1 hk1 hS => ?_)
                obtain ⟨hP, hD, hK⟩ := JOIN (wr := (oX2 (p0a 0) p0a p0k p0n p0w_32 p0l)) hP hD hK [] [0, 1, 2, 3, 4, 5, 6, 7, 8, 9, 10, 11, 12, 13, 14, 15] [0, 1, 2, 3, 4, 5, 6, 7, 8, 9, 10, 11, 12, 13, 14] rfl rfl (by decide) (by decide) rfl hk1 hFc ht hvm hB
                have hP : va_P (dC, dI) cls (oX2 (p0a 0) p0a p0k p0n p0w_32 p0l) H := hP.sub [0, 1, 2, 3, 4, 5, 6, 7, 8, 9, 10, 11, 12, 13, 14, 15] rfl
                have hD : va_D A (oX2 (p0a 0) p0a p0k p0n p0w_32 p0l) := hD.sub [0, 1, 2, 3, 4, 5, 6, 7, 8, 9, 10, 11, 12, 13, 14, 15] (by decide) rfl
                have hK : va_K (dC, dI) cls (tX2 p0k) s := hK.sub [0, 1, 2, 3, 4, 5, 6, 7, 8, 9, 10, 11, 12, 13, 14] rfl
                obtain rfl : o_8 = r9 := hw.symm
                refine lv_iadd hx hb dX2_countDegrees_63 ?_
                obtain ⟨hq10, hrun⟩ := chk9 hrun
                refine va_iast hx hb hK hP hD hS 9 8 rfl rfl (ixb_in hq10) dX2_countDegrees_64 (fun H locs hP hD hS => ?_)
                have hP : va_P (dC, dI) cls (oX2 (p0a 0) p0a p0k p0n (upw p0w_32 13 (nn v1_2) ((p0w_32 13 (nn v1_2)) + o_8)) p0l) H := hP
                have hD : va_D A (oX2 (p0a 0) p0a p0k p0n (upw p0w_32 13 (nn v1_2) ((p0w_32 13 (nn v1_2)) + o_8)) p0l) := hD
                obtain ⟨w11, ew11, hrun⟩ := let9 hrun
                rw [← ew11] at hP hD
                refine lv_iinc (v := (v2_32 + 1)) (lv' := [(2, .int (v2_32 + 1)), (0, .ref (p0a 0)), (1, .int v1_2)]) hx hb dX2_countDegrees_65 hl (k := 2) rfl rfl (by decide) rfl (fun ls hl => ?_)
                refine lv_goto (tgt := 32) hx hb dX2_countDegrees_68 (by decide) ?_
                exact IH32 (v2_32 + 1) w11 o32 _ _ _ hrun hP hD hK hS (lv_sub hl [1, 2, 0] rfl) hk32
          obtain ⟨o32, hc32, hrun⟩ := bnd9 hrun
          refine L32 NF 0 w4 o32 _ _ _ hc32 hP hD hK hS (lv_sub hl [1, 2, 0] rfl) ?_
          intro H locs ls hP hD hK hS hl
          have hl := hl
          refine lv_iinc (v := (v1_2 + 1)) (lv' := [(1, .int (v1_2 + 1)), (0, .ref (p0a 0))]) hx hb dX2_countDegrees_71 hl (k := 1) rfl rfl (by decide) rfl (fun ls hl => ?_)
          refine lv_goto (tgt := 2) hx hb dX2_countDegrees_74 (by decide) ?_
          exact IH2 (v1_2 + 1) o32 o2 _ _ _ hrun hP hD hK hS (lv_sub hl [1, 0] rfl) hk2
        rcases br9 hrun with ⟨hc12, hrun⟩ | ⟨hc12, hrun⟩
        · refine lv_if_lt (tgt := 28) hx hb dX2_countDegrees_21 (by decide) (fun _ => ?_) (fun c => absurd hc12 c)
          refine lv_iconst (v := 0) hx hb dX2_countDegrees_28 (by decide) ?_
          exact J29 0 v1_2 _ _ _ hrun hP hD hK hS (lv_sub hl [0, 1] rfl)
        · refine lv_if_lt (tgt := 28) hx hb dX2_countDegrees_21 (by decide) (fun c => absurd c hc12) (fun _ => ?_)
          refine lv_iconst (v := 1) hx hb dX2_countDegrees_24 (by decide) ?_
          refine lv_goto (tgt := 29) hx hb dX2_countDegrees_25 (by decide) ?_
          exact J29 1 v1_2 _ _ _ hrun hP hD hK hS (lv_sub hl [0, 1] rfl)
  obtain ⟨o2, hc2, hrun⟩ := bnd9 hrun
  refine L2 NF 0 p0w o2 _ _ _ hc2 hP hD hK hS (lv_sub hl [1, 0] rfl) ?_
  intro H locs ls hP hD hK hS hl
  have hl := hl
  refine lv_aload_n hx hb dX2_countDegrees_77 rfl (lv_at hl 0 rfl) ?_
  refine va_get (D := (dC, dI)) (ci := 9) (v := .int (o2 0 0)) (C := RX2) (T := TX2) (N := 19) hx hb hts i_X2 hown hK hP 0 rfl rfl 0 (by decide) (hts _ qw665) (fun _ h9 => h9) rfl dX2_countDegrees_78 ?_
  refine lv_istore_n (lv' := [(1, .int (o2 0 0)), (0, .ref (p0a 0))]) hx hb dX2_countDegrees_81 rfl hl (by decide) rfl (fun ls hl => ?_)
  have L82 : ∀ (n_82 : Nat) (v1_82 : Int32) (p0w_82 : ST) (o82 : ST) (H : Heap) (locs : List Loc) (ls : Array Slot), (fX2_countDegrees_L82 p0n p0l n_82) v1_82 p0w_82 = some o82 → va_P (dC, dI) cls (oX2 (p0a 0) p0a p0k p0n p0w_82 p0l) H → va_D A (oX2 (p0a 0) p0a p0k p0n p0w_82 p0l) → va_K (dC, dI) cls (tX2 p0k) s → va_S A s.heap H locs → lv_has ls 5 [(0, .ref (p0a 0)), (1, .int v1_82)] → (∀ (H : Heap) (locs : List Loc) (ls : Array Slot), va_P (dC, dI) cls (oX2 (p0a 0) p0a p0k p0n o82 p0l) H → va_D A (oX2 (p0a 0) p0a p0k p0n o82 p0l) → va_K (dC, dI) cls (tX2 p0k) s → va_S A s.heap H locs → lv_has ls 5 [] → W p l e ({ frames := 2, cells := 0, slots := 0, locals := 42 } : Room) s m ([.ref (p0a 0)] : List Value).toArray below meth c H locs 0 0 Q (F0 m 159 ls [])) → W p l e ({ frames := 2, cells := 0, slots := 0, locals := 42 } : Room) s m ([.ref (p0a 0)] : List Value).toArray below meth c H locs 0 0 Q (F0 m 82 ls []) := by
    intro n_82
    induction n_82 with
    | zero => intro v1_82 p0w_82 o82 H locs ls hrun; exact (no9 rfl hrun).elim
    | succ n_82 IH82 =>
      intro v1_82 p0w_82 o82 H locs ls hrun hP hD hK hS hl hk82
      unfold fX2_countDegrees_L82 at hrun
      refine lv_iload_n hx hb dX2_countDegrees_82 rfl (lv_at hl 1 rfl) ?_
      refine lv_aload_n hx hb dX2_countDegrees_83 rfl (lv_at hl 0 rfl) ?_
      refine va_get (D := (dC, dI)) (ci := 9) (v := .int (p0w_82 0 1)) (C := RX2) (T := TX2) (N := 19) hx hb hts i_X2 hown hK hP 0 rfl rfl 1 (by decide) (hts _ qw666) (fun _ h9 => h9) rfl dX2_countDegrees_84 ?_
      rcases br9 hrun with ⟨hc13, hrun⟩ | ⟨hc13, hrun⟩
      · refine lv_icmp_ge (tgt := 159) hx hb dX2_countDegrees_87 (by decide) (fun _ => ?_) (fun c => absurd hc13 c)
        obtain rfl := (Option.some.inj hrun)
        exact hk82 _ _ _ hP hD hK hS (lv_sub hl [] rfl)
      · refine lv_icmp_ge (tgt := 159) hx hb dX2_countDegrees_87 (by decide) (fun c => absurd c hc13) (fun _ => ?_)
        refine lv_iconst (v := 0) hx hb dX2_countDegrees_90 (by decide) ?_
        refine lv_istore_n (lv' := [(2, .int 0), (0, .ref (p0a 0)), (1, .int v1_82)]) hx hb dX2_countDegrees_91 rfl hl (by decide) rfl (fun ls hl => ?_)
        have L92 : ∀ (n_92 : Nat) (v2_92 : Int32) (p0w_92 : ST) (o92 : ST) (H : Heap) (locs : List Loc) (ls : Array Slot), (fX2_countDegrees_L92 p0n p0l v1_82 n_92) v2_92 p0w_92 = some o92 → va_P (dC, dI) cls (oX2 (p0a 0) p0a p0k p0n p0w_92 p0l) H → va_D A (oX2 (p0a 0) p0a p0k p0n p0w_92 p0l) → va_K (dC, dI) cls (tX2 p0k) s → va_S A s.heap H locs → lv_has ls 5 [(0, .ref (p0a 0)), (1, .int v1_82), (2, .int v2_92)] → (∀ (H : Heap) (locs : List Loc) (ls : Array Slot), va_P (dC, dI) cls (oX2 (p0a 0) p0a p0k p0n o92 p0l) H → va_D A (oX2 (p0a 0) p0a p0k p0n o92 p0l) → va_K (dC, dI) cls (tX2 p0k) s → va_S A s.heap H locs → lv_has ls 5 [(0, .ref (p0a 0)), (1, .int v1_82)] → W p l e ({ frames := 2, cells := 0, slots := 0, locals := 42 } : Room) s m ([.ref (p0a 0)] : List Value).toArray below meth c H locs 0 0 Q (F0 m 153 ls [])) → W p l e ({ frames := 2, cells := 0, slots := 0, locals := 42 } : Room) s m ([.ref (p0a 0)] : List Value).toArray below meth c H locs 0 0 Q (F0 m 92 ls []) := by
          intro n_92
          induction n_92 with
          | zero => intro v2_92 p0w_92 o92 H locs ls hrun; exact (no9 rfl hrun).elim
          | succ n_92 IH92 =>
            intro v2_92 p0w_92 o92 H locs ls hrun hP hD hK hS hl hk92
            unfold fX2_countDegrees_L92 at hrun
            refine lv_iload_n hx hb dX2_countDegrees_92 rfl (lv_at hl 2 rfl) ?_
            refine lv_aload_n hx hb dX2_countDegrees_93 rfl (lv_at hl 0 rfl) ?_
            refine va_get (D := (dC, dI)) (ci := 9) (v := .int (p0w_92 0 2)) (C := RX2) (T := TX2) (N := 19) hx hb hts i_X2 hown hK hP 0 rfl rfl 2 (by decide) (hts _ qw667) (fun _ h9 => h9) rfl dX2_countDegrees_94 ?_
            rcases br9 hrun with ⟨hc14, hrun⟩ | ⟨hc14, hrun⟩
            · refine lv_icmp_ge (tgt := 153) hx hb dX2_countDegrees_97 (by decide) (fun _ => ?_) (fun c => absurd hc14 c)
              obtain rfl := (Option.some.inj hrun)
              exact hk92 _ _ _ hP hD hK hS (lv_sub hl [0, 1] rfl)
            · refine lv_icmp_ge (tgt := 153) hx hb dX2_countDegrees_97 (by decide) (fun c => absurd c hc14) (fun _ => ?_)
              refine lv_aload_n hx hb dX2_countDegrees_100 rfl (lv_at hl 0 rfl) ?_
              refine va_get (D := (dC, dI)) (ci := 9) (v := .ref (p0a 11)) (C := RX2) (T := TX2) (N := 19) hx hb hts i_X2 hown hK hP 0 rfl rfl 10 (by decide) (hts _ qw679) (fun _ h9 => h9) rfl dX2_countDegrees_101 ?_
              refine lv_iload_n hx hb dX2_countDegrees_104 rfl (lv_at hl 1 rfl) ?_
              refine lv_aload_n hx hb dX2_countDegrees_105 rfl (lv_at hl 0 rfl) ?_
              refine va_get (D := (dC, dI)) (ci := 9) (v := .int (p0w_92 0 2)) (C := RX2) (T := TX2) (N := 19) hx hb hts i_X2 hown hK hP 0 rfl rfl 2 (by decide) (hts _ qw667) (fun _ h9 => h9) rfl dX2_countDegrees_106 ?_
              refine lv_imul hx hb dX2_countDegrees_109 ?_
              refine lv_iload_n hx hb dX2_countDegrees_110 rfl (lv_at hl 2 rfl) ?_
              refine lv_iadd hx hb dX2_countDegrees_111 ?_
              obtain ⟨hq15, hrun⟩ := chk9 hrun
              refine va_lald hx hb hK hP 7 6 rfl rfl (ixb_in hq15) dX2_countDegrees_112 ?_
              refine lv_lstore_n (lv' := [(3, .long (p0l 11 (nn ((v1_82 * (p0w_92 0 2)) + v2_92)))), (0, .ref (p0a 0)), (1, .int v1_82), (2, .int v2_92)]) hx hb dX2_countDegrees_113 rfl hl (by decide) rfl (fun ls hl => ?_)
              have L114 : ∀ (n_114 : Nat) (v3_114 : Int64) (p0w_114 : ST) (o114 : ST) (H : Heap) (locs : List Loc) (ls : Array Slot), (fX2_countDegrees_L114 p0n v2_92 n_114) v3_114 p0w_114 = some o114 → va_P (dC, dI) cls (oX2 (p0a 0) p0a p0k p0n p0w_114 p0l) H → va_D A (oX2 (p0a 0) p0a p0k p0n p0w_114 p0l) → va_K (dC, dI) cls (tX2 p0k) s → va_S A s.heap H locs → lv_has ls 5 [(0, .ref (p0a 0)), (1, .int v1_82), (2, .int v2_92), (3, .long v3_114)] → (∀ (H : Heap) (locs : List Loc) (ls : Array Slot), va_P (dC, dI) cls (oX2 (p0a 0) p0a p0k p0n o114 p0l) H → va_D A (oX2 (p0a 0) p0a p0k p0n o114 p0l) → va_K (dC, dI) cls (tX2 p0k) s → va_S A s.heap H locs → lv_has ls 5 [(0, .ref (p0a 0)), (1, .int v1_82), (2, .int v2_92)] → W p l e ({ frames := 2, cells := 0, slots := 0, locals := 42 } : Room) s m ([.ref (p0a 0)] : List Value).toArray below meth c H locs 0 0 Q (F0 m 147 ls [])) → W p l e ({ frames := 2, cells := 0, slots := 0, locals := 42 } : Room) s m ([.ref (p0a 0)] : List Value).toArray below meth c H locs 0 0 Q (F0 m 114 ls []) := by
                intro n_114
                induction n_114 with
                | zero => intro v3_114 p0w_114 o114 H locs ls hrun; exact (no9 rfl hrun).elim
                | succ n_114 IH114 =>
                  intro v3_114 p0w_114 o114 H locs ls hrun hP hD hK hS hl hk114
                  unfold fX2_countDegrees_L114 at hrun
                  refine lv_lload_n hx hb dX2_countDegrees_114 rfl (lv_at hl 3 rfl) ?_
                  refine lv_lconst (v := 0) hx hb dX2_countDegrees_115 (by decide) ?_
                  refine W.lcmp hx hb dX2_countDegrees_116 ?_
                  rcases br9 hrun with ⟨hc16, hrun⟩ | ⟨hc16, hrun⟩
                  · refine lv_if_eq (tgt := 147) hx hb dX2_countDegrees_117 (by decide) (fun _ => ?_) (fun c => absurd hc16 c)
                    obtain rfl := (Option.some.inj hrun)
                    exact hk114 _ _ _ hP hD hK hS (lv_sub hl [0, 1, 2] rfl)
                  · refine lv_if_eq (tgt := 147) hx hb dX2_countDegrees_117 (by decide) (fun c => absurd c hc16) (fun _ => ?_)
                    refine lv_aload_n hx hb dX2_countDegrees_120 rfl (lv_at hl 0 rfl) ?_
                    refine va_get (D := (dC, dI)) (ci := 9) (v := .ref (p0a 13)) (C := RX2) (T := TX2) (N := 19) hx hb hts i_X2 hown hK hP 0 rfl rfl 12 (by decide) (hts _ qw681) (fun _ h9 => h9) rfl dX2_countDegrees_121 ?_
                    refine lv_iload_n hx hb dX2_countDegrees_124 rfl (lv_at hl 2 rfl) ?_
                    refine lv_bipush (v := 64) hx hb dX2_countDegrees_125 (by decide) ?_
                    refine lv_imul hx hb dX2_countDegrees_127 ?_
                    refine lv_lload_n hx hb dX2_countDegrees_128 rfl (lv_at hl 3 rfl) ?_
                    obtain ⟨o_17, hc_17, hrun⟩ := bnd9 hrun
                    have hPc := hP.sub (ws' := ([] : va_W)) [] rfl
                    have hDc := hD.sub (ws' := ([] : va_W)) [] (by decide) rfl
                    have hKc := hK.sub (tys' := ([] : List (ClassId × FieldType))) [] rfl
                    have hFc := va_free (wc := ([] : va_W)) hD hS hA [] rfl
                    refine va_calli (va_runSN (As := [.long v3_114]) (rest := [.int (v2_92 * 64), .ref (p0a 13)]) ⟨hx, hb, hml, hown, hts⟩ (kX11_lowest l dC dI (p0 := v3_114) (sz := _) (o := o_17) (hrun := hc_17)) ⟨(va_cnB 1 hts (gi_z qw773) rfl rfl rfl (hE.nw (List.mem_append_right _ (tbl_9 (i := 34) rfl)) rfl) (hts _ qw129) (by decide +kernel) ⟨Nat.le_of_ble_eq_true rfl, Nat.le_of_ble_eq_true rfl⟩), (hts _ qw774), trivial⟩ ⟨PRE.blind, PRE.of hE hS hFc hPc hKc hDc⟩ rfl rfl hl.1 rfl (lv_room (Nat.le_of_ble_eq_true rfl)) dX2_countDegrees_129 ⟨(Nat.le_of_ble_eq_true rfl), (Nat.le_of_ble_eq_true rfl)⟩) hS (fun q _ h => hFc q h) hFc (fun r18 u t H locs ht hvm hw hB hz1 hk1 hS => ?_)
                    obtain ⟨hP, hD, hK⟩ := JOIN (wr := (oX2 (p0a 0) p0a p0k p0n p0w_114 p0l)) hP hD hK [] [0, 1, 2, 3, 4, 5, 6, 7, 8, 9, 10, 11, 12, 13, 14, 15] [0, 1, 2, 3, 4, 5, 6, 7, 8, 9, 10, 11, 12, 13, 14] rfl rfl (by decide) (by decide) rfl hk1 hFc ht hvm hB
                    have hP : va_P (dC, dI) cls (oX2 (p0a 0) p0a p0k p0n p0w_114 p0l) H := hP.sub [0, 1, 2, 3, 4, 5, 6, 7, 8, 9, 10, 11, 12, 13, 14, 15] rfl
                    have hD : va_D A (oX2 (p0a 0) p0a p0k p0n p0w_114 p0l) := hD.sub [0, 1, 2, 3, 4, 5, 6, 7, 8, 9, 10, 11, 12, 13, 14, 15] (by decide) rfl
                    have hK : va_K (dC, dI) cls (tX2 p0k) s := hK.sub [0, 1, 2, 3, 4, 5, 6, 7, 8, 9, 10, 11, 12, 13, 14] rfl
                    obtain rfl : o_17 = r18 := hw.symm
                    refine lv_iadd hx hb dX2_countDegrees_132 ?_
                    refine lv_dup2_11 hx hb dX2_countDegrees_133 rfl rfl ?_
                    obtain ⟨hq19, hrun⟩ := chk9 hrun
                    refine va_iald hx hb hK hP 9 8 rfl rfl (ixb_in hq19) dX2_countDegrees_134 ?_
                    refine lv_iconst (v := 1) hx hb dX2_countDegrees_135 (by decide) ?_
                    refine lv_iadd hx hb dX2_countDegrees_136 ?_
                    obtain ⟨hq20, hrun⟩ := chk9 hrun
                    refine va_iast hx hb hK hP hD hS 9 8 rfl rfl (ixb_in hq20) dX2_countDegrees_137 (fun H locs hP hD hS => ?_)
                    have hP : va_P (dC, dI) cls (oX2 (p0a 0) p0a p0k p0n (upw p0w_114 13 (nn ((v2_92 * 64) + o_17)) ((p0w_114 13 (nn ((v2_92 * 64) + o_17))) + 1)) p0l) H := hP
                    have hD : va_D A (oX2 (p0a 0) p0a p0k p0n (upw p0w_114 13 (nn ((v2_92 * 64) + o_17)) ((p0w_114 13 (nn ((v2_92 * 64) + o_17))) + 1)) p0l) := hD
                    obtain ⟨w21, ew21, hrun⟩ := let9 hrun
                    rw [← ew21] at hP hD
                    refine lv_lload_n hx hb dX2_countDegrees_138 rfl (lv_at hl 3 rfl) ?_
                    refine lv_lload_n hx hb dX2_countDegrees_139 rfl (lv_at hl 3 rfl) ?_
                    refine lv_lconst (v := 1) hx hb dX2_countDegrees_140 (by decide) ?_
                    refine lv_lsub hx hb dX2_countDegrees_141 ?_
                    refine lv_land hx hb dX2_countDegrees_142 ?_
                    refine lv_lstore_n (lv' := [(3, .long (v3_114 &&& (v3_114 - (1 : Int64)))), (0, .ref (p0a 0)), (1, .int v1_82), (2, .int v2_92)]) hx hb dX2_countDegrees_143 rfl hl (by decide) rfl (fun ls hl => ?_)
                    refine lv_goto (tgt := 114) hx hb dX2_countDegrees_144 (by decide) ?_
                    exact IH114 (v3_114 &&& (v3_114 - (1 : Int64))) w21 o114 _ _ _ hrun hP hD hK hS (lv_sub hl [1, 2, 3, 0] rfl) hk114
              obtain ⟨o114, hc114, hrun⟩ := bnd9 hrun
              refine L114 NF (p0l 11 (nn ((v1_82 * (p0w_92 0 2)) + v2_92))) p0w_92 o114 _ _ _ hc114 hP hD hK hS (lv_sub hl [1, 2, 3, 0] rfl) ?_
              intro H locs ls hP hD hK hS hl
              have hl := hl
              refine lv_iinc (v := (v2_92 + 1)) (lv' := [(2, .int (v2_92 + 1)), (0, .ref (p0a 0)), (1, .int v1_82)]) hx hb dX2_countDegrees_147 hl (k := 2) rfl rfl (by decide) rfl (fun ls hl => ?_)
              refine lv_goto (tgt := 92) hx hb dX2_countDegrees_150 (by decide) ?_
              exact IH92 (v2_92 + 1) o114 o92 _ _ _ hrun hP hD hK hS (lv_sub hl [1, 2, 0] rfl) hk92
        obtain ⟨o92, hc92, hrun⟩ := bnd9 hrun
        refine L92 NF 0 p0w_82 o92 _ _ _ hc92 hP hD hK hS (lv_sub hl [1, 2, 0] rfl) ?_
        intro H locs ls hP hD hK hS hl
        have hl := hl
        refine lv_iinc (v := (v1_82 + 1)) (lv' := [(1, .int (v1_82 + 1)), (0, .ref (p0a 0))]) hx hb dX2_countDegrees_153 hl (k := 1) rfl rfl (by decide) rfl (fun ls hl => ?_)
        refine lv_goto (tgt := 82) hx hb dX2_countDegrees_156 (by decide) ?_
        exact IH82 (v1_82 + 1) o92 o82 _ _ _ hrun hP hD hK hS (lv_sub hl [1, 0] rfl) hk82
  obtain ⟨o82, hc82, hrun⟩ := bnd9 hrun
  refine L82 NF (o2 0 0) o2 o82 _ _ _ hc82 hP hD hK hS (lv_sub hl [1, 0] rfl) ?_
  intro H locs ls hP hD hK hS hl
  have hl := hl
  have ho9 : o82 = o := Option.some.inj hrun
  have hP9 : va_P (dC, dI) cls (oX2 (p0a 0) p0a p0k p0n o p0l) H := by first | exact hP | (rw [← ho9]; exact hP)
  have hD9 : va_D A (oX2 (p0a 0) p0a p0k p0n o p0l) := by first | exact hD | (rw [← ho9]; exact hD)
  subst hQ
  exact W.vret hx hb hr (fun t ht hW => ⟨⟨(), rfl, trivial, ⟨by rw [ht]; exact hP9, va_K.moved hW.alike hK, hD9⟩⟩, hS.F ht⟩) hS.2.2 dX2_countDegrees_159
def fX2_reckon_L35 (p1w : ST) (p1_2n : Nat → Nat) (p1_2w : ST) (o_4 : ST × SL × (Nat → Nat)) : Nat → Int32 → SL → Option SL
  | 0 => fun _ _ => none
  | n_35 + 1 => fun v4_35 p0l_35 => (if (p1w 0 0) ≤ v4_35 then some p0l_35 else ((fX2_noteBlock (o_4.2.2) (o_4.1) p0l_35 p1w v4_35 p1_2n p1_2w).bind fun (o_35 : SL) => ((fX2_reckon_L35 p1w p1_2n p1_2w o_4 n_35) (v4_35 + 1) o_35)))
def fX2_reckon_G112_69 (kk96 : Int32 → ST → SL → (Nat → Nat) → Option (ST × SL × (Nat → Nat))) (v4_96 : Int32) (o_40 : ST × SL × (Nat → Nat)) : Option (ST × SL × (Nat → Nat)) := (kk96 (v4_96 + 1) (o_40.1) (o_40.2.1) (o_40.2.2))
theorem mo_fX2_reckon_G112_69 {kk96 : Int32 → ST → SL → (Nat → Nat) → Option (ST × SL × (Nat → Nat))} {v4_96 : Int32} {o_40 : ST × SL × (Nat → Nat)} {o9q : ST × SL × (Nat → Nat)} (hkk : ∀ (v4_96q : Int32) (p0w_96q : ST) (p0l_96q : SL) (p0n_96q : Nat → Nat) (r9 : ST × SL × (Nat → Nat)), kk96 v4_96q p0w_96q p0l_96q p0n_96q = some r9 → glX2 p0n_96q (r9.2.2)) (hrun : fX2_reckon_G112_69 kk96 v4_96 o_40 = some o9q) : glX2 (o_40.2.2) (o9q.2.2) := by
  unfold fX2_reckon_G112_69 at hrun
  exact (hkk _ _ _ _ _ hrun)
def fX2_reckon_L96 (p1w : ST) (p1_2n : Nat → Nat) (p1_2w : ST) : Nat → Int32 → ST → SL → (Nat → Nat) → Option (ST × SL × (Nat → Nat))
  | 0 => fun _ _ _ _ => none
  | n_96 + 1 => fun v4_96 p0w_96 p0l_96 p0n_96 => (if (p1w 0 0) ≤ v4_96 then some (p0w_96, p0l_96, p0n_96) else ((fX2_meetInBlock p0n_96 p0w_96 p0l_96 p1w v4_96 p1_2n p1_2w).bind fun (o_40 : ST × SL × (Nat → Nat)) => (fX2_reckon_G112_69 (fX2_reckon_L96 p1w p1_2n p1_2w n_96) v4_96 o_40)))
theorem mo_fX2_reckon_L96 {p1w : ST} {p1_2n : Nat → Nat} {p1_2w : ST} : ∀ (n_96 : Nat) (v4_96 : Int32) (p0w_96 : ST) (p0l_96 : SL) (p0n_96 : Nat → Nat) (o9q : ST × SL × (Nat → Nat)), (fX2_reckon_L96 p1w p1_2n p1_2w n_96) v4_96 p0w_96 p0l_96 p0n_96 = some o9q → glX2 p0n_96 (o9q.2.2) := by
  intro n_96
  induction n_96 with
  | zero => intro v4_96 p0w_96 p0l_96 p0n_96 o9q hrun; exact (no9 rfl hrun).elim
  | succ n_96 ih9 =>
    intro v4_96 p0w_96 p0l_96 p0n_96 o9q hrun
    unfold fX2_reckon_L96 at hrun
    rcases br9 hrun with ⟨hc39, hrun⟩ | ⟨hc39, hrun⟩
    · skip
      obtain rfl := (Option.some.inj hrun)
      exact (glX2_rf _)
    · skip
      obtain ⟨o_40, hc_40, hrun⟩ := bnd9 hrun
      exact (glX2_tr (mo_fX2_meetInBlock hc_40) (mo_fX2_reckon_G112_69 ih9 hrun))
def fX2_reckon_G118_70 (o96 : ST × SL × (Nat → Nat)) : Option (ST × SL × (Nat → Nat)) := ((fX2_mirror (o96.2.2) (o96.1) (o96.2.1)).bind fun (o_71 : SL) => ((fX2_countDegrees (o96.2.2) (o96.1) o_71).bind fun (o_72 : ST) => some (o_72, o_71, (o96.2.2))))
theorem mo_fX2_reckon_G118_70 {o96 : ST × SL × (Nat → Nat)} {o9q : ST × SL × (Nat → Nat)} (hrun : fX2_reckon_G118_70 o96 = some o9q) : glX2 (o96.2.2) (o9q.2.2) := by
  unfold fX2_reckon_G118_70 at hrun
  obtain ⟨o_71, hc_71, hrun⟩ := bnd9 hrun
  obtain ⟨o_72, hc_72, hrun⟩ := bnd9 hrun
  obtain rfl := (Option.some.inj hrun)
  exact (glX2_rf _)
def fX2_reckon_G32_33 (p1w : ST) (p1_2n : Nat → Nat) (p1_2w : ST) (o_4 : ST × SL × (Nat → Nat)) : Option (ST × SL × (Nat → Nat)) := ((fX2_reckon_L35 p1w p1_2n p1_2w o_4 NF 0 (o_4.2.1)).bind fun (o35 : SL) => ((fX2_spreadLife (o_4.2.2) (o_4.1) o35 p1w).bind fun (o_36 : SL) => ((fJ7_fill_bad5a ((o_4.2.2) 11) (o_36 11) 0 (((o_4.1) 0 1) * ((o_4.1) 0 2)) 0).bind fun (o_37 : RL) => ((fJ7_fill_fda19 ((o_4.2.2) 12) ((o_4.1) 12) 0 ((o_4.1) 0 1) (-1)).bind fun (o_38 : RI) => ((fX2_reckon_L96 p1w p1_2n p1_2w NF 0 (srw (o_4.1) 12 o_38) (srl o_36 11 o_37) (o_4.2.2)).bind fun (o96 : ST × SL × (Nat → Nat)) => (fX2_reckon_G118_70 o96))))))
theorem mo_fX2_reckon_G32_33 {p1w : ST} {p1_2n : Nat → Nat} {p1_2w : ST} {o_4 : ST × SL × (Nat → Nat)} {o9q : ST × SL × (Nat → Nat)} (hrun : fX2_reckon_G32_33 p1w p1_2n p1_2w o_4 = some o9q) : glX2 (o_4.2.2) (o9q.2.2) := by
  unfold fX2_reckon_G32_33 at hrun
  obtain ⟨o35, hc35, hrun⟩ := bnd9 hrun
  obtain ⟨o_36, hc_36, hrun⟩ := bnd9 hrun
  obtain ⟨o_37, hc_37, hrun⟩ := bnd9 hrun
  obtain ⟨o_38, hc_38, hrun⟩ := bnd9 hrun
  obtain ⟨o96, hc96, hrun⟩ := bnd9 hrun
  exact (glX2_tr (mo_fX2_reckon_L96 _ _ _ _ _ _ hc96) (mo_fX2_reckon_G118_70 hrun))
def fX2_reckon (p0n : Nat → Nat) (p0w : ST) (p0l : SL) (p1w : ST) (p2 : Int32) (p3 : Int32) (p1_2n : Nat → Nat) (p1_2w : ST) : Option (ST × SL × (Nat → Nat)) := (lt9 (upw p0w 0 0 p2) fun (w1 : ST) => (lt9 (upw w1 0 1 p3) fun (w2 : ST) => (lt9 (upw w2 0 2 (((w2 0 0) + 63) >>> (6 &&& 31))) fun (w3 : ST) => ((fX2_makeRoom p0n w3 p0l (p1w 0 0)).bind fun (o_4 : ST × SL × (Nat → Nat)) => (fX2_reckon_G32_33 p1w p1_2n p1_2w o_4)))))
theorem mo_fX2_reckon {p0n : Nat → Nat} {p0w : ST} {p0l : SL} {p1w : ST} {p2 : Int32} {p3 : Int32} {p1_2n : Nat → Nat} {p1_2w : ST} {o9q : ST × SL × (Nat → Nat)} (hrun : fX2_reckon p0n p0w p0l p1w p2 p3 p1_2n p1_2w = some o9q) : glX2 p0n (o9q.2.2) := by
  unfold fX2_reckon at hrun
  obtain ⟨w1, ew1, hrun⟩ := let9 hrun
  obtain ⟨w2, ew2, hrun⟩ := let9 hrun
  obtain ⟨w3, ew3, hrun⟩ := let9 hrun
  obtain ⟨o_4, hc_4, hrun⟩ := bnd9 hrun
  exact (glX2_tr (mo_fX2_makeRoom hc_4) (mo_fX2_reckon_G32_33 hrun))
set_option maxHeartbeats 16000000 in
set_option maxRecDepth 100000 in
theorem kX2_reckon {zs : Nat × Nat} (l : Launch) (dC : Nat → ClassId) (dI : Nat → Nat → Nat) (p0a : Nat → Nat) (p0k : Nat → ClassId) (p0n : Nat → Nat) (p0w : ST) (p0l : SL) (p1a : Nat → Nat) (p1k : Nat → ClassId) (p1n : Nat → Nat) (p1w : ST) (p1l : SL) (p2 : Int32) (p3 : Int32) (p1_2a : Nat → Nat) (p1_2k : Nat → ClassId) (p1_2n : Nat → Nat) (p1_2w : ST) (sz : Nat) (o : ST × SL × (Nat → Nat)) (hrun : fX2_reckon p0n p0w p0l p1w p2 p3 p1_2n p1_2w = some o) : Met l yX2_reckon (wz yX2_reckon cX2_reckon 5 (Option.none : Option Jvm.ClassFile.FieldType)) ({ frames := 5, cells := (gcX2 p0n (o.2.2)), slots := (3 * (gcX2 p0n (o.2.2))), locals := 133 } : Room) (va_Pc [.ref (p0a 0), .ref (p1a 0), .int p2, .int p3] (PRE zs dC dI ((oX2 (p0a 0) p0a p0k p0n p0w p0l) ++ (oX1 (p1a 0) p1a p1k p1n p1w p1l) ++ (oX9 (p1a 3) p1_2a p1_2k p1_2n p1_2w)) ((tX2 p0k) ++ (tX1 p1k) ++ (tX9 p1_2k)) sz)) (va_Qv (fun (_ : Unit) => True) (fun _ t => ∃ (xp0_3_z : Nat), ∃ (zp0_3_z : ClassId), ∃ (xp0_4_z : Nat), ∃ (zp0_4_z : ClassId), ∃ (xp0_5_z : Nat), ∃ (zp0_5_z : ClassId), ∃ (xp0_6_z : Nat), ∃ (zp0_6_z : ClassId), ∃ (xp0_9_z : Nat), ∃ (zp0_9_z : ClassId), ∃ (xp0_10_z : Nat), ∃ (zp0_10_z : ClassId), ∃ (xp0_11_z : Nat), ∃ (zp0_11_z : ClassId), ∃ (xp0_12_z : Nat), ∃ (zp0_12_z : ClassId), ∃ (xp0_13_z : Nat), ∃ (zp0_13_z : ClassId), ∃ (xp0_14_z : Nat), ∃ (zp0_14_z : ClassId), ∃ (xp0_15_z : Nat), ∃ (zp0_15_z : ClassId), ∃ (xp0_16_z : Nat), ∃ (zp0_16_z : ClassId), ∃ (xp0_17_z : Nat), ∃ (zp0_17_z : ClassId), ∃ (xp0_18_z : Nat), ∃ (zp0_18_z : ClassId), POST dC dI ((oX2 (p0a 0) (st1 (st1 (st1 (st1 (st1 (st1 (st1 (st1 (st1 (st1 (st1 (st1 (st1 (st1 p0a 4 xp0_3_z) 5 xp0_4_z) 6 xp0_5_z) 7 xp0_6_z) 10 xp0_9_z) 11 xp0_10_z) 12 xp0_11_z) 13 xp0_12_z) 14 xp0_13_z) 15 xp0_14_z) 16 xp0_15_z) 17 xp0_16_z) 18 xp0_17_z) 19 xp0_18_z) (st1 (st1 (st1 (st1 (st1 (st1 (st1 (st1 (st1 (st1 (st1 (st1 (st1 (st1 p0k 4 zp0_3_z) 5 zp0_4_z) 6 zp0_5_z) 7 zp0_6_z) 10 zp0_9_z) 11 zp0_10_z) 12 zp0_11_z) 13 zp0_12_z) 14 zp0_13_z) 15 zp0_14_z) 16 zp0_15_z) 17 zp0_16_z) 18 zp0_17_z) 19 zp0_18_z) (o.2.2) (o.1) (o.2.1)) ++ (oX1 (p1a 0) p1a p1k p1n p1w p1l) ++ (oX9 (p1a 3) p1_2a p1_2k p1_2n p1_2w)) ((tX2 (st1 (st1 (st1 (st1 (st1 (st1 (st1 (st1 (st1 (st1 (st1 (st1 (st1 (st1 p0k 4 zp0_3_z) 5 zp0_4_z) 6 zp0_5_z) 7 zp0_6_z) 10 zp0_9_z) 11 zp0_10_z) 12 zp0_11_z) 13 zp0_12_z) 14 zp0_13_z) 15 zp0_14_z) 16 zp0_15_z) 17 zp0_16_z) 18 zp0_17_z) 19 zp0_18_z)) ++ (tX1 p1k) ++ (tX9 p1_2k)) (va_A ((oX2 (p0a 0) p0a p0k p0n p0w p0l) ++ (oX1 (p1a 0) p1a p1k p1n p1w p1l) ++ (oX9 (p1a 3) p1_2a p1_2k p1_2n p1_2w)) sz) t) (va_A ((oX2 (p0a 0) p0a p0k p0n p0w p0l) ++ (oX1 (p1a 0) p1a p1k p1n p1w p1l) ++ (oX9 (p1a 3) p1_2a p1_2k p1_2n p1_2w)) sz)) (gcX2 p0n (o.2.2)) (3 * (gcX2 p0n (o.2.2))) (va_A ((oX2 (p0a 0) p0a p0k p0n p0w p0l) ++ (oX1 (p1a 0) p1a p1k p1n p1w p1l) ++ (oX9 (p1a 3) p1_2a p1_2k p1_2n p1_2w)) sz) := by
  refine Met.ofW (cc := cX2_reckon) (maxL := 5) (ret := (Option.none : Option Jvm.ClassFile.FieldType)) (by decide) rfl ?_
  intro p e s m args below meth c s₁ B hml hv
  obtain ⟨rfl, hsz, hP, hK, hD0, hE⟩ := hv
  have hx := B.exec
  have hb := B.bytes
  have hr := B.returns
  have hts0 := atoms_spec (ws := wz yX2_reckon cX2_reckon 5 (Option.none : Option Jvm.ClassFile.FieldType)) B.pre
  have hts : ∀ w ∈ gw, w.before _ s = true := fun w h => hts0 w (List.mem_cons_of_mem _ h)
  have hown : s.vm.findClass RX2 = some m.cls := findClass_of_methodNamed B.named
  have hlocks := B.notSynchronized
  subst hsz
  have hD := hD0.self (sz := s.heap.size)
  refine gQ9 ?_
  intro Q hQ
  generalize hAe : va_A ((oX2 (p0a 0) p0a p0k p0n p0w p0l) ++ (oX1 (p1a 0) p1a p1k p1n p1w p1l) ++ (oX9 (p1a 3) p1_2a p1_2k p1_2n p1_2w)) s.heap.size = A at hD hE hQ
  have hA : ∀ q : Nat, s.heap.size ≤ q → A q := fun q h => by rw [← hAe]; exact Or.inr h
  have hS : va_S A s.heap s.heap [] := va_S.rf
  have hP : va_P (dC, dI) cls ((oX2 (p0a 0) p0a p0k p0n p0w p0l) ++ (oX1 (p1a 0) p1a p1k p1n p1w p1l) ++ (oX9 (p1a 3) p1_2a p1_2k p1_2n p1_2w)) s.heap := hP
  have hl := lv_entry ([.ref (p0a 0), .ref (p1a 0), .int p2, .int p3]) (n := 5) (Nat.le_of_ble_eq_true rfl)
  rw [lg_entry_eq]
  generalize (lg_sl ([.ref (p0a 0), .ref (p1a 0), .int p2, .int p3]) ++ List.replicate (5 - (lg_sl ([.ref (p0a 0), .ref (p1a 0), .int p2, .int p3])).length) Slot.unset).toArray = ls at hl ⊢
  have hl : lv_has ls 5 [(0, .ref (p0a 0)), (1, .ref (p1a 0)), (2, .int p2), (3, .int p3)] := hl
  obtain ⟨H, hHe⟩ : ∃ H, H = s.heap := ⟨_, rfl⟩
  obtain ⟨locs, hle⟩ : ∃ locs : List Loc, locs = [] := ⟨_, rfl⟩
  rw [← hHe] at hP
  have hS : va_S A s.heap H locs := by rw [hHe, hle]; exact hS
  show W p l e ({ frames := 5, cells := (gcX2 p0n (o.2.2)), slots := (3 * (gcX2 p0n (o.2.2))), locals := 133 } : Room) s m ([.ref (p0a 0), .ref (p1a 0), .int p2, .int p3] : List Value).toArray below meth c s.heap [] 0 0 Q (F0 m 0 ls [])
  rw [← hle]
  refine wH9 hHe ?_
  have hg_p0 := glX2_rf p0n
  have hgn_p0 : glX2 p0n (o.2.2) := (mo_fX2_reckon hrun)
  refine W.widen (k := (gcX2 p0n p0n)) (n := (3 * (gcX2 p0n p0n))) (Nat.zero_le _) (Nat.zero_le _) ?_
  unfold fX2_reckon at hrun
  refine lv_aload_n hx hb dX2_reckon_0 rfl (lv_at hl 0 rfl) ?_
  refine lv_iload_n hx hb dX2_reckon_1 rfl (lv_at hl 2 rfl) ?_
  refine va_put (D := (dC, dI)) (ci := 9) (v := .int p2) (ty := .int) (C := RX2) (T := TX2) (N := 19) hx hb hts i_X2 tyX2 tyX2_ok nmX2 hown hK hP hD hS 0 rfl rfl 0 (by decide) (hts _ qw665) (fun _ h9 => h9) rfl (by decide +kernel) rfl rfl (Nat.le_of_ble_eq_true rfl) dX2_reckon_2 (fun H locs hP hD hS => ?_)
  have hP : va_P (dC, dI) cls ((oX2 (p0a 0) p0a p0k p0n (upw p0w 0 0 p2) p0l) ++ (oX1 (p1a 0) p1a p1k p1n p1w p1l) ++ (oX9 (p1a 3) p1_2a p1_2k p1_2n p1_2w)) H := hP
  have hD : va_D A ((oX2 (p0a 0) p0a p0k p0n (upw p0w 0 0 p2) p0l) ++ (oX1 (p1a 0) p1a p1k p1n p1w p1l) ++ (oX9 (p1a 3) p1_2a p1_2k p1_2n p1_2w)) := hD
  obtain ⟨w1, ew1, hrun⟩ := let9 hrun
  rw [← ew1] at hP hD
  refine lv_aload_n hx hb dX2_reckon_5 rfl (lv_at hl 0 rfl) ?_
  refine lv_iload_n hx hb dX2_reckon_6 rfl (lv_at hl 3 rfl) ?_
  refine va_put (D := (dC, dI)) (ci := 9) (v := .int p3) (ty := .int) (C := RX2) (T := TX2) (N := 19) hx hb hts i_X2 tyX2 tyX2_ok nmX2 hown hK hP hD hS 0 rfl rfl 1 (by decide) (hts _ qw666) (fun _ h9 => h9) rfl (by decide +kernel) rfl rfl (Nat.le_of_ble_eq_true rfl) dX2_reckon_7 (fun H locs hP hD hS => ?_)
  have hP : va_P (dC, dI) cls ((oX2 (p0a 0) p0a p0k p0n (upw w1 0 1 p3) p0l) ++ (oX1 (p1a 0) p1a p1k p1n p1w p1l) ++ (oX9 (p1a 3) p1_2a p1_2k p1_2n p1_2w)) H := hP
  have hD : va_D A ((oX2 (p0a 0) p0a p0k p0n (upw w1 0 1 p3) p0l) ++ (oX1 (p1a 0) p1a p1k p1n p1w p1l) ++ (oX9 (p1a 3) p1_2a p1_2k p1_2n p1_2w)) := hD
  obtain ⟨w2, ew2, hrun⟩ := let9 hrun
  rw [← ew2] at hP hD
  refine lv_aload_n hx hb dX2_reckon_10 rfl (lv_at hl 0 rfl) ?_
  refine lv_aload_n hx hb dX2_reckon_11 rfl (lv_at hl 0 rfl) ?_
  refine va_get (D := (dC, dI)) (ci := 9) (v := .int (w2 0 0)) (C := RX2) (T := TX2) (N := 19) hx hb hts i_X2 hown hK hP 0 rfl rfl 0 (by decide) (hts _ qw665) (fun _ h9 => h9) rfl dX2_reckon_12 ?_
  refine lv_bipush (v := 63) hx hb dX2_reckon_15 (by decide) ?_
  refine lv_iadd hx hb dX2_reckon_17 ?_
  refine lv_bipush (v := 6) hx hb dX2_reckon_18 (by decide) ?_
  refine lv_ishr hx hb dX2_reckon_20 ?_
  refine va_put (D := (dC, dI)) (ci := 9) (v := .int (((w2 0 0) + 63) >>> (6 &&& 31))) (ty := .int) (C := RX2) (T := TX2) (N := 19) hx hb hts i_X2 tyX2 tyX2_ok nmX2 hown hK hP hD hS 0 rfl rfl 2 (by decide) (hts _ qw667) (fun _ h9 => h9) rfl (by decide +kernel) rfl rfl (Nat.le_of_ble_eq_true rfl) dX2_reckon_21 (fun H locs hP hD hS => ?_)
  have hP : va_P (dC, dI) cls ((oX2 (p0a 0) p0a p0k p0n (upw w2 0 2 (((w2 0 0) + 63) >>> (6 &&& 31))) p0l) ++ (oX1 (p1a 0) p1a p1k p1n p1w p1l) ++ (oX9 (p1a 3) p1_2a p1_2k p1_2n p1_2w)) H := hP
  have hD : va_D A ((oX2 (p0a 0) p0a p0k p0n (upw w2 0 2 (((w2 0 0) + 63) >>> (6 &&& 31))) p0l) ++ (oX1 (p1a 0) p1a p1k p1n p1w p1l) ++ (oX9 (p1a 3) p1_2a p1_2k p1_2n p1_2w)) := hD
  obtain ⟨w3, ew3, hrun⟩ := let9 hrun
  rw [← ew3] at hP hD
  refine lv_aload_n hx hb dX2_reckon_24 rfl (lv_at hl 0 rfl) ?_
  refine lv_aload_n hx hb dX2_reckon_25 rfl (lv_at hl 1 rfl) ?_
  refine va_get (D := (dC, dI)) (ci := 4) (v := .int (p1w 0 0)) (C := RX1) (T := TX1) (N := 21) hx hb hts i_X1 hown hK hP 16 rfl rfl 0 (by decide) (hts _ qw668) (fun _ h9 => h9) rfl dX2_reckon_26 ?_
  obtain ⟨o_4, hc_4, hrun⟩ := bnd9 hrun
  have hPc := hP.sub (ws' := (oX2 (p0a 0) p0a p0k p0n w3 p0l)) [0, 1, 2, 3, 4, 5, 6, 7, 8, 9, 10, 11, 12, 13, 14, 15] rfl
  have hDc := hD.sub (ws' := (oX2 (p0a 0) p0a p0k p0n w3 p0l)) [0, 1, 2, 3, 4, 5, 6, 7, 8, 9, 10, 11, 12, 13, 14, 15] (by decide) rfl
  have hKc := hK.sub (tys' := (tX2 p0k)) [0, 1, 2, 3, 4, 5, 6, 7, 8, 9, 10, 11, 12, 13, 14] rfl
  have hFc := va_free (wc := (oX2 (p0a 0) p0a p0k p0n w3 p0l)) hD hS hA [0, 1, 2, 3, 4, 5, 6, 7, 8, 9, 10, 11, 12, 13, 14, 15] rfl
  have hgn_p0 : glX2 (o_4.2.2) (o.2.2) := (mo_fX2_reckon_G32_33 hrun)
  refine va_callv (va_runV (As := [.int (p1w 0 0)]) (rest := []) ⟨hx, hb, hml, hown, hts⟩ (kX2_makeRoom l dC dI (p0a := (st0 (p0a 0) p0a)) (p0k := p0k) (p0n := p0n) (p0w := w3) (p0l := p0l) (p1 := (p1w 0 0)) (sz := _) (o := o_4) (hrun := hc_4)) (cwV 1 hts (gi_V qw689 qw690 qw691 qw692 (gi_z qw688)) rfl rfl rfl (by decide +kernel) ⟨Nat.le_of_ble_eq_true rfl, Nat.le_of_ble_eq_true rfl⟩) ⟨PRE.blind, va_recv hKc hPc (ci := 9) (q0 := 0) rfl rfl, PRE.of hE hS hFc hPc hKc hDc⟩ rfl rfl hl.1 rfl (lv_room (Nat.le_of_ble_eq_true rfl)) dX2_reckon_29 ⟨(show (gcX2 p0n p0n) + (gcX2 p0n (o_4.2.2)) ≤ (gcX2 p0n (o.2.2)) from by have q0 := gsX2 hg_p0 (mo_fX2_makeRoom hc_4) hgn_p0; omega), (show (3 * (gcX2 p0n p0n)) + (3 * ((gcX2 p0n (o_4.2.2)))) ≤ (3 * (gcX2 p0n (o.2.2))) from by have q0 := gsX2 hg_p0 (mo_fX2_makeRoom hc_4) hgn_p0; omega)⟩) hS (fun q _ h => hFc q h) hFc (fun u t H locs ht hvm hw hB hz1 hk1 hS => ?_)
  obtain ⟨x5, z6, x7, z8, x9, z10, x11, z12, x13, z14, x15, z16, x17, z18, x19, z20, x21, z22, x23, z24, x25, z26, x27, z28, x29, z30, x31, z32, hB⟩ := hB
  obtain ⟨hP, hD, hK⟩ := JOIN (wr := ((oX1 (p1a 0) p1a p1k p1n p1w p1l) ++ (oX9 (p1a 3) p1_2a p1_2k p1_2n p1_2w))) hP hD hK [0, 1, 2, 3, 4, 5, 6, 7, 8, 9, 10, 11, 12, 13, 14, 15] [16, 17, 18, 19, 20, 21, 22, 23, 24, 25, 26, 27, 28, 29, 30, 31, 32, 33, 34, 35, 36, 37, 38, 39] [15, 16, 17, 18, 19, 20, 21, 22, 23, 24, 25, 26, 27, 28, 29, 30, 31, 32, 33, 34, 35, 36] rfl rfl (by decide) (by decide) rfl hk1 hFc ht hvm hB
  have hP : va_P (dC, dI) cls ((oX2 (p0a 0) (st1 (st1 (st1 (st1 (st1 (st1 (st1 (st1 (st1 (st1 (st1 (st1 (st1 (st1 p0a 4 x5) 5 x7) 6 x9) 7 x11) 10 x13) 11 x15) 12 x17) 13 x19) 14 x21) 15 x23) 16 x25) 17 x27) 18 x29) 19 x31) (st1 (st1 (st1 (st1 (st1 (st1 (st1 (st1 (st1 (st1 (st1 (st1 (st1 (st1 p0k 4 z6) 5 z8) 6 z10) 7 z12) 10 z14) 11 z16) 12 z18) 13 z20) 14 z22) 15 z24) 16 z26) 17 z28) 18 z30) 19 z32) (o_4.2.2) (o_4.1) (o_4.2.1)) ++ (oX1 (p1a 0) p1a p1k p1n p1w p1l) ++ (oX9 (p1a 3) p1_2a p1_2k p1_2n p1_2w)) H := hP.sub [24, 25, 26, 27, 28, 29, 30, 31, 32, 33, 34, 35, 36, 37, 38, 39, 0, 1, 2, 3, 4, 5, 6, 7, 8, 9, 10, 11, 12, 13, 14, 15, 16, 17, 18, 19, 20, 21, 22, 23] rfl
  have hD : va_D A ((oX2 (p0a 0) (st1 (st1 (st1 (st1 (st1 (st1 (st1 (st1 (st1 (st1 (st1 (st1 (st1 (st1 p0a 4 x5) 5 x7) 6 x9) 7 x11) 10 x13) 11 x15) 12 x17) 13 x19) 14 x21) 15 x23) 16 x25) 17 x27) 18 x29) 19 x31) (st1 (st1 (st1 (st1 (st1 (st1 (st1 (st1 (st1 (st1 (st1 (st1 (st1 (st1 p0k 4 z6) 5 z8) 6 z10) 7 z12) 10 z14) 11 z16) 12 z18) 13 z20) 14 z22) 15 z24) 16 z26) 17 z28) 18 z30) 19 z32) (o_4.2.2) (o_4.1) (o_4.2.1)) ++ (oX1 (p1a 0) p1a p1k p1n p1w p1l) ++ (oX9 (p1a 3) p1_2a p1_2k p1_2n p1_2w)) := hD.sub [24, 25, 26, 27, 28, 29, 30, 31, 32, 33, 34, 35, 36, 37, 38, 39, 0, 1, 2, 3, 4, 5, 6, 7, 8, 9, 10, 11, 12, 13, 14, 15, 16, 17, 18, 19, 20, 21, 22, 23] (by decide) rfl
  have hK : va_K (dC, dI) cls ((tX2 (st1 (st1 (st1 (st1 (st1 (st1 (st1 (st1 (st1 (st1 (st1 (st1 (st1 (st1 p0k 4 z6) 5 z8) 6 z10) 7 z12) 10 z14) 11 z16) 12 z18) 13 z20) 14 z22) 15 z24) 16 z26) 17 z28) 18 z30) 19 z32)) ++ (tX1 p1k) ++ (tX9 p1_2k)) s := hK.sub [22, 23, 24, 25, 26, 27, 28, 29, 30, 31, 32, 33, 34, 35, 36, 0, 1, 2, 3, 4, 5, 6, 7, 8, 9, 10, 11, 12, 13, 14, 15, 16, 17, 18, 19, 20, 21] rfl
  refine W.widen (k := (gcX2 p0n (o_4.2.2))) (n := (3 * (gcX2 p0n (o_4.2.2)))) (by have a0 := gcX2_add hg_p0 (mo_fX2_makeRoom hc_4); omega) (by have a0 := gcX2_add hg_p0 (mo_fX2_makeRoom hc_4); omega) ?_
  have hg_p0 : glX2 p0n (o_4.2.2) := glX2_tr hg_p0 (mo_fX2_makeRoom hc_4)
  unfold fX2_reckon_G32_33 at hrun
  refine lv_iconst (v := 0) hx hb dX2_reckon_32 (by decide) ?_
  refine lv_istore (lv' := [(4, .int 0), (0, .ref (p0a 0)), (1, .ref (p1a 0)), (2, .int p2), (3, .int p3)]) hx hb dX2_reckon_33 hl (by decide) rfl (fun ls hl => ?_)
  have L35 : ∀ (n_35 : Nat) (v4_35 : Int32) (p0l_35 : SL) (o35 : SL) (H : Heap) (locs : List Loc) (ls : Array Slot), (fX2_reckon_L35 p1w p1_2n p1_2w o_4 n_35) v4_35 p0l_35 = some o35 → va_P (dC, dI) cls ((oX2 (p0a 0) (st1 (st1 (st1 (st1 (st1 (st1 (st1 (st1 (st1 (st1 (st1 (st1 (st1 (st1 p0a 4 x5) 5 x7) 6 x9) 7 x11) 10 x13) 11 x15) 12 x17) 13 x19) 14 x21) 15 x23) 16 x25) 17 x27) 18 x29) 19 x31) (st1 (st1 (st1 (st1 (st1 (st1 (st1 (st1 (st1 (st1 (st1 (st1 (st1 (st1 p0k 4 z6) 5 z8) 6 z10) 7 z12) 10 z14) 11 z16) 12 z18) 13 z20) 14 z22) 15 z24) 16 z26) 17 z28) 18 z30) 19 z32) (o_4.2.2) (o_4.1) p0l_35) ++ (oX1 (p1a 0) p1a p1k p1n p1w p1l) ++ (oX9 (p1a 3) p1_2a p1_2k p1_2n p1_2w)) H → va_D A ((oX2 (p0a 0) (st1 (st1 (st1 (st1 (st1 (st1 (st1 (st1 (st1 (st1 (st1 (st1 (st1 (st1 p0a 4 x5) 5 x7) 6 x9) 7 x11) 10 x13) 11 x15) 12 x17) 13 x19) 14 x21) 15 x23) 16 x25) 17 x27) 18 x29) 19 x31) (st1 (st1 (st1 (st1 (st1 (st1 (st1 (st1 (st1 (st1 (st1 (st1 (st1 (st1 p0k 4 z6) 5 z8) 6 z10) 7 z12) 10 z14) 11 z16) 12 z18) 13 z20) 14 z22) 15 z24) 16 z26) 17 z28) 18 z30) 19 z32) (o_4.2.2) (o_4.1) p0l_35) ++ (oX1 (p1a 0) p1a p1k p1n p1w p1l) ++ (oX9 (p1a 3) p1_2a p1_2k p1_2n p1_2w)) → va_K (dC, dI) cls ((tX2 (st1 (st1 (st1 (st1 (st1 (st1 (st1 (st1 (st1 (st1 (st1 (st1 (st1 (st1 p0k 4 z6) 5 z8) 6 z10) 7 z12) 10 z14) 11 z16) 12 z18) 13 z20) 14 z22) 15 z24) 16 z26) 17 z28) 18 z30) 19 z32)) ++ (tX1 p1k) ++ (tX9 p1_2k)) s → va_S A s.heap H locs → lv_has ls 5 [(0, .ref (p0a 0)), (1, .ref (p1a 0)), (4, .int v4_35)] → glX2 p0n (o_4.2.2) → (∀ (H : Heap) (locs : List Loc) (ls : Array Slot), va_P (dC, dI) cls ((oX2 (p0a 0) (st1 (st1 (st1 (st1 (st1 (st1 (st1 (st1 (st1 (st1 (st1 (st1 (st1 (st1 p0a 4 x5) 5 x7) 6 x9) 7 x11) 10 x13) 11 x15) 12 x17) 13 x19) 14 x21) 15 x23) 16 x25) 17 x27) 18 x29) 19 x31) (st1 (st1 (st1 (st1 (st1 (st1 (st1 (st1 (st1 (st1 (st1 (st1 (st1 (st1 p0k 4 z6) 5 z8) 6 z10) 7 z12) 10 z14) 11 z16) 12 z18) 13 z20) 14 z22) 15 z24) 16 z26) 17 z28) 18 z30) 19 z32) (o_4.2.2) (o_4.1) o35) ++ (oX1 (p1a 0) p1a p1k p1n p1w p1l) ++ (oX9 (p1a 3) p1_2a p1_2k p1_2n p1_2w)) H → va_D A ((oX2 (p0a 0) (st1 (st1 (st1 (st1 (st1 (st1 (st1 (st1 (st1 (st1 (st1 (st1 (st1 (st1 p0a 4 x5) 5 x7) 6 x9) 7 x11) 10 x13) 11 x15) 12 x17) 13 x19) 14 x21) 15 x23) 16 x25) 17 x27) 18 x29) 19 x31) (st1 (st1 (st1 (st1 (st1 (st1 (st1 (st1 (st1 (st1 (st1 (st1 (st1 (st1 p0k 4 z6) 5 z8) 6 z10) 7 z12) 10 z14) 11 z16) 12 z18) 13 z20) 14 z22) 15 z24) 16 z26) 17 z28) 18 z30) 19 z32) (o_4.2.2) (o_4.1) o35) ++ (oX1 (p1a 0) p1a p1k p1n p1w p1l) ++ (oX9 (p1a 3) p1_2a p1_2k p1_2n p1_2w)) → va_K (dC, dI) cls ((tX2 (st1 (st1 (st1 (st1 (st1 (st1 (st1 (st1 (st1 (st1 (st1 (st1 (st1 (st1 p0k 4 z6) 5 z8) 6 z10) 7 z12) 10 z14) 11 z16) 12 z18) 13 z20) 14 z22) 15 z24) 16 z26) 17 z28) 18 z30) 19 z32)) ++ (tX1 p1k) ++ (tX9 p1_2k)) s → va_S A s.heap H locs → lv_has ls 5 [(0, .ref (p0a 0)), (1, .ref (p1a 0))] → glX2 p0n (o_4.2.2) → W p l e ({ frames := 5, cells := (gcX2 p0n (o.2.2)), slots := (3 * (gcX2 p0n (o.2.2))), locals := 133 } : Room) s m ([.ref (p0a 0), .ref (p1a 0), .int p2, .int p3] : List Value).toArray below meth c H locs (gcX2 p0n (o_4.2.2)) (3 * (gcX2 p0n (o_4.2.2))) Q (F0 m 57 ls [])) → W p l e ({ frames := 5, cells := (gcX2 p0n (o.2.2)), slots := (3 * (gcX2 p0n (o.2.2))), locals := 133 } : Room) s m ([.ref (p0a 0), .ref (p1a 0), .int p2, .int p3] : List Value).toArray below meth c H locs (gcX2 p0n (o_4.2.2)) (3 * (gcX2 p0n (o_4.2.2))) Q (F0 m 35 ls []) := by
    intro n_35
    induction n_35 with
    | zero => intro v4_35 p0l_35 o35 H locs ls hrun; exact (no9 rfl hrun).elim
    | succ n_35 IH35 =>
      intro v4_35 p0l_35 o35 H locs ls hrun hP hD hK hS hl hg_p0 hk35
      unfold fX2_reckon_L35 at hrun
      refine lv_iload hx hb dX2_reckon_35 (lv_at hl 2 rfl) ?_
      refine lv_aload_n hx hb dX2_reckon_37 rfl (lv_at hl 1 rfl) ?_
      refine va_get (D := (dC, dI)) (ci := 4) (v := .int (p1w 0 0)) (C := RX1) (T := TX1) (N := 21) hx hb hts i_X1 hown hK hP 16 rfl rfl 0 (by decide) (hts _ qw668) (fun _ h9 => h9) rfl dX2_reckon_38 ?_
      rcases br9 hrun with ⟨hc34, hrun⟩ | ⟨hc34, hrun⟩
      · refine lv_icmp_ge (tgt := 57) hx hb dX2_reckon_41 (by decide) (fun _ => ?_) (fun c => absurd hc34 c)
        obtain rfl := (Option.some.inj hrun)
        exact hk35 _ _ _ hP hD hK hS (lv_sub hl [0, 1] rfl) hg_p0
      · refine lv_icmp_ge (tgt := 57) hx hb dX2_reckon_41 (by decide) (fun c => absurd c hc34) (fun _ => ?_)
        refine lv_aload_n hx hb dX2_reckon_44 rfl (lv_at hl 0 rfl) ?_
        refine lv_aload_n hx hb dX2_reckon_45 rfl (lv_at hl 1 rfl) ?_
        refine lv_iload hx hb dX2_reckon_46 (lv_at hl 2 rfl) ?_
        obtain ⟨o_35, hc_35, hrun⟩ := bnd9 hrun
        have hPc := hP.sub (ws' := ((oX2 (p0a 0) (st1 (st1 (st1 (st1 (st1 (st1 (st1 (st1 (st1 (st1 (st1 (st1 (st1 (st1 p0a 4 x5) 5 x7) 6 x9) 7 x11) 10 x13) 11 x15) 12 x17) 13 x19) 14 x21) 15 x23) 16 x25) 17 x27) 18 x29) 19 x31) (st1 (st1 (st1 (st1 (st1 (st1 (st1 (st1 (st1 (st1 (st1 (st1 (st1 (st1 p0k 4 z6) 5 z8) 6 z10) 7 z12) 10 z14) 11 z16) 12 z18) 13 z20) 14 z22) 15 z24) 16 z26) 17 z28) 18 z30) 19 z32) (o_4.2.2) (o_4.1) p0l_35) ++ (oX1 (p1a 0) p1a p1k p1n p1w p1l) ++ (oX9 (p1a 3) p1_2a p1_2k p1_2n p1_2w))) [0, 1, 2, 3, 4, 5, 6, 7, 8, 9, 10, 11, 12, 13, 14, 15, 16, 17, 18, 19, 20, 21, 22, 23, 24, 25, 26, 27, 28, 29, 30, 31, 32, 33, 34, 35, 36, 37, 38, 39] rfl
        have hDc := hD.sub (ws' := ((oX2 (p0a 0) (st1 (st1 (st1 (st1 (st1 (st1 (st1 (st1 (st1 (st1 (st1 (st1 (st1 (st1 p0a 4 x5) 5 x7) 6 x9) 7 x11) 10 x13) 11 x15) 12 x17) 13 x19) 14 x21) 15 x23) 16 x25) 17 x27) 18 x29) 19 x31) (st1 (st1 (st1 (st1 (st1 (st1 (st1 (st1 (st1 (st1 (st1 (st1 (st1 (st1 p0k 4 z6) 5 z8) 6 z10) 7 z12) 10 z14) 11 z16) 12 z18) 13 z20) 14 z22) 15 z24) 16 z26) 17 z28) 18 z30) 19 z32) (o_4.2.2) (o_4.1) p0l_35) ++ (oX1 (p1a 0) p1a p1k p1n p1w p1l) ++ (oX9 (p1a 3) p1_2a p1_2k p1_2n p1_2w))) [0, 1, 2, 3, 4, 5, 6, 7, 8, 9, 10, 11, 12, 13, 14, 15, 16, 17, 18, 19, 20, 21, 22, 23, 24, 25, 26, 27, 28, 29, 30, 31, 32, 33, 34, 35, 36, 37, 38, 39] (by decide) rfl
        have hKc := hK.sub (tys' := ((tX2 (st1 (st1 (st1 (st1 (st1 (st1 (st1 (st1 (st1 (st1 (st1 (st1 (st1 (st1 p0k 4 z6) 5 z8) 6 z10) 7 z12) 10 z14) 11 z16) 12 z18) 13 z20) 14 z22) 15 z24) 16 z26) 17 z28) 18 z30) 19 z32)) ++ (tX1 p1k) ++ (tX9 p1_2k))) [0, 1, 2, 3, 4, 5, 6, 7, 8, 9, 10, 11, 12, 13, 14, 15, 16, 17, 18, 19, 20, 21, 22, 23, 24, 25, 26, 27, 28, 29, 30, 31, 32, 33, 34, 35, 36] rfl
        have hFc := va_free (wc := ((oX2 (p0a 0) (st1 (st1 (st1 (st1 (st1 (st1 (st1 (st1 (st1 (st1 (st1 (st1 (st1 (st1 p0a 4 x5) 5 x7) 6 x9) 7 x11) 10 x13) 11 x15) 12 x17) 13 x19) 14 x21) 15 x23) 16 x25) 17 x27) 18 x29) 19 x31) (st1 (st1 (st1 (st1 (st1 (st1 (st1 (st1 (st1 (st1 (st1 (st1 (st1 (st1 p0k 4 z6) 5 z8) 6 z10) 7 z12) 10 z14) 11 z16) 12 z18) 13 z20) 14 z22) 15 z24) 16 z26) 17 z28) 18 z30) 19 z32) (o_4.2.2) (o_4.1) p0l_35) ++ (oX1 (p1a 0) p1a p1k p1n p1w p1l) ++ (oX9 (p1a 3) p1_2a p1_2k p1_2n p1_2w))) hD hS hA [0, 1, 2, 3, 4, 5, 6, 7, 8, 9, 10, 11, 12, 13, 14, 15, 16, 17, 18, 19, 20, 21, 22, 23, 24, 25, 26, 27, 28, 29, 30, 31, 32, 33, 34, 35, 36, 37, 38, 39] rfl
        refine va_callv (va_runV (As := [.ref (p1a 0), .int v4_35]) (rest := []) ⟨hx, hb, hml, hown, hts⟩ (kX2_noteBlock l dC dI (p0a := (st0 (p0a 0) (st1 (st1 (st1 (st1 (st1 (st1 (st1 (st1 (st1 (st1 (st1 (st1 (st1 (st1 p0a 4 x5) 5 x7) 6 x9) 7 x11) 10 x13) 11 x15) 12 x17) 13 x19) 14 x21) 15 x23) 16 x25) 17 x27) 18 x29) 19 x31))) (p0k := (st1 (st1 (st1 (st1 (st1 (st1 (st1 (st1 (st1 (st1 (st1 (st1 (st1 (st1 p0k 4 z6) 5 z8) 6 z10) 7 z12) 10 z14) 11 z16) 12 z18) 13 z20) 14 z22) 15 z24) 16 z26) 17 z28) 18 z30) 19 z32)) (p0n := (o_4.2.2)) (p0w := (o_4.1)) (p0l := p0l_35) (p1a := (st0 (p1a 0) p1a)) (p1k := p1k) (p1n := p1n) (p1w := p1w) (p1l := p1l) (p2 := v4_35) (p1_2a := p1_2a) (p1_2k := p1_2k) (p1_2n := p1_2n) (p1_2w := p1_2w) (sz := _) (o := o_35) (hrun := hc_35)) (cwV 2 hts (gi_V qw717 qw718 qw719 qw692 (gi_z qw716)) rfl rfl rfl (by decide +kernel) ⟨Nat.le_of_ble_eq_true rfl, Nat.le_of_ble_eq_true rfl⟩) ⟨PRE.blind, va_recv hKc hPc (ci := 9) (q0 := 0) rfl rfl, PRE.of hE hS hFc hPc hKc hDc⟩ rfl rfl hl.1 rfl (lv_room (Nat.le_of_ble_eq_true rfl)) dX2_reckon_48 ⟨(show (gcX2 p0n (o_4.2.2)) + 0 ≤ (gcX2 p0n (o.2.2)) from by have q0 := gmX2 hg_p0 hgn_p0; omega), (show (3 * (gcX2 p0n (o_4.2.2))) + 0 ≤ (3 * (gcX2 p0n (o.2.2))) from by have q0 := gmX2 hg_p0 hgn_p0; omega)⟩) hS (fun q _ h => hFc q h) hFc (fun u t H locs ht hvm hw hB hz1 hk1 hS => ?_)
        obtain ⟨hP, hD, hK⟩ := JOIN (wr := ([] : va_W)) hP hD hK [0, 1, 2, 3, 4, 5, 6, 7, 8, 9, 10, 11, 12, 13, 14, 15, 16, 17, 18, 19, 20, 21, 22, 23, 24, 25, 26, 27, 28, 29, 30, 31, 32, 33, 34, 35, 36, 37, 38, 39] [] [] rfl rfl (by decide) (by decide) rfl hk1 hFc ht hvm hB
        have hP : va_P (dC, dI) cls ((oX2 (p0a 0) (st1 (st1 (st1 (st1 (st1 (st1 (st1 (st1 (st1 (st1 (st1 (st1 (st1 (st1 p0a 4 x5) 5 x7) 6 x9) 7 x11) 10 x13) 11 x15) 12 x17) 13 x19) 14 x21) 15 x23) 16 x25) 17 x27) 18 x29) 19 x31) (st1 (st1 (st1 (st1 (st1 (st1 (st1 (st1 (st1 (st1 (st1 (st1 (st1 (st1 p0k 4 z6) 5 z8) 6 z10) 7 z12) 10 z14) 11 z16) 12 z18) 13 z20) 14 z22) 15 z24) 16 z26) 17 z28) 18 z30) 19 z32) (o_4.2.2) (o_4.1) o_35) ++ (oX1 (p1a 0) p1a p1k p1n p1w p1l) ++ (oX9 (p1a 3) p1_2a p1_2k p1_2n p1_2w)) H := hP.sub [0, 1, 2, 3, 4, 5, 6, 7, 8, 9, 10, 11, 12, 13, 14, 15, 16, 17, 18, 19, 20, 21, 22, 23, 24, 25, 26, 27, 28, 29, 30, 31, 32, 33, 34, 35, 36, 37, 38, 39] rfl
        have hD : va_D A ((oX2 (p0a 0) (st1 (st1 (st1 (st1 (st1 (st1 (st1 (st1 (st1 (st1 (st1 (st1 (st1 (st1 p0a 4 x5) 5 x7) 6 x9) 7 x11) 10 x13) 11 x15) 12 x17) 13 x19) 14 x21) 15 x23) 16 x25) 17 x27) 18 x29) 19 x31) (st1 (st1 (st1 (st1 (st1 (st1 (st1 (st1 (st1 (st1 (st1 (st1 (st1 (st1 p0k 4 z6) 5 z8) 6 z10) 7 z12) 10 z14) 11 z16) 12 z18) 13 z20) 14 z22) 15 z24) 16 z26) 17 z28) 18 z30) 19 z32) (o_4.2.2) (o_4.1) o_35) ++ (oX1 (p1a 0) p1a p1k p1n p1w p1l) ++ (oX9 (p1a 3) p1_2a p1_2k p1_2n p1_2w)) := hD.sub [0, 1, 2, 3, 4, 5, 6, 7, 8, 9, 10, 11, 12, 13, 14, 15, 16, 17, 18, 19, 20, 21, 22, 23, 24, 25, 26, 27, 28, 29, 30, 31, 32, 33, 34, 35, 36, 37, 38, 39] (by decide) rfl
        have hK : va_K (dC, dI) cls ((tX2 (st1 (st1 (st1 (st1 (st1 (st1 (st1 (st1 (st1 (st1 (st1 (st1 (st1 (st1 p0k 4 z6) 5 z8) 6 z10) 7 z12) 10 z14) 11 z16) 12 z18) 13 z20) 14 z22) 15 z24) 16 z26) 17 z28) 18 z30) 19 z32)) ++ (tX1 p1k) ++ (tX9 p1_2k)) s := hK.sub [0, 1, 2, 3, 4, 5, 6, 7, 8, 9, 10, 11, 12, 13, 14, 15, 16, 17, 18, 19, 20, 21, 22, 23, 24, 25, 26, 27, 28, 29, 30, 31, 32, 33, 34, 35, 36] rfl
        refine lv_iinc (v := (v4_35 + 1)) (lv' := [(4, .int (v4_35 + 1)), (0, .ref (p0a 0)), (1, .ref (p1a 0))]) hx hb dX2_reckon_51 hl (k := 2) rfl rfl (by decide) rfl (fun ls hl => ?_)
        refine lv_goto (tgt := 35) hx hb dX2_reckon_54 (by decide) ?_
        exact IH35 (v4_35 + 1) o_35 o35 _ _ _ hrun hP hD hK hS (lv_sub hl [1, 2, 0] rfl) hg_p0 hk35
  obtain ⟨o35, hc35, hrun⟩ := bnd9 hrun
  refine L35 NF 0 (o_4.2.1) o35 _ _ _ hc35 hP hD hK hS (lv_sub hl [1, 2, 0] rfl) hg_p0 ?_
  intro H locs ls hP hD hK hS hl hg_p0
  have hl := hl
  refine lv_aload_n hx hb dX2_reckon_57 rfl (lv_at hl 0 rfl) ?_
  refine lv_aload_n hx hb dX2_reckon_58 rfl (lv_at hl 1 rfl) ?_
  obtain ⟨o_36, hc_36, hrun⟩ := bnd9 hrun
  have hPc := hP.sub (ws' := ((oX2 (p0a 0) (st1 (st1 (st1 (st1 (st1 (st1 (st1 (st1 (st1 (st1 (st1 (st1 (st1 (st1 p0a 4 x5) 5 x7) 6 x9) 7 x11) 10 x13) 11 x15) 12 x17) 13 x19) 14 x21) 15 x23) 16 x25) 17 x27) 18 x29) 19 x31) (st1 (st1 (st1 (st1 (st1 (st1 (st1 (st1 (st1 (st1 (st1 (st1 (st1 (st1 p0k 4 z6) 5 z8) 6 z10) 7 z12) 10 z14) 11 z16) 12 z18) 13 z20) 14 z22) 15 z24) 16 z26) 17 z28) 18 z30) 19 z32) (o_4.2.2) (o_4.1) o35) ++ (oX1 (p1a 0) p1a p1k p1n p1w p1l))) [0, 1, 2, 3, 4, 5, 6, 7, 8, 9, 10, 11, 12, 13, 14, 15, 16, 17, 18, 19, 20, 21, 22, 23, 24, 25, 26, 27, 28, 29, 30, 31, 32, 33] rfl
  have hDc := hD.sub (ws' := ((oX2 (p0a 0) (st1 (st1 (st1 (st1 (st1 (st1 (st1 (st1 (st1 (st1 (st1 (st1 (st1 (st1 p0a 4 x5) 5 x7) 6 x9) 7 x11) 10 x13) 11 x15) 12 x17) 13 x19) 14 x21) 15 x23) 16 x25) 17 x27) 18 x29) 19 x31) (st1 (st1 (st1 (st1 (st1 (st1 (st1 (st1 (st1 (st1 (st1 (st1 (st1 (st1 p0k 4 z6) 5 z8) 6 z10) 7 z12) 10 z14) 11 z16) 12 z18) 13 z20) 14 z22) 15 z24) 16 z26) 17 z28) 18 z30) 19 z32) (o_4.2.2) (o_4.1) o35) ++ (oX1 (p1a 0) p1a p1k p1n p1w p1l))) [0, 1, 2, 3, 4, 5, 6, 7, 8, 9, 10, 11, 12, 13, 14, 15, 16, 17, 18, 19, 20, 21, 22, 23, 24, 25, 26, 27, 28, 29, 30, 31, 32, 33] (by decide) rfl
  have hKc := hK.sub (tys' := ((tX2 (st1 (st1 (st1 (st1 (st1 (st1 (st1 (st1 (st1 (st1 (st1 (st1 (st1 (st1 p0k 4 z6) 5 z8) 6 z10) 7 z12) 10 z14) 11 z16) 12 z18) 13 z20) 14 z22) 15 z24) 16 z26) 17 z28) 18 z30) 19 z32)) ++ (tX1 p1k))) [0, 1, 2, 3, 4, 5, 6, 7, 8, 9, 10, 11, 12, 13, 14, 15, 16, 17, 18, 19, 20, 21, 22, 23, 24, 25, 26, 27, 28, 29, 30, 31] rfl
  have hFc := va_free (wc := ((oX2 (p0a 0) (st1 (st1 (st1 (st1 (st1 (st1 (st1 (st1 (st1 (st1 (st1 (st1 (st1 (st1 p0a 4 x5) 5 x7) 6 x9) 7 x11) 10 x13) 11 x15) 12 x17) 13 x19) 14 x21) 15 x23) 16 x25) 17 x27) 18 x29) 19 x31) (st1 (st1 (st1 (st1 (st1 (st1 (st1 (st1 (st1 (st1 (st1 (st1 (st1 (st1 p0k 4 z6) 5 z8) 6 z10) 7 z12) 10 z14) 11 z16) 12 z18) 13 z20) 14 z22) 15 z24) 16 z26) 17 z28) 18 z30) 19 z32) (o_4.2.2) (o_4.1) o35) ++ (oX1 (p1a 0) p1a p1k p1n p1w p1l))) hD hS hA [0, 1, 2, 3, 4, 5, 6, 7, 8, 9, 10, 11, 12, 13, 14, 15, 16, 17, 18, 19, 20, 21, 22, 23, 24, 25, 26, 27, 28, 29, 30, 31, 32, 33] rfl
  refine va_callv (va_runV (As := [.ref (p1a 0)]) (rest := []) ⟨hx, hb, hml, hown, hts⟩ (kX2_spreadLife l dC dI (p0a := (st0 (p0a 0) (st1 (st1 (st1 (st1 (st1 (st1 (st1 (st1 (st1 (st1 (st1 (st1 (st1 (st1 p0a 4 x5) 5 x7) 6 x9) 7 x11) 10 x13) 11 x15) 12 x17) 13 x19) 14 x21) 15 x23) 16 x25) 17 x27) 18 x29) 19 x31))) (p0k := (st1 (st1 (st1 (st1 (st1 (st1 (st1 (st1 (st1 (st1 (st1 (st1 (st1 (st1 p0k 4 z6) 5 z8) 6 z10) 7 z12) 10 z14) 11 z16) 12 z18) 13 z20) 14 z22) 15 z24) 16 z26) 17 z28) 18 z30) 19 z32)) (p0n := (o_4.2.2)) (p0w := (o_4.1)) (p0l := o35) (p1a := (st0 (p1a 0) p1a)) (p1k := p1k) (p1n := p1n) (p1w := p1w) (p1l := p1l) (sz := _) (o := o_36) (hrun := hc_36)) (cwV 1 hts (gi_V qw730 qw731 qw732 qw692 (gi_z qw729)) rfl rfl rfl (by decide +kernel) ⟨Nat.le_of_ble_eq_true rfl, Nat.le_of_ble_eq_true rfl⟩) ⟨PRE.blind, va_recv hKc hPc (ci := 9) (q0 := 0) rfl rfl, PRE.of hE hS hFc hPc hKc hDc⟩ rfl rfl hl.1 rfl (lv_room (Nat.le_of_ble_eq_true rfl)) dX2_reckon_59 ⟨(show (gcX2 p0n (o_4.2.2)) + 0 ≤ (gcX2 p0n (o.2.2)) from by have q0 := gmX2 hg_p0 hgn_p0; omega), (show (3 * (gcX2 p0n (o_4.2.2))) + 0 ≤ (3 * (gcX2 p0n (o.2.2))) from by have q0 := gmX2 hg_p0 hgn_p0; omega)⟩) hS (fun q _ h => hFc q h) hFc (fun u t H locs ht hvm hw hB hz1 hk1 hS => ?_)
  obtain ⟨hP, hD, hK⟩ := JOIN (wr := (oX9 (p1a 3) p1_2a p1_2k p1_2n p1_2w)) hP hD hK [0, 1, 2, 3, 4, 5, 6, 7, 8, 9, 10, 11, 12, 13, 14, 15, 16, 17, 18, 19, 20, 21, 22, 23, 24, 25, 26, 27, 28, 29, 30, 31, 32, 33] [34, 35, 36, 37, 38, 39] [32, 33, 34, 35, 36] rfl rfl (by decide) (by decide) rfl hk1 hFc ht hvm hB
  have hP : va_P (dC, dI) cls ((oX2 (p0a 0) (st1 (st1 (st1 (st1 (st1 (st1 (st1 (st1 (st1 (st1 (st1 (st1 (st1 (st1 p0a 4 x5) 5 x7) 6 x9) 7 x11) 10 x13) 11 x15) 12 x17) 13 x19) 14 x21) 15 x23) 16 x25) 17 x27) 18 x29) 19 x31) (st1 (st1 (st1 (st1 (st1 (st1 (st1 (st1 (st1 (st1 (st1 (st1 (st1 (st1 p0k 4 z6) 5 z8) 6 z10) 7 z12) 10 z14) 11 z16) 12 z18) 13 z20) 14 z22) 15 z24) 16 z26) 17 z28) 18 z30) 19 z32) (o_4.2.2) (o_4.1) o_36) ++ (oX1 (p1a 0) p1a p1k p1n p1w p1l) ++ (oX9 (p1a 3) p1_2a p1_2k p1_2n p1_2w)) H := hP.sub [6, 7, 8, 9, 10, 11, 12, 13, 14, 15, 16, 17, 18, 19, 20, 21, 22, 23, 24, 25, 26, 27, 28, 29, 30, 31, 32, 33, 34, 35, 36, 37, 38, 39, 0, 1, 2, 3, 4, 5] rfl
  have hD : va_D A ((oX2 (p0a 0) (st1 (st1 (st1 (st1 (st1 (st1 (st1 (st1 (st1 (st1 (st1 (st1 (st1 (st1 p0a 4 x5) 5 x7) 6 x9) 7 x11) 10 x13) 11 x15) 12 x17) 13 x19) 14 x21) 15 x23) 16 x25) 17 x27) 18 x29) 19 x31) (st1 (st1 (st1 (st1 (st1 (st1 (st1 (st1 (st1 (st1 (st1 (st1 (st1 (st1 p0k 4 z6) 5 z8) 6 z10) 7 z12) 10 z14) 11 z16) 12 z18) 13 z20) 14 z22) 15 z24) 16 z26) 17 z28) 18 z30) 19 z32) (o_4.2.2) (o_4.1) o_36) ++ (oX1 (p1a 0) p1a p1k p1n p1w p1l) ++ (oX9 (p1a 3) p1_2a p1_2k p1_2n p1_2w)) := hD.sub [6, 7, 8, 9, 10, 11, 12, 13, 14, 15, 16, 17, 18, 19, 20, 21, 22, 23, 24, 25, 26, 27, 28, 29, 30, 31, 32, 33, 34, 35, 36, 37, 38, 39, 0, 1, 2, 3, 4, 5] (by decide) rfl
  have hK : va_K (dC, dI) cls ((tX2 (st1 (st1 (st1 (st1 (st1 (st1 (st1 (st1 (st1 (st1 (st1 (st1 (st1 (st1 p0k 4 z6) 5 z8) 6 z10) 7 z12) 10 z14) 11 z16) 12 z18) 13 z20) 14 z22) 15 z24) 16 z26) 17 z28) 18 z30) 19 z32)) ++ (tX1 p1k) ++ (tX9 p1_2k)) s := hK.sub [5, 6, 7, 8, 9, 10, 11, 12, 13, 14, 15, 16, 17, 18, 19, 20, 21, 22, 23, 24, 25, 26, 27, 28, 29, 30, 31, 32, 33, 34, 35, 36, 0, 1, 2, 3, 4] rfl
  refine lv_aload_n hx hb dX2_reckon_62 rfl (lv_at hl 0 rfl) ?_
  refine va_get (D := (dC, dI)) (ci := 9) (v := .ref x15) (C := RX2) (T := TX2) (N := 19) hx hb hts i_X2 hown hK hP 0 rfl rfl 10 (by decide) (hts _ qw679) (fun _ h9 => h9) rfl dX2_reckon_63 ?_
  refine lv_iconst (v := 0) hx hb dX2_reckon_66 (by decide) ?_
  refine lv_aload_n hx hb dX2_reckon_67 rfl (lv_at hl 0 rfl) ?_
  refine va_get (D := (dC, dI)) (ci := 9) (v := .int ((o_4.1) 0 1)) (C := RX2) (T := TX2) (N := 19) hx hb hts i_X2 hown hK hP 0 rfl rfl 1 (by decide) (hts _ qw666) (fun _ h9 => h9) rfl dX2_reckon_68 ?_
  refine lv_aload_n hx hb dX2_reckon_71 rfl (lv_at hl 0 rfl) ?_
  refine va_get (D := (dC, dI)) (ci := 9) (v := .int ((o_4.1) 0 2)) (C := RX2) (T := TX2) (N := 19) hx hb hts i_X2 hown hK hP 0 rfl rfl 2 (by decide) (hts _ qw667) (fun _ h9 => h9) rfl dX2_reckon_72 ?_
  refine lv_imul hx hb dX2_reckon_75 ?_
  refine lv_lconst (v := 0) hx hb dX2_reckon_76 (by decide) ?_
  obtain ⟨o_37, hc_37, hrun⟩ := bnd9 hrun
  have hPc := hP.sub (ws' := [(x15, .inl (z16, ((o_4.2.2) 11), .inr (.inl (o_36 11))))]) [7] rfl
  have hDc := hD.sub (ws' := [(x15, .inl (z16, ((o_4.2.2) 11), .inr (.inl (o_36 11))))]) [7] (by decide) rfl
  have hKc := hK.sub (tys' := [(z16, .long)]) [6] rfl
  have hFc := va_free (wc := [(x15, .inl (z16, ((o_4.2.2) 11), .inr (.inl (o_36 11))))]) hD hS hA [7] rfl
  refine va_callv (va_runS (As := [.ref x15, .int 0, .int (((o_4.1) 0 1) * ((o_4.1) 0 2)), .long 0]) (rest := []) ⟨hx, hb, hml, hown, hts⟩ (kJ7_fill_bad5a l dC dI (p0a := x15) (p0k := z16) (p0n := ((o_4.2.2) 11)) (p0f := (o_36 11)) (p1 := 0) (p2 := (((o_4.1) 0 1) * ((o_4.1) 0 2))) (p3 := 0) (sz := _) (o := o_37) (hrun := hc_37)) (va_cwS 4 hts (gi_S qw694 qw695 qw109 (gi_z qw693)) rfl rfl rfl (by decide +kernel) ⟨Nat.le_of_ble_eq_true rfl, Nat.le_of_ble_eq_true rfl⟩) ⟨PRE.blind, PRE.of hE hS hFc hPc hKc hDc⟩ rfl rfl hl.1 rfl (lv_room (Nat.le_of_ble_eq_true rfl)) dX2_reckon_77 ⟨(show (gcX2 p0n (o_4.2.2)) + 0 ≤ (gcX2 p0n (o.2.2)) from by have q0 := gmX2 hg_p0 hgn_p0; omega), (show (3 * (gcX2 p0n (o_4.2.2))) + 0 ≤ (3 * (gcX2 p0n (o.2.2))) from by have q0 := gmX2 hg_p0 hgn_p0; omega)⟩) hS (fun q _ h => hFc q h) hFc (fun u t H locs ht hvm hw hB hz1 hk1 hS => ?_)
  obtain ⟨hP, hD, hK⟩ := JOIN (wr := ([((p0a 0), .inr (9, [.int ((o_4.1) 0 0), .int ((o_4.1) 0 1), .int ((o_4.1) 0 2), .ref x5, .ref x7, .ref x9, .ref x11, .ref (p0a 8), .int ((o_4.1) 0 8), .ref x13, .ref x15, .ref x17, .ref x19, .ref x21, .ref x23, .ref x25, .ref x27, .ref x29, .ref x31])), (x5, .inl (z6, ((o_4.2.2) 4), .inr (.inl (o_36 4)))), (x7, .inl (z8, ((o_4.2.2) 5), .inr (.inl (o_36 5)))), (x9, .inl (z10, ((o_4.2.2) 6), .inr (.inl (o_36 6)))), (x11, .inl (z12, ((o_4.2.2) 7), .inr (.inl (o_36 7)))), ((p0a 8), .inl ((p0k 8), 2, .inl ((o_4.1) 8))), (x13, .inl (z14, ((o_4.2.2) 10), .inl ((o_4.1) 10))), (x17, .inl (z18, ((o_4.2.2) 12), .inl ((o_4.1) 12))), (x19, .inl (z20, ((o_4.2.2) 13), .inl ((o_4.1) 13))), (x21, .inl (z22, ((o_4.2.2) 14), .inr (.inl (o_36 14)))), (x23, .inl (z24, ((o_4.2.2) 15), .inl ((o_4.1) 15))), (x25, .inl (z26, ((o_4.2.2) 16), .inl ((o_4.1) 16))), (x27, .inl (z28, ((o_4.2.2) 17), .inl ((o_4.1) 17))), (x29, .inl (z30, ((o_4.2.2) 18), .inl ((o_4.1) 18))), (x31, .inl (z32, ((o_4.2.2) 19), .inl ((o_4.1) 19)))] ++ (oX1 (p1a 0) p1a p1k p1n p1w p1l) ++ (oX9 (p1a 3) p1_2a p1_2k p1_2n p1_2w))) hP hD hK [7] [0, 1, 2, 3, 4, 5, 6, 8, 9, 10, 11, 12, 13, 14, 15, 16, 17, 18, 19, 20, 21, 22, 23, 24, 25, 26, 27, 28, 29, 30, 31, 32, 33, 34, 35, 36, 37, 38, 39] [0, 1, 2, 3, 4, 5, 7, 8, 9, 10, 11, 12, 13, 14, 15, 16, 17, 18, 19, 20, 21, 22, 23, 24, 25, 26, 27, 28, 29, 30, 31, 32, 33, 34, 35, 36] rfl rfl (by decide) (by decide) rfl hk1 hFc ht hvm hB
  have hP : va_P (dC, dI) cls ((oX2 (p0a 0) (st1 (st1 (st1 (st1 (st1 (st1 (st1 (st1 (st1 (st1 (st1 (st1 (st1 (st1 p0a 4 x5) 5 x7) 6 x9) 7 x11) 10 x13) 11 x15) 12 x17) 13 x19) 14 x21) 15 x23) 16 x25) 17 x27) 18 x29) 19 x31) (st1 (st1 (st1 (st1 (st1 (st1 (st1 (st1 (st1 (st1 (st1 (st1 (st1 (st1 p0k 4 z6) 5 z8) 6 z10) 7 z12) 10 z14) 11 z16) 12 z18) 13 z20) 14 z22) 15 z24) 16 z26) 17 z28) 18 z30) 19 z32) (o_4.2.2) (o_4.1) (srl o_36 11 o_37)) ++ (oX1 (p1a 0) p1a p1k p1n p1w p1l) ++ (oX9 (p1a 3) p1_2a p1_2k p1_2n p1_2w)) H := hP.sub [0, 1, 2, 3, 4, 5, 6, 39, 7, 8, 9, 10, 11, 12, 13, 14, 15, 16, 17, 18, 19, 20, 21, 22, 23, 24, 25, 26, 27, 28, 29, 30, 31, 32, 33, 34, 35, 36, 37, 38] rfl
  have hD : va_D A ((oX2 (p0a 0) (st1 (st1 (st1 (st1 (st1 (st1 (st1 (st1 (st1 (st1 (st1 (st1 (st1 (st1 p0a 4 x5) 5 x7) 6 x9) 7 x11) 10 x13) 11 x15) 12 x17) 13 x19) 14 x21) 15 x23) 16 x25) 17 x27) 18 x29) 19 x31) (st1 (st1 (st1 (st1 (st1 (st1 (st1 (st1 (st1 (st1 (st1 (st1 (st1 (st1 p0k 4 z6) 5 z8) 6 z10) 7 z12) 10 z14) 11 z16) 12 z18) 13 z20) 14 z22) 15 z24) 16 z26) 17 z28) 18 z30) 19 z32) (o_4.2.2) (o_4.1) (srl o_36 11 o_37)) ++ (oX1 (p1a 0) p1a p1k p1n p1w p1l) ++ (oX9 (p1a 3) p1_2a p1_2k p1_2n p1_2w)) := hD.sub [0, 1, 2, 3, 4, 5, 6, 39, 7, 8, 9, 10, 11, 12, 13, 14, 15, 16, 17, 18, 19, 20, 21, 22, 23, 24, 25, 26, 27, 28, 29, 30, 31, 32, 33, 34, 35, 36, 37, 38] (by decide) rfl
  have hK : va_K (dC, dI) cls ((tX2 (st1 (st1 (st1 (st1 (st1 (st1 (st1 (st1 (st1 (st1 (st1 (st1 (st1 (st1 p0k 4 z6) 5 z8) 6 z10) 7 z12) 10 z14) 11 z16) 12 z18) 13 z20) 14 z22) 15 z24) 16 z26) 17 z28) 18 z30) 19 z32)) ++ (tX1 p1k) ++ (tX9 p1_2k)) s := hK.sub [0, 1, 2, 3, 4, 5, 36, 6, 7, 8, 9, 10, 11, 12, 13, 14, 15, 16, 17, 18, 19, 20, 21, 22, 23, 24, 25, 26, 27, 28, 29, 30, 31, 32, 33, 34, 35] rfl
  refine lv_aload_n hx hb dX2_reckon_80 rfl (lv_at hl 0 rfl) ?_
  refine va_get (D := (dC, dI)) (ci := 9) (v := .ref x17) (C := RX2) (T := TX2) (N := 19) hx hb hts i_X2 hown hK hP 0 rfl rfl 11 (by decide) (hts _ qw680) (fun _ h9 => h9) rfl dX2_reckon_81 ?_
  refine lv_iconst (v := 0) hx hb dX2_reckon_84 (by decide) ?_
  refine lv_aload_n hx hb dX2_reckon_85 rfl (lv_at hl 0 rfl) ?_
  refine va_get (D := (dC, dI)) (ci := 9) (v := .int ((o_4.1) 0 1)) (C := RX2) (T := TX2) (N := 19) hx hb hts i_X2 hown hK hP 0 rfl rfl 1 (by decide) (hts _ qw666) (fun _ h9 => h9) rfl dX2_reckon_86 ?_
  refine lv_iconst (v := (-1)) hx hb dX2_reckon_89 (by decide) ?_
  obtain ⟨o_38, hc_38, hrun⟩ := bnd9 hrun
  have hPc := hP.sub (ws' := [(x17, .inl (z18, ((o_4.2.2) 12), .inl ((o_4.1) 12)))]) [8] rfl
  have hDc := hD.sub (ws' := [(x17, .inl (z18, ((o_4.2.2) 12), .inl ((o_4.1) 12)))]) [8] (by decide) rfl
  have hKc := hK.sub (tys' := [(z18, .int)]) [7] rfl
  have hFc := va_free (wc := [(x17, .inl (z18, ((o_4.2.2) 12), .inl ((o_4.1) 12)))]) hD hS hA [8] rfl
  refine va_callv (va_runS (As := [.ref x17, .int 0, .int ((o_4.1) 0 1), .int (-1)]) (rest := []) ⟨hx, hb, hml, hown, hts⟩ (kJ7_fill_fda19 l dC dI (p0a := x17) (p0k := z18) (p0n := ((o_4.2.2) 12)) (p0f := ((o_4.1) 12)) (p1 := 0) (p2 := ((o_4.1) 0 1)) (p3 := (-1)) (sz := _) (o := o_38) (hrun := hc_38)) (va_cwS 4 hts (gi_S qw733 qw281 qw109 (gi_z qw279)) rfl rfl rfl (by decide +kernel) ⟨Nat.le_of_ble_eq_true rfl, Nat.le_of_ble_eq_true rfl⟩) ⟨PRE.blind, PRE.of hE hS hFc hPc hKc hDc⟩ rfl rfl hl.1 rfl (lv_room (Nat.le_of_ble_eq_true rfl)) dX2_reckon_90 ⟨(show (gcX2 p0n (o_4.2.2)) + 0 ≤ (gcX2 p0n (o.2.2)) from by have q0 := gmX2 hg_p0 hgn_p0; omega), (show (3 * (gcX2 p0n (o_4.2.2))) + 0 ≤ (3 * (gcX2 p0n (o.2.2))) from by have q0 := gmX2 hg_p0 hgn_p0; omega)⟩) hS (fun q _ h => hFc q h) hFc (fun u t H locs ht hvm hw hB hz1 hk1 hS => ?_)
  obtain ⟨hP, hD, hK⟩ := JOIN (wr := ([((p0a 0), .inr (9, [.int ((o_4.1) 0 0), .int ((o_4.1) 0 1), .int ((o_4.1) 0 2), .ref x5, .ref x7, .ref x9, .ref x11, .ref (p0a 8), .int ((o_4.1) 0 8), .ref x13, .ref x15, .ref x17, .ref x19, .ref x21, .ref x23, .ref x25, .ref x27, .ref x29, .ref x31])), (x5, .inl (z6, ((o_4.2.2) 4), .inr (.inl ((srl o_36 11 o_37) 4)))), (x7, .inl (z8, ((o_4.2.2) 5), .inr (.inl ((srl o_36 11 o_37) 5)))), (x9, .inl (z10, ((o_4.2.2) 6), .inr (.inl ((srl o_36 11 o_37) 6)))), (x11, .inl (z12, ((o_4.2.2) 7), .inr (.inl ((srl o_36 11 o_37) 7)))), ((p0a 8), .inl ((p0k 8), 2, .inl ((o_4.1) 8))), (x13, .inl (z14, ((o_4.2.2) 10), .inl ((o_4.1) 10))), (x15, .inl (z16, ((o_4.2.2) 11), .inr (.inl ((srl o_36 11 o_37) 11)))), (x19, .inl (z20, ((o_4.2.2) 13), .inl ((o_4.1) 13))), (x21, .inl (z22, ((o_4.2.2) 14), .inr (.inl ((srl o_36 11 o_37) 14)))), (x23, .inl (z24, ((o_4.2.2) 15), .inl ((o_4.1) 15))), (x25, .inl (z26, ((o_4.2.2) 16), .inl ((o_4.1) 16))), (x27, .inl (z28, ((o_4.2.2) 17), .inl ((o_4.1) 17))), (x29, .inl (z30, ((o_4.2.2) 18), .inl ((o_4.1) 18))), (x31, .inl (z32, ((o_4.2.2) 19), .inl ((o_4.1) 19)))] ++ (oX1 (p1a 0) p1a p1k p1n p1w p1l) ++ (oX9 (p1a 3) p1_2a p1_2k p1_2n p1_2w))) hP hD hK [8] [0, 1, 2, 3, 4, 5, 6, 7, 9, 10, 11, 12, 13, 14, 15, 16, 17, 18, 19, 20, 21, 22, 23, 24, 25, 26, 27, 28, 29, 30, 31, 32, 33, 34, 35, 36, 37, 38, 39] [0, 1, 2, 3, 4, 5, 6, 8, 9, 10, 11, 12, 13, 14, 15, 16, 17, 18, 19, 20, 21, 22, 23, 24, 25, 26, 27, 28, 29, 30, 31, 32, 33, 34, 35, 36] rfl rfl (by decide) (by decide) rfl hk1 hFc ht hvm hB
  have hP : va_P (dC, dI) cls ((oX2 (p0a 0) (st1 (st1 (st1 (st1 (st1 (st1 (st1 (st1 (st1 (st1 (st1 (st1 (st1 (st1 p0a 4 x5) 5 x7) 6 x9) 7 x11) 10 x13) 11 x15) 12 x17) 13 x19) 14 x21) 15 x23) 16 x25) 17 x27) 18 x29) 19 x31) (st1 (st1 (st1 (st1 (st1 (st1 (st1 (st1 (st1 (st1 (st1 (st1 (st1 (st1 p0k 4 z6) 5 z8) 6 z10) 7 z12) 10 z14) 11 z16) 12 z18) 13 z20) 14 z22) 15 z24) 16 z26) 17 z28) 18 z30) 19 z32) (o_4.2.2) (srw (o_4.1) 12 o_38) (srl o_36 11 o_37)) ++ (oX1 (p1a 0) p1a p1k p1n p1w p1l) ++ (oX9 (p1a 3) p1_2a p1_2k p1_2n p1_2w)) H := hP.sub [0, 1, 2, 3, 4, 5, 6, 7, 39, 8, 9, 10, 11, 12, 13, 14, 15, 16, 17, 18, 19, 20, 21, 22, 23, 24, 25, 26, 27, 28, 29, 30, 31, 32, 33, 34, 35, 36, 37, 38] rfl
  have hD : va_D A ((oX2 (p0a 0) (st1 (st1 (st1 (st1 (st1 (st1 (st1 (st1 (st1 (st1 (st1 (st1 (st1 (st1 p0a 4 x5) 5 x7) 6 x9) 7 x11) 10 x13) 11 x15) 12 x17) 13 x19) 14 x21) 15 x23) 16 x25) 17 x27) 18 x29) 19 x31) (st1 (st1 (st1 (st1 (st1 (st1 (st1 (st1 (st1 (st1 (st1 (st1 (st1 (st1 p0k 4 z6) 5 z8) 6 z10) 7 z12) 10 z14) 11 z16) 12 z18) 13 z20) 14 z22) 15 z24) 16 z26) 17 z28) 18 z30) 19 z32) (o_4.2.2) (srw (o_4.1) 12 o_38) (srl o_36 11 o_37)) ++ (oX1 (p1a 0) p1a p1k p1n p1w p1l) ++ (oX9 (p1a 3) p1_2a p1_2k p1_2n p1_2w)) := hD.sub [0, 1, 2, 3, 4, 5, 6, 7, 39, 8, 9, 10, 11, 12, 13, 14, 15, 16, 17, 18, 19, 20, 21, 22, 23, 24, 25, 26, 27, 28, 29, 30, 31, 32, 33, 34, 35, 36, 37, 38] (by decide) rfl
  have hK : va_K (dC, dI) cls ((tX2 (st1 (st1 (st1 (st1 (st1 (st1 (st1 (st1 (st1 (st1 (st1 (st1 (st1 (st1 p0k 4 z6) 5 z8) 6 z10) 7 z12) 10 z14) 11 z16) 12 z18) 13 z20) 14 z22) 15 z24) 16 z26) 17 z28) 18 z30) 19 z32)) ++ (tX1 p1k) ++ (tX9 p1_2k)) s := hK.sub [0, 1, 2, 3, 4, 5, 6, 36, 7, 8, 9, 10, 11, 12, 13, 14, 15, 16, 17, 18, 19, 20, 21, 22, 23, 24, 25, 26, 27, 28, 29, 30, 31, 32, 33, 34, 35] rfl
  refine lv_iconst (v := 0) hx hb dX2_reckon_93 (by decide) ?_
  refine lv_istore (lv' := [(4, .int 0), (0, .ref (p0a 0)), (1, .ref (p1a 0))]) hx hb dX2_reckon_94 hl (by decide) rfl (fun ls hl => ?_)
  obtain ⟨o96, hc96, hrun⟩ := bnd9 hrun
  have hgn_p0 : glX2 (o96.2.2) (o.2.2) := (mo_fX2_reckon_G118_70 hrun)
  have L96 : ∀ (n_96 : Nat) (v4_96 : Int32) (p0w_96 : ST) (p0l_96 : SL) (p0n_96 : Nat → Nat) (xp0_3_96 : Nat) (zp0_3_96 : ClassId) (xp0_4_96 : Nat) (zp0_4_96 : ClassId) (xp0_5_96 : Nat) (zp0_5_96 : ClassId) (xp0_6_96 : Nat) (zp0_6_96 : ClassId) (xp0_9_96 : Nat) (zp0_9_96 : ClassId) (xp0_10_96 : Nat) (zp0_10_96 : ClassId) (xp0_11_96 : Nat) (zp0_11_96 : ClassId) (xp0_12_96 : Nat) (zp0_12_96 : ClassId) (xp0_13_96 : Nat) (zp0_13_96 : ClassId) (xp0_14_96 : Nat) (zp0_14_96 : ClassId) (xp0_15_96 : Nat) (zp0_15_96 : ClassId) (xp0_16_96 : Nat) (zp0_16_96 : ClassId) (xp0_17_96 : Nat) (zp0_17_96 : ClassId) (xp0_18_96 : Nat) (zp0_18_96 : ClassId) (o96 : ST × SL × (Nat → Nat)) (H : Heap) (locs : List Loc) (ls : Array Slot), (fX2_reckon_L96 p1w p1_2n p1_2w n_96) v4_96 p0w_96 p0l_96 p0n_96 = some o96 → va_P (dC, dI) cls ((oX2 (p0a 0) (st1 (st1 (st1 (st1 (st1 (st1 (st1 (st1 (st1 (st1 (st1 (st1 (st1 (st1 p0a 4 xp0_3_96) 5 xp0_4_96) 6 xp0_5_96) 7 xp0_6_96) 10 xp0_9_96) 11 xp0_10_96) 12 xp0_11_96) 13 xp0_12_96) 14 xp0_13_96) 15 xp0_14_96) 16 xp0_15_96) 17 xp0_16_96) 18 xp0_17_96) 19 xp0_18_96) (st1 (st1 (st1 (st1 (st1 (st1 (st1 (st1 (st1 (st1 (st1 (st1 (st1 (st1 p0k 4 zp0_3_96) 5 zp0_4_96) 6 zp0_5_96) 7 zp0_6_96) 10 zp0_9_96) 11 zp0_10_96) 12 zp0_11_96) 13 zp0_12_96) 14 zp0_13_96) 15 zp0_14_96) 16 zp0_15_96) 17 zp0_16_96) 18 zp0_17_96) 19 zp0_18_96) p0n_96 p0w_96 p0l_96) ++ (oX1 (p1a 0) p1a p1k p1n p1w p1l) ++ (oX9 (p1a 3) p1_2a p1_2k p1_2n p1_2w)) H → va_D A ((oX2 (p0a 0) (st1 (st1 (st1 (st1 (st1 (st1 (st1 (st1 (st1 (st1 (st1 (st1 (st1 (st1 p0a 4 xp0_3_96) 5 xp0_4_96) 6 xp0_5_96) 7 xp0_6_96) 10 xp0_9_96) 11 xp0_10_96) 12 xp0_11_96) 13 xp0_12_96) 14 xp0_13_96) 15 xp0_14_96) 16 xp0_15_96) 17 xp0_16_96) 18 xp0_17_96) 19 xp0_18_96) (st1 (st1 (st1 (st1 (st1 (st1 (st1 (st1 (st1 (st1 (st1 (st1 (st1 (st1 p0k 4 zp0_3_96) 5 zp0_4_96) 6 zp0_5_96) 7 zp0_6_96) 10 zp0_9_96) 11 zp0_10_96) 12 zp0_11_96) 13 zp0_12_96) 14 zp0_13_96) 15 zp0_14_96) 16 zp0_15_96) 17 zp0_16_96) 18 zp0_17_96) 19 zp0_18_96) p0n_96 p0w_96 p0l_96) ++ (oX1 (p1a 0) p1a p1k p1n p1w p1l) ++ (oX9 (p1a 3) p1_2a p1_2k p1_2n p1_2w)) → va_K (dC, dI) cls ((tX2 (st1 (st1 (st1 (st1 (st1 (st1 (st1 (st1 (st1 (st1 (st1 (st1 (st1 (st1 p0k 4 zp0_3_96) 5 zp0_4_96) 6 zp0_5_96) 7 zp0_6_96) 10 zp0_9_96) 11 zp0_10_96) 12 zp0_11_96) 13 zp0_12_96) 14 zp0_13_96) 15 zp0_14_96) 16 zp0_15_96) 17 zp0_16_96) 18 zp0_17_96) 19 zp0_18_96)) ++ (tX1 p1k) ++ (tX9 p1_2k)) s → va_S A s.heap H locs → lv_has ls 5 [(0, .ref (p0a 0)), (1, .ref (p1a 0)), (4, .int v4_96)] → glX2 p0n p0n_96 → glX2 (o96.2.2) (o.2.2) → (∀ (xp0_3_96x : Nat) (zp0_3_96x : ClassId) (xp0_4_96x : Nat) (zp0_4_96x : ClassId) (xp0_5_96x : Nat) (zp0_5_96x : ClassId) (xp0_6_96x : Nat) (zp0_6_96x : ClassId) (xp0_9_96x : Nat) (zp0_9_96x : ClassId) (xp0_10_96x : Nat) (zp0_10_96x : ClassId) (xp0_11_96x : Nat) (zp0_11_96x : ClassId) (xp0_12_96x : Nat) (zp0_12_96x : ClassId) (xp0_13_96x : Nat) (zp0_13_96x : ClassId) (xp0_14_96x : Nat) (zp0_14_96x : ClassId) (xp0_15_96x : Nat) (zp0_15_96x : ClassId) (xp0_16_96x : Nat) (zp0_16_96x : ClassId) (xp0_17_96x : Nat) (zp0_17_96x : ClassId) (xp0_18_96x : Nat) (zp0_18_96x : ClassId) (H : Heap) (locs : List Loc) (ls : Array Slot), va_P (dC, dI) cls ((oX2 (p0a 0) (st1 (st1 (st1 (st1 (st1 (st1 (st1 (st1 (st1 (st1 (st1 (st1 (st1 (st1 p0a 4 xp0_3_96x) 5 xp0_4_96x) 6 xp0_5_96x) 7 xp0_6_96x) 10 xp0_9_96x) 11 xp0_10_96x) 12 xp0_11_96x) 13 xp0_12_96x) 14 xp0_13_96x) 15 xp0_14_96x) 16 xp0_15_96x) 17 xp0_16_96x) 18 xp0_17_96x) 19 xp0_18_96x) (st1 (st1 (st1 (st1 (st1 (st1 (st1 (st1 (st1 (st1 (st1 (st1 (st1 (st1 p0k 4 zp0_3_96x) 5 zp0_4_96x) 6 zp0_5_96x) 7 zp0_6_96x) 10 zp0_9_96x) 11 zp0_10_96x) 12 zp0_11_96x) 13 zp0_12_96x) 14 zp0_13_96x) 15 zp0_14_96x) 16 zp0_15_96x) 17 zp0_16_96x) 18 zp0_17_96x) 19 zp0_18_96x) (o96.2.2) (o96.1) (o96.2.1)) ++ (oX1 (p1a 0) p1a p1k p1n p1w p1l) ++ (oX9 (p1a 3) p1_2a p1_2k p1_2n p1_2w)) H → va_D A ((oX2 (p0a 0) (st1 (st1 (st1 (st1 (st1 (st1 (st1 (st1 (st1 (st1 (st1 (st1 (st1 (st1 p0a 4 xp0_3_96x) 5 xp0_4_96x) 6 xp0_5_96x) 7 xp0_6_96x) 10 xp0_9_96x) 11 xp0_10_96x) 12 xp0_11_96x) 13 xp0_12_96x) 14 xp0_13_96x) 15 xp0_14_96x) 16 xp0_15_96x) 17 xp0_16_96x) 18 xp0_17_96x) 19 xp0_18_96x) (st1 (st1 (st1 (st1 (st1 (st1 (st1 (st1 (st1 (st1 (st1 (st1 (st1 (st1 p0k 4 zp0_3_96x) 5 zp0_4_96x) 6 zp0_5_96x) 7 zp0_6_96x) 10 zp0_9_96x) 11 zp0_10_96x) 12 zp0_11_96x) 13 zp0_12_96x) 14 zp0_13_96x) 15 zp0_14_96x) 16 zp0_15_96x) 17 zp0_16_96x) 18 zp0_17_96x) 19 zp0_18_96x) (o96.2.2) (o96.1) (o96.2.1)) ++ (oX1 (p1a 0) p1a p1k p1n p1w p1l) ++ (oX9 (p1a 3) p1_2a p1_2k p1_2n p1_2w)) → va_K (dC, dI) cls ((tX2 (st1 (st1 (st1 (st1 (st1 (st1 (st1 (st1 (st1 (st1 (st1 (st1 (st1 (st1 p0k 4 zp0_3_96x) 5 zp0_4_96x) 6 zp0_5_96x) 7 zp0_6_96x) 10 zp0_9_96x) 11 zp0_10_96x) 12 zp0_11_96x) 13 zp0_12_96x) 14 zp0_13_96x) 15 zp0_14_96x) 16 zp0_15_96x) 17 zp0_16_96x) 18 zp0_17_96x) 19 zp0_18_96x)) ++ (tX1 p1k) ++ (tX9 p1_2k)) s → va_S A s.heap H locs → lv_has ls 5 [(0, .ref (p0a 0))] → glX2 p0n (o96.2.2) → W p l e ({ frames := 5, cells := (gcX2 p0n (o.2.2)), slots := (3 * (gcX2 p0n (o.2.2))), locals := 133 } : Room) s m ([.ref (p0a 0), .ref (p1a 0), .int p2, .int p3] : List Value).toArray below meth c H locs (gcX2 p0n (o96.2.2)) (3 * (gcX2 p0n (o96.2.2))) Q (F0 m 118 ls [])) → W p l e ({ frames := 5, cells := (gcX2 p0n (o.2.2)), slots := (3 * (gcX2 p0n (o.2.2))), locals := 133 } : Room) s m ([.ref (p0a 0), .ref (p1a 0), .int p2, .int p3] : List Value).toArray below meth c H locs (gcX2 p0n p0n_96) (3 * (gcX2 p0n p0n_96)) Q (F0 m 96 ls []) := by
    intro n_96
    induction n_96 with
    | zero => intro v4_96 p0w_96 p0l_96 p0n_96 xp0_3_96 zp0_3_96 xp0_4_96 zp0_4_96 xp0_5_96 zp0_5_96 xp0_6_96 zp0_6_96 xp0_9_96 zp0_9_96 xp0_10_96 zp0_10_96 xp0_11_96 zp0_11_96 xp0_12_96 zp0_12_96 xp0_13_96 zp0_13_96 xp0_14_96 zp0_14_96 xp0_15_96 zp0_15_96 xp0_16_96 zp0_16_96 xp0_17_96 zp0_17_96 xp0_18_96 zp0_18_96 o96 H locs ls hrun; exact (no9 rfl hrun).elim
    | succ n_96 IH96 =>
      intro v4_96 p0w_96 p0l_96 p0n_96 xp0_3_96 zp0_3_96 xp0_4_96 zp0_4_96 xp0_5_96 zp0_5_96 xp0_6_96 zp0_6_96 xp0_9_96 zp0_9_96 xp0_10_96 zp0_10_96 xp0_11_96 zp0_11_96 xp0_12_96 zp0_12_96 xp0_13_96 zp0_13_96 xp0_14_96 zp0_14_96 xp0_15_96 zp0_15_96 xp0_16_96 zp0_16_96 xp0_17_96 zp0_17_96 xp0_18_96 zp0_18_96 o96 H locs ls hrun hP hD hK hS hl hg_p0 hgo_p0 hk96
      have hgn_p0 : glX2 p0n_96 (o.2.2) := (glX2_tr (mo_fX2_reckon_L96 (n_96 + 1) _ _ _ _ _ hrun) hgo_p0)
      unfold fX2_reckon_L96 at hrun
      refine lv_iload hx hb dX2_reckon_96 (lv_at hl 2 rfl) ?_
      refine lv_aload_n hx hb dX2_reckon_98 rfl (lv_at hl 1 rfl) ?_
      refine va_get (D := (dC, dI)) (ci := 4) (v := .int (p1w 0 0)) (C := RX1) (T := TX1) (N := 21) hx hb hts i_X1 hown hK hP 16 rfl rfl 0 (by decide) (hts _ qw668) (fun _ h9 => h9) rfl dX2_reckon_99 ?_
      rcases br9 hrun with ⟨hc39, hrun⟩ | ⟨hc39, hrun⟩
      · refine lv_icmp_ge (tgt := 118) hx hb dX2_reckon_102 (by decide) (fun _ => ?_) (fun c => absurd hc39 c)
        obtain rfl := (Option.some.inj hrun)
        exact hk96 xp0_3_96 zp0_3_96 xp0_4_96 zp0_4_96 xp0_5_96 zp0_5_96 xp0_6_96 zp0_6_96 xp0_9_96 zp0_9_96 xp0_10_96 zp0_10_96 xp0_11_96 zp0_11_96 xp0_12_96 zp0_12_96 xp0_13_96 zp0_13_96 xp0_14_96 zp0_14_96 xp0_15_96 zp0_15_96 xp0_16_96 zp0_16_96 xp0_17_96 zp0_17_96 xp0_18_96 zp0_18_96 _ _ _ hP hD hK hS (lv_sub hl [0] rfl) hg_p0
      · refine lv_icmp_ge (tgt := 118) hx hb dX2_reckon_102 (by decide) (fun c => absurd c hc39) (fun _ => ?_)
        refine lv_aload_n hx hb dX2_reckon_105 rfl (lv_at hl 0 rfl) ?_
        refine lv_aload_n hx hb dX2_reckon_106 rfl (lv_at hl 1 rfl) ?_
        refine lv_iload hx hb dX2_reckon_107 (lv_at hl 2 rfl) ?_
        obtain ⟨o_40, hc_40, hrun⟩ := bnd9 hrun
        have hPc := hP.sub (ws' := ((oX2 (p0a 0) (st1 (st1 (st1 (st1 (st1 (st1 (st1 (st1 (st1 (st1 (st1 (st1 (st1 (st1 p0a 4 xp0_3_96) 5 xp0_4_96) 6 xp0_5_96) 7 xp0_6_96) 10 xp0_9_96) 11 xp0_10_96) 12 xp0_11_96) 13 xp0_12_96) 14 xp0_13_96) 15 xp0_14_96) 16 xp0_15_96) 17 xp0_16_96) 18 xp0_17_96) 19 xp0_18_96) (st1 (st1 (st1 (st1 (st1 (st1 (st1 (st1 (st1 (st1 (st1 (st1 (st1 (st1 p0k 4 zp0_3_96) 5 zp0_4_96) 6 zp0_5_96) 7 zp0_6_96) 10 zp0_9_96) 11 zp0_10_96) 12 zp0_11_96) 13 zp0_12_96) 14 zp0_13_96) 15 zp0_14_96) 16 zp0_15_96) 17 zp0_16_96) 18 zp0_17_96) 19 zp0_18_96) p0n_96 p0w_96 p0l_96) ++ (oX1 (p1a 0) p1a p1k p1n p1w p1l) ++ (oX9 (p1a 3) p1_2a p1_2k p1_2n p1_2w))) [0, 1, 2, 3, 4, 5, 6, 7, 8, 9, 10, 11, 12, 13, 14, 15, 16, 17, 18, 19, 20, 21, 22, 23, 24, 25, 26, 27, 28, 29, 30, 31, 32, 33, 34, 35, 36, 37, 38, 39] rfl
        have hDc := hD.sub (ws' := ((oX2 (p0a 0) (st1 (st1 (st1 (st1 (st1 (st1 (st1 (st1 (st1 (st1 (st1 (st1 (st1 (st1 p0a 4 xp0_3_96) 5 xp0_4_96) 6 xp0_5_96) 7 xp0_6_96) 10 xp0_9_96) 11 xp0_10_96) 12 xp0_11_96) 13 xp0_12_96) 14 xp0_13_96) 15 xp0_14_96) 16 xp0_15_96) 17 xp0_16_96) 18 xp0_17_96) 19 xp0_18_96) (st1 (st1 (st1 (st1 (st1 (st1 (st1 (st1 (st1 (st1 (st1 (st1 (st1 (st1 p0k 4 zp0_3_96) 5 zp0_4_96) 6 zp0_5_96) 7 zp0_6_96) 10 zp0_9_96) 11 zp0_10_96) 12 zp0_11_96) 13 zp0_12_96) 14 zp0_13_96) 15 zp0_14_96) 16 zp0_15_96) 17 zp0_16_96) 18 zp0_17_96) 19 zp0_18_96) p0n_96 p0w_96 p0l_96) ++ (oX1 (p1a 0) p1a p1k p1n p1w p1l) ++ (oX9 (p1a 3) p1_2a p1_2k p1_2n p1_2w))) [0, 1, 2, 3, 4, 5, 6, 7, 8, 9, 10, 11, 12, 13, 14, 15, 16, 17, 18, 19, 20, 21, 22, 23, 24, 25, 26, 27, 28, 29, 30, 31, 32, 33, 34, 35, 36, 37, 38, 39] (by decide) rfl
        have hKc := hK.sub (tys' := ((tX2 (st1 (st1 (st1 (st1 (st1 (st1 (st1 (st1 (st1 (st1 (st1 (st1 (st1 (st1 p0k 4 zp0_3_96) 5 zp0_4_96) 6 zp0_5_96) 7 zp0_6_96) 10 zp0_9_96) 11 zp0_10_96) 12 zp0_11_96) 13 zp0_12_96) 14 zp0_13_96) 15 zp0_14_96) 16 zp0_15_96) 17 zp0_16_96) 18 zp0_17_96) 19 zp0_18_96)) ++ (tX1 p1k) ++ (tX9 p1_2k))) [0, 1, 2, 3, 4, 5, 6, 7, 8, 9, 10, 11, 12, 13, 14, 15, 16, 17, 18, 19, 20, 21, 22, 23, 24, 25, 26, 27, 28, 29, 30, 31, 32, 33, 34, 35, 36] rfl
        have hFc := va_free (wc := ((oX2 (p0a 0) (st1 (st1 (st1 (st1 (st1 (st1 (st1 (st1 (st1 (st1 (st1 (st1 (st1 (st1 p0a 4 xp0_3_96) 5 xp0_4_96) 6 xp0_5_96) 7 xp0_6_96) 10 xp0_9_96) 11 xp0_10_96) 12 xp0_11_96) 13 xp0_12_96) 14 xp0_13_96) 15 xp0_14_96) 16 xp0_15_96) 17 xp0_16_96) 18 xp0_17_96) 19 xp0_18_96) (st1 (st1 (st1 (st1 (st1 (st1 (st1 (st1 (st1 (st1 (st1 (st1 (st1 (st1 p0k 4 zp0_3_96) 5 zp0_4_96) 6 zp0_5_96) 7 zp0_6_96) 10 zp0_9_96) 11 zp0_10_96) 12 zp0_11_96) 13 zp0_12_96) 14 zp0_13_96) 15 zp0_14_96) 16 zp0_15_96) 17 zp0_16_96) 18 zp0_17_96) 19 zp0_18_96) p0n_96 p0w_96 p0l_96) ++ (oX1 (p1a 0) p1a p1k p1n p1w p1l) ++ (oX9 (p1a 3) p1_2a p1_2k p1_2n p1_2w))) hD hS hA [0, 1, 2, 3, 4, 5, 6, 7, 8, 9, 10, 11, 12, 13, 14, 15, 16, 17, 18, 19, 20, 21, 22, 23, 24, 25, 26, 27, 28, 29, 30, 31, 32, 33, 34, 35, 36, 37, 38, 39] rfl
        have hgn_p0 : glX2 (o_40.2.2) (o.2.2) := (glX2_tr (mo_fX2_reckon_G112_69 (mo_fX2_reckon_L96 n_96) hrun) hgo_p0)
        refine va_callv (va_runV (As := [.ref (p1a 0), .int v4_96]) (rest := []) ⟨hx, hb, hml, hown, hts⟩ (kX2_meetInBlock l dC dI (p0a := (st0 (p0a 0) (st1 (st1 (st1 (st1 (st1 (st1 (st1 (st1 (st1 (st1 (st1 (st1 (st1 (st1 p0a 4 xp0_3_96) 5 xp0_4_96) 6 xp0_5_96) 7 xp0_6_96) 10 xp0_9_96) 11 xp0_10_96) 12 xp0_11_96) 13 xp0_12_96) 14 xp0_13_96) 15 xp0_14_96) 16 xp0_15_96) 17 xp0_16_96) 18 xp0_17_96) 19 xp0_18_96))) (p0k := (st1 (st1 (st1 (st1 (st1 (st1 (st1 (st1 (st1 (st1 (st1 (st1 (st1 (st1 p0k 4 zp0_3_96) 5 zp0_4_96) 6 zp0_5_96) 7 zp0_6_96) 10 zp0_9_96) 11 zp0_10_96) 12 zp0_11_96) 13 zp0_12_96) 14 zp0_13_96) 15 zp0_14_96) 16 zp0_15_96) 17 zp0_16_96) 18 zp0_17_96) 19 zp0_18_96)) (p0n := p0n_96) (p0w := p0w_96) (p0l := p0l_96) (p1a := (st0 (p1a 0) p1a)) (p1k := p1k) (p1n := p1n) (p1w := p1w) (p1l := p1l) (p2 := v4_96) (p1_2a := p1_2a) (p1_2k := p1_2k) (p1_2n := p1_2n) (p1_2w := p1_2w) (sz := _) (o := o_40) (hrun := hc_40)) (cwV 2 hts (gi_V qw763 qw764 qw765 qw692 (gi_z qw762)) rfl rfl rfl (by decide +kernel) ⟨Nat.le_of_ble_eq_true rfl, Nat.le_of_ble_eq_true rfl⟩) ⟨PRE.blind, va_recv hKc hPc (ci := 9) (q0 := 0) rfl rfl, PRE.of hE hS hFc hPc hKc hDc⟩ rfl rfl hl.1 rfl (lv_room (Nat.le_of_ble_eq_true rfl)) dX2_reckon_109 ⟨(show (gcX2 p0n p0n_96) + (gcX2 p0n_96 (o_40.2.2)) ≤ (gcX2 p0n (o.2.2)) from by have q0 := gsX2 hg_p0 (mo_fX2_meetInBlock hc_40) hgn_p0; omega), (show (3 * (gcX2 p0n p0n_96)) + (3 * ((gcX2 p0n_96 (o_40.2.2)))) ≤ (3 * (gcX2 p0n (o.2.2))) from by have q0 := gsX2 hg_p0 (mo_fX2_meetInBlock hc_40) hgn_p0; omega)⟩) hS (fun q _ h => hFc q h) hFc (fun u t H locs ht hvm hw hB hz1 hk1 hS => ?_)
        obtain ⟨x41, z42, x43, z44, x45, z46, x47, z48, x49, z50, x51, z52, x53, z54, x55, z56, x57, z58, x59, z60, x61, z62, x63, z64, x65, z66, x67, z68, hB⟩ := hB
        obtain ⟨hP, hD, hK⟩ := JOIN (wr := ([] : va_W)) hP hD hK [0, 1, 2, 3, 4, 5, 6, 7, 8, 9, 10, 11, 12, 13, 14, 15, 16, 17, 18, 19, 20, 21, 22, 23, 24, 25, 26, 27, 28, 29, 30, 31, 32, 33, 34, 35, 36, 37, 38, 39] [] [] rfl rfl (by decide) (by decide) rfl hk1 hFc ht hvm hB
        have hP : va_P (dC, dI) cls ((oX2 (p0a 0) (st1 (st1 (st1 (st1 (st1 (st1 (st1 (st1 (st1 (st1 (st1 (st1 (st1 (st1 p0a 4 x41) 5 x43) 6 x45) 7 x47) 10 x49) 11 x51) 12 x53) 13 x55) 14 x57) 15 x59) 16 x61) 17 x63) 18 x65) 19 x67) (st1 (st1 (st1 (st1 (st1 (st1 (st1 (st1 (st1 (st1 (st1 (st1 (st1 (st1 p0k 4 z42) 5 z44) 6 z46) 7 z48) 10 z50) 11 z52) 12 z54) 13 z56) 14 z58) 15 z60) 16 z62) 17 z64) 18 z66) 19 z68) (o_40.2.2) (o_40.1) (o_40.2.1)) ++ (oX1 (p1a 0) p1a p1k p1n p1w p1l) ++ (oX9 (p1a 3) p1_2a p1_2k p1_2n p1_2w)) H := hP.sub [0, 1, 2, 3, 4, 5, 6, 7, 8, 9, 10, 11, 12, 13, 14, 15, 16, 17, 18, 19, 20, 21, 22, 23, 24, 25, 26, 27, 28, 29, 30, 31, 32, 33, 34, 35, 36, 37, 38, 39] rfl
        have hD : va_D A ((oX2 (p0a 0) (st1 (st1 (st1 (st1 (st1 (st1 (st1 (st1 (st1 (st1 (st1 (st1 (st1 (st1 p0a 4 x41) 5 x43) 6 x45) 7 x47) 10 x49) 11 x51) 12 x53) 13 x55) 14 x57) 15 x59) 16 x61) 17 x63) 18 x65) 19 x67) (st1 (st1 (st1 (st1 (st1 (st1 (st1 (st1 (st1 (st1 (st1 (st1 (st1 (st1 p0k 4 z42) 5 z44) 6 z46) 7 z48) 10 z50) 11 z52) 12 z54) 13 z56) 14 z58) 15 z60) 16 z62) 17 z64) 18 z66) 19 z68) (o_40.2.2) (o_40.1) (o_40.2.1)) ++ (oX1 (p1a 0) p1a p1k p1n p1w p1l) ++ (oX9 (p1a 3) p1_2a p1_2k p1_2n p1_2w)) := hD.sub [0, 1, 2, 3, 4, 5, 6, 7, 8, 9, 10, 11, 12, 13, 14, 15, 16, 17, 18, 19, 20, 21, 22, 23, 24, 25, 26, 27, 28, 29, 30, 31, 32, 33, 34, 35, 36, 37, 38, 39] (by decide) rfl
        have hK : va_K (dC, dI) cls ((tX2 (st1 (st1 (st1 (st1 (st1 (st1 (st1 (st1 (st1 (st1 (st1 (st1 (st1 (st1 p0k 4 z42) 5 z44) 6 z46) 7 z48) 10 z50) 11 z52) 12 z54) 13 z56) 14 z58) 15 z60) 16 z62) 17 z64) 18 z66) 19 z68)) ++ (tX1 p1k) ++ (tX9 p1_2k)) s := hK.sub [0, 1, 2, 3, 4, 5, 6, 7, 8, 9, 10, 11, 12, 13, 14, 15, 16, 17, 18, 19, 20, 21, 22, 23, 24, 25, 26, 27, 28, 29, 30, 31, 32, 33, 34, 35, 36] rfl
        refine W.widen (k := (gcX2 p0n (o_40.2.2))) (n := (3 * (gcX2 p0n (o_40.2.2)))) (by have a0 := gcX2_add hg_p0 (mo_fX2_meetInBlock hc_40); omega) (by have a0 := gcX2_add hg_p0 (mo_fX2_meetInBlock hc_40); omega) ?_
        have hg_p0 : glX2 p0n (o_40.2.2) := glX2_tr hg_p0 (mo_fX2_meetInBlock hc_40)
        unfold fX2_reckon_G112_69 at hrun
        refine lv_iinc (v := (v4_96 + 1)) (lv' := [(4, .int (v4_96 + 1)), (0, .ref (p0a 0)), (1, .ref (p1a 0))]) hx hb dX2_reckon_112 hl (k := 2) rfl rfl (by decide) rfl (fun ls hl => ?_)
        refine lv_goto (tgt := 96) hx hb dX2_reckon_115 (by decide) ?_
        exact IH96 (v4_96 + 1) (o_40.1) (o_40.2.1) (o_40.2.2) x41 z42 x43 z44 x45 z46 x47 z48 x49 z50 x51 z52 x53 z54 x55 z56 x57 z58 x59 z60 x61 z62 x63 z64 x65 z66 x67 z68 o96 _ _ _ hrun hP hD hK hS (lv_sub hl [1, 2, 0] rfl) hg_p0 hgo_p0 hk96
  refine L96 NF 0 (srw (o_4.1) 12 o_38) (srl o_36 11 o_37) (o_4.2.2) x5 z6 x7 z8 x9 z10 x11 z12 x13 z14 x15 z16 x17 z18 x19 z20 x21 z22 x23 z24 x25 z26 x27 z28 x29 z30 x31 z32 o96 _ _ _ hc96 hP hD hK hS (lv_sub hl [1, 2, 0] rfl) hg_p0 hgn_p0 ?_
  intro xp0_3_96x zp0_3_96x xp0_4_96x zp0_4_96x xp0_5_96x zp0_5_96x xp0_6_96x zp0_6_96x xp0_9_96x zp0_9_96x xp0_10_96x zp0_10_96x xp0_11_96x zp0_11_96x xp0_12_96x zp0_12_96x xp0_13_96x zp0_13_96x xp0_14_96x zp0_14_96x xp0_15_96x zp0_15_96x xp0_16_96x zp0_16_96x xp0_17_96x zp0_17_96x xp0_18_96x zp0_18_96x H locs ls hP hD hK hS hl hg_p0
  have hl := hl
  unfold fX2_reckon_G118_70 at hrun
  refine lv_aload_n hx hb dX2_reckon_118 rfl (lv_at hl 0 rfl) ?_
  obtain ⟨o_71, hc_71, hrun⟩ := bnd9 hrun
  have hPc := hP.sub (ws' := (oX2 (p0a 0) (st1 (st1 (st1 (st1 (st1 (st1 (st1 (st1 (st1 (st1 (st1 (st1 (st1 (st1 p0a 4 xp0_3_96x) 5 xp0_4_96x) 6 xp0_5_96x) 7 xp0_6_96x) 10 xp0_9_96x) 11 xp0_10_96x) 12 xp0_11_96x) 13 xp0_12_96x) 14 xp0_13_96x) 15 xp0_14_96x) 16 xp0_15_96x) 17 xp0_16_96x) 18 xp0_17_96x) 19 xp0_18_96x) (st1 (st1 (st1 (st1 (st1 (st1 (st1 (st1 (st1 (st1 (st1 (st1 (st1 (st1 p0k 4 zp0_3_96x) 5 zp0_4_96x) 6 zp0_5_96x) 7 zp0_6_96x) 10 zp0_9_96x) 11 zp0_10_96x) 12 zp0_11_96x) 13 zp0_12_96x) 14 zp0_13_96x) 15 zp0_14_96x) 16 zp0_15_96x) 17 zp0_16_96x) 18 zp0_17_96x) 19 zp0_18_96x) (o96.2.2) (o96.1) (o96.2.1))) [0, 1, 2, 3, 4, 5, 6, 7, 8, 9, 10, 11, 12, 13, 14, 15] rfl
  have hDc := hD.sub (ws' := (oX2 (p0a 0) (st1 (st1 (st1 (st1 (st1 (st1 (st1 (st1 (st1 (st1 (st1 (st1 (st1 (st1 p0a 4 xp0_3_96x) 5 xp0_4_96x) 6 xp0_5_96x) 7 xp0_6_96x) 10 xp0_9_96x) 11 xp0_10_96x) 12 xp0_11_96x) 13 xp0_12_96x) 14 xp0_13_96x) 15 xp0_14_96x) 16 xp0_15_96x) 17 xp0_16_96x) 18 xp0_17_96x) 19 xp0_18_96x) (st1 (st1 (st1 (st1 (st1 (st1 (st1 (st1 (st1 (st1 (st1 (st1 (st1 (st1 p0k 4 zp0_3_96x) 5 zp0_4_96x) 6 zp0_5_96x) 7 zp0_6_96x) 10 zp0_9_96x) 11 zp0_10_96x) 12 zp0_11_96x) 13 zp0_12_96x) 14 zp0_13_96x) 15 zp0_14_96x) 16 zp0_15_96x) 17 zp0_16_96x) 18 zp0_17_96x) 19 zp0_18_96x) (o96.2.2) (o96.1) (o96.2.1))) [0, 1, 2, 3, 4, 5, 6, 7, 8, 9, 10, 11, 12, 13, 14, 15] (by decide) rfl
  have hKc := hK.sub (tys' := (tX2 (st1 (st1 (st1 (st1 (st1 (st1 (st1 (st1 (st1 (st1 (st1 (st1 (st1 (st1 p0k 4 zp0_3_96x) 5 zp0_4_96x) 6 zp0_5_96x) 7 zp0_6_96x) 10 zp0_9_96x) 11 zp0_10_96x) 12 zp0_11_96x) 13 zp0_12_96x) 14 zp0_13_96x) 15 zp0_14_96x) 16 zp0_15_96x) 17 zp0_16_96x) 18 zp0_17_96x) 19 zp0_18_96x))) [0, 1, 2, 3, 4, 5, 6, 7, 8, 9, 10, 11, 12, 13, 14] rfl
  have hFc := va_free (wc := (oX2 (p0a 0) (st1 (st1 (st1 (st1 (st1 (st1 (st1 (st1 (st1 (st1 (st1 (st1 (st1 (st1 p0a 4 xp0_3_96x) 5 xp0_4_96x) 6 xp0_5_96x) 7 xp0_6_96x) 10 xp0_9_96x) 11 xp0_10_96x) 12 xp0_11_96x) 13 xp0_12_96x) 14 xp0_13_96x) 15 xp0_14_96x) 16 xp0_15_96x) 17 xp0_16_96x) 18 xp0_17_96x) 19 xp0_18_96x) (st1 (st1 (st1 (st1 (st1 (st1 (st1 (st1 (st1 (st1 (st1 (st1 (st1 (st1 p0k 4 zp0_3_96x) 5 zp0_4_96x) 6 zp0_5_96x) 7 zp0_6_96x) 10 zp0_9_96x) 11 zp0_10_96x) 12 zp0_11_96x) 13 zp0_12_96x) 14 zp0_13_96x) 15 zp0_14_96x) 16 zp0_15_96x) 17 zp0_16_96x) 18 zp0_17_96x) 19 zp0_18_96x) (o96.2.2) (o96.1) (o96.2.1))) hD hS hA [0, 1, 2, 3, 4, 5, 6, 7, 8, 9, 10, 11, 12, 13, 14, 15] rfl
  refine va_callv (va_runV (As := []) (rest := []) ⟨hx, hb, hml, hown, hts⟩ (kX2_mirror l dC dI (p0a := (st0 (p0a 0) (st1 (st1 (st1 (st1 (st1 (st1 (st1 (st1 (st1 (st1 (st1 (st1 (st1 (st1 p0a 4 xp0_3_96x) 5 xp0_4_96x) 6 xp0_5_96x) 7 xp0_6_96x) 10 xp0_9_96x) 11 xp0_10_96x) 12 xp0_11_96x) 13 xp0_12_96x) 14 xp0_13_96x) 15 xp0_14_96x) 16 xp0_15_96x) 17 xp0_16_96x) 18 xp0_17_96x) 19 xp0_18_96x))) (p0k := (st1 (st1 (st1 (st1 (st1 (st1 (st1 (st1 (st1 (st1 (st1 (st1 (st1 (st1 p0k 4 zp0_3_96x) 5 zp0_4_96x) 6 zp0_5_96x) 7 zp0_6_96x) 10 zp0_9_96x) 11 zp0_10_96x) 12 zp0_11_96x) 13 zp0_12_96x) 14 zp0_13_96x) 15 zp0_14_96x) 16 zp0_15_96x) 17 zp0_16_96x) 18 zp0_17_96x) 19 zp0_18_96x)) (p0n := (o96.2.2)) (p0w := (o96.1)) (p0l := (o96.2.1)) (sz := _) (o := o_71) (hrun := hc_71)) (cwV 0 hts (gi_V qw776 qw777 qw778 qw692 (gi_z qw775)) rfl rfl rfl (by decide +kernel) ⟨Nat.le_of_ble_eq_true rfl, Nat.le_of_ble_eq_true rfl⟩) ⟨PRE.blind, va_recv hKc hPc (ci := 9) (q0 := 0) rfl rfl, PRE.of hE hS hFc hPc hKc hDc⟩ rfl rfl hl.1 rfl (lv_room (Nat.le_of_ble_eq_true rfl)) dX2_reckon_119 ⟨(show (gcX2 p0n (o96.2.2)) + 0 ≤ (gcX2 p0n (o.2.2)) from by have q0 := gmX2 hg_p0 hgn_p0; omega), (show (3 * (gcX2 p0n (o96.2.2))) + 0 ≤ (3 * (gcX2 p0n (o.2.2))) from by have q0 := gmX2 hg_p0 hgn_p0; omega)⟩) hS (fun q _ h => hFc q h) hFc (fun u t H locs ht hvm hw hB hz1 hk1 hS => ?_)
  obtain ⟨hP, hD, hK⟩ := JOIN (wr := ((oX1 (p1a 0) p1a p1k p1n p1w p1l) ++ (oX9 (p1a 3) p1_2a p1_2k p1_2n p1_2w))) hP hD hK [0, 1, 2, 3, 4, 5, 6, 7, 8, 9, 10, 11, 12, 13, 14, 15] [16, 17, 18, 19, 20, 21, 22, 23, 24, 25, 26, 27, 28, 29, 30, 31, 32, 33, 34, 35, 36, 37, 38, 39] [15, 16, 17, 18, 19, 20, 21, 22, 23, 24, 25, 26, 27, 28, 29, 30, 31, 32, 33, 34, 35, 36] rfl rfl (by decide) (by decide) rfl hk1 hFc ht hvm hB
  have hP : va_P (dC, dI) cls ((oX2 (p0a 0) (st1 (st1 (st1 (st1 (st1 (st1 (st1 (st1 (st1 (st1 (st1 (st1 (st1 (st1 p0a 4 xp0_3_96x) 5 xp0_4_96x) 6 xp0_5_96x) 7 xp0_6_96x) 10 xp0_9_96x) 11 xp0_10_96x) 12 xp0_11_96x) 13 xp0_12_96x) 14 xp0_13_96x) 15 xp0_14_96x) 16 xp0_15_96x) 17 xp0_16_96x) 18 xp0_17_96x) 19 xp0_18_96x) (st1 (st1 (st1 (st1 (st1 (st1 (st1 (st1 (st1 (st1 (st1 (st1 (st1 (st1 p0k 4 zp0_3_96x) 5 zp0_4_96x) 6 zp0_5_96x) 7 zp0_6_96x) 10 zp0_9_96x) 11 zp0_10_96x) 12 zp0_11_96x) 13 zp0_12_96x) 14 zp0_13_96x) 15 zp0_14_96x) 16 zp0_15_96x) 17 zp0_16_96x) 18 zp0_17_96x) 19 zp0_18_96x) (o96.2.2) (o96.1) o_71) ++ (oX1 (p1a 0) p1a p1k p1n p1w p1l) ++ (oX9 (p1a 3) p1_2a p1_2k p1_2n p1_2w)) H := hP.sub [24, 25, 26, 27, 28, 29, 30, 31, 32, 33, 34, 35, 36, 37, 38, 39, 0, 1, 2, 3, 4, 5, 6, 7, 8, 9, 10, 11, 12, 13, 14, 15, 16, 17, 18, 19, 20, 21, 22, 23] rfl
  have hD : va_D A ((oX2 (p0a 0) (st1 (st1 (st1 (st1 (st1 (st1 (st1 (st1 (st1 (st1 (st1 (st1 (st1 (st1 p0a 4 xp0_3_96x) 5 xp0_4_96x) 6 xp0_5_96x) 7 xp0_6_96x) 10 xp0_9_96x) 11 xp0_10_96x) 12 xp0_11_96x) 13 xp0_12_96x) 14 xp0_13_96x) 15 xp0_14_96x) 16 xp0_15_96x) 17 xp0_16_96x) 18 xp0_17_96x) 19 xp0_18_96x) (st1 (st1 (st1 (st1 (st1 (st1 (st1 (st1 (st1 (st1 (st1 (st1 (st1 (st1 p0k 4 zp0_3_96x) 5 zp0_4_96x) 6 zp0_5_96x) 7 zp0_6_96x) 10 zp0_9_96x) 11 zp0_10_96x) 12 zp0_11_96x) 13 zp0_12_96x) 14 zp0_13_96x) 15 zp0_14_96x) 16 zp0_15_96x) 17 zp0_16_96x) 18 zp0_17_96x) 19 zp0_18_96x) (o96.2.2) (o96.1) o_71) ++ (oX1 (p1a 0) p1a p1k p1n p1w p1l) ++ (oX9 (p1a 3) p1_2a p1_2k p1_2n p1_2w)) := hD.sub [24, 25, 26, 27, 28, 29, 30, 31, 32, 33, 34, 35, 36, 37, 38, 39, 0, 1, 2, 3, 4, 5, 6, 7, 8, 9, 10, 11, 12, 13, 14, 15, 16, 17, 18, 19, 20, 21, 22, 23] (by decide) rfl
  have hK : va_K (dC, dI) cls ((tX2 (st1 (st1 (st1 (st1 (st1 (st1 (st1 (st1 (st1 (st1 (st1 (st1 (st1 (st1 p0k 4 zp0_3_96x) 5 zp0_4_96x) 6 zp0_5_96x) 7 zp0_6_96x) 10 zp0_9_96x) 11 zp0_10_96x) 12 zp0_11_96x) 13 zp0_12_96x) 14 zp0_13_96x) 15 zp0_14_96x) 16 zp0_15_96x) 17 zp0_16_96x) 18 zp0_17_96x) 19 zp0_18_96x)) ++ (tX1 p1k) ++ (tX9 p1_2k)) s := hK.sub [22, 23, 24, 25, 26, 27, 28, 29, 30, 31, 32, 33, 34, 35, 36, 0, 1, 2, 3, 4, 5, 6, 7, 8, 9, 10, 11, 12, 13, 14, 15, 16, 17, 18, 19, 20, 21] rfl
  refine lv_aload_n hx hb dX2_reckon_122 rfl (lv_at hl 0 rfl) ?_
  obtain ⟨o_72, hc_72, hrun⟩ := bnd9 hrun
  have hPc := hP.sub (ws' := (oX2 (p0a 0) (st1 (st1 (st1 (st1 (st1 (st1 (st1 (st1 (st1 (st1 (st1 (st1 (st1 (st1 p0a 4 xp0_3_96x) 5 xp0_4_96x) 6 xp0_5_96x) 7 xp0_6_96x) 10 xp0_9_96x) 11 xp0_10_96x) 12 xp0_11_96x) 13 xp0_12_96x) 14 xp0_13_96x) 15 xp0_14_96x) 16 xp0_15_96x) 17 xp0_16_96x) 18 xp0_17_96x) 19 xp0_18_96x) (st1 (st1 (st1 (st1 (st1 (st1 (st1 (st1 (st1 (st1 (st1 (st1 (st1 (st1 p0k 4 zp0_3_96x) 5 zp0_4_96x) 6 zp0_5_96x) 7 zp0_6_96x) 10 zp0_9_96x) 11 zp0_10_96x) 12 zp0_11_96x) 13 zp0_12_96x) 14 zp0_13_96x) 15 zp0_14_96x) 16 zp0_15_96x) 17 zp0_16_96x) 18 zp0_17_96x) 19 zp0_18_96x) (o96.2.2) (o96.1) o_71)) [0, 1, 2, 3, 4, 5, 6, 7, 8, 9, 10, 11, 12, 13, 14, 15] rfl
  have hDc := hD.sub (ws' := (oX2 (p0a 0) (st1 (st1 (st1 (st1 (st1 (st1 (st1 (st1 (st1 (st1 (st1 (st1 (st1 (st1 p0a 4 xp0_3_96x) 5 xp0_4_96x) 6 xp0_5_96x) 7 xp0_6_96x) 10 xp0_9_96x) 11 xp0_10_96x) 12 xp0_11_96x) 13 xp0_12_96x) 14 xp0_13_96x) 15 xp0_14_96x) 16 xp0_15_96x) 17 xp0_16_96x) 18 xp0_17_96x) 19 xp0_18_96x) (st1 (st1 (st1 (st1 (st1 (st1 (st1 (st1 (st1 (st1 (st1 (st1 (st1 (st1 p0k 4 zp0_3_96x) 5 zp0_4_96x) 6 zp0_5_96x) 7 zp0_6_96x) 10 zp0_9_96x) 11 zp0_10_96x) 12 zp0_11_96x) 13 zp0_12_96x) 14 zp0_13_96x) 15 zp0_14_96x) 16 zp0_15_96x) 17 zp0_16_96x) 18 zp0_17_96x) 19 zp0_18_96x) (o96.2.2) (o96.1) o_71)) [0, 1, 2, 3, 4, 5, 6, 7, 8, 9, 10, 11, 12, 13, 14, 15] (by decide) rfl
  have hKc := hK.sub (tys' := (tX2 (st1 (st1 (st1 (st1 (st1 (st1 (st1 (st1 (st1 (st1 (st1 (st1 (st1 (st1 p0k 4 zp0_3_96x) 5 zp0_4_96x) 6 zp0_5_96x) 7 zp0_6_96x) 10 zp0_9_96x) 11 zp0_10_96x) 12 zp0_11_96x) 13 zp0_12_96x) 14 zp0_13_96x) 15 zp0_14_96x) 16 zp0_15_96x) 17 zp0_16_96x) 18 zp0_17_96x) 19 zp0_18_96x))) [0, 1, 2, 3, 4, 5, 6, 7, 8, 9, 10, 11, 12, 13, 14] rfl
  have hFc := va_free (wc := (oX2 (p0a 0) (st1 (st1 (st1 (st1 (st1 (st1 (st1 (st1 (st1 (st1 (st1 (st1 (st1 (st1 p0a 4 xp0_3_96x) 5 xp0_4_96x) 6 xp0_5_96x) 7 xp0_6_96x) 10 xp0_9_96x) 11 xp0_10_96x) 12 xp0_11_96x) 13 xp0_12_96x) 14 xp0_13_96x) 15 xp0_14_96x) 16 xp0_15_96x) 17 xp0_16_96x) 18 xp0_17_96x) 19 xp0_18_96x) (st1 (st1 (st1 (st1 (st1 (st1 (st1 (st1 (st1 (st1 (st1 (st1 (st1 (st1 p0k 4 zp0_3_96x) 5 zp0_4_96x) 6 zp0_5_96x) 7 zp0_6_96x) 10 zp0_9_96x) 11 zp0_10_96x) 12 zp0_11_96x) 13 zp0_12_96x) 14 zp0_13_96x) 15 zp0_14_96x) 16 zp0_15_96x) 17 zp0_16_96x) 18 zp0_17_96x) 19 zp0_18_96x) (o96.2.2) (o96.1) o_71)) hD hS hA [0, 1, 2, 3, 4, 5, 6, 7, 8, 9, 10, 11, 12, 13, 14, 15] rfl
  refine va_callv (va_runV (As := []) (rest := []) ⟨hx, hb, hml, hown, hts⟩ (kX2_countDegrees l dC dI (p0a := (st0 (p0a 0) (st1 (st1 (st1 (st1 (st1 (st1 (st1 (st1 (st1 (st1 (st1 (st1 (st1 (st1 p0a 4 xp0_3_96x) 5 xp0_4_96x) 6 xp0_5_96x) 7 xp0_6_96x) 10 xp0_9_96x) 11 xp0_10_96x) 12 xp0_11_96x) 13 xp0_12_96x) 14 xp0_13_96x) 15 xp0_14_96x) 16 xp0_15_96x) 17 xp0_16_96x) 18 xp0_17_96x) 19 xp0_18_96x))) (p0k := (st1 (st1 (st1 (st1 (st1 (st1 (st1 (st1 (st1 (st1 (st1 (st1 (st1 (st1 p0k 4 zp0_3_96x) 5 zp0_4_96x) 6 zp0_5_96x) 7 zp0_6_96x) 10 zp0_9_96x) 11 zp0_10_96x) 12 zp0_11_96x) 13 zp0_12_96x) 14 zp0_13_96x) 15 zp0_14_96x) 16 zp0_15_96x) 17 zp0_16_96x) 18 zp0_17_96x) 19 zp0_18_96x)) (p0n := (o96.2.2)) (p0w := (o96.1)) (p0l := o_71) (sz := _) (o := o_72) (hrun := hc_72)) (cwV 0 hts (gi_V qw781 qw782 qw783 qw692 (gi_z qw780)) rfl rfl rfl (by decide +kernel) ⟨Nat.le_of_ble_eq_true rfl, Nat.le_of_ble_eq_true rfl⟩) ⟨PRE.blind, va_recv hKc hPc (ci := 9) (q0 := 0) rfl rfl, PRE.of hE hS hFc hPc hKc hDc⟩ rfl rfl hl.1 rfl (lv_room (Nat.le_of_ble_eq_true rfl)) dX2_reckon_123 ⟨(show (gcX2 p0n (o96.2.2)) + 0 ≤ (gcX2 p0n (o.2.2)) from by have q0 := gmX2 hg_p0 hgn_p0; omega), (show (3 * (gcX2 p0n (o96.2.2))) + 0 ≤ (3 * (gcX2 p0n (o.2.2))) from by have q0 := gmX2 hg_p0 hgn_p0; omega)⟩) hS (fun q _ h => hFc q h) hFc (fun u t H locs ht hvm hw hB hz1 hk1 hS => ?_)
  obtain ⟨hP, hD, hK⟩ := JOIN (wr := ((oX1 (p1a 0) p1a p1k p1n p1w p1l) ++ (oX9 (p1a 3) p1_2a p1_2k p1_2n p1_2w))) hP hD hK [0, 1, 2, 3, 4, 5, 6, 7, 8, 9, 10, 11, 12, 13, 14, 15] [16, 17, 18, 19, 20, 21, 22, 23, 24, 25, 26, 27, 28, 29, 30, 31, 32, 33, 34, 35, 36, 37, 38, 39] [15, 16, 17, 18, 19, 20, 21, 22, 23, 24, 25, 26, 27, 28, 29, 30, 31, 32, 33, 34, 35, 36] rfl rfl (by decide) (by decide) rfl hk1 hFc ht hvm hB
  have hP : va_P (dC, dI) cls ((oX2 (p0a 0) (st1 (st1 (st1 (st1 (st1 (st1 (st1 (st1 (st1 (st1 (st1 (st1 (st1 (st1 p0a 4 xp0_3_96x) 5 xp0_4_96x) 6 xp0_5_96x) 7 xp0_6_96x) 10 xp0_9_96x) 11 xp0_10_96x) 12 xp0_11_96x) 13 xp0_12_96x) 14 xp0_13_96x) 15 xp0_14_96x) 16 xp0_15_96x) 17 xp0_16_96x) 18 xp0_17_96x) 19 xp0_18_96x) (st1 (st1 (st1 (st1 (st1 (st1 (st1 (st1 (st1 (st1 (st1 (st1 (st1 (st1 p0k 4 zp0_3_96x) 5 zp0_4_96x) 6 zp0_5_96x) 7 zp0_6_96x) 10 zp0_9_96x) 11 zp0_10_96x) 12 zp0_11_96x) 13 zp0_12_96x) 14 zp0_13_96x) 15 zp0_14_96x) 16 zp0_15_96x) 17 zp0_16_96x) 18 zp0_17_96x) 19 zp0_18_96x) (o96.2.2) o_72 o_71) ++ (oX1 (p1a 0) p1a p1k p1n p1w p1l) ++ (oX9 (p1a 3) p1_2a p1_2k p1_2n p1_2w)) H := hP.sub [24, 25, 26, 27, 28, 29, 30, 31, 32, 33, 34, 35, 36, 37, 38, 39, 0, 1, 2, 3, 4, 5, 6, 7, 8, 9, 10, 11, 12, 13, 14, 15, 16, 17, 18, 19, 20, 21, 22, 23] rfl
  have hD : va_D A ((oX2 (p0a 0) (st1 (st1 (st1 (st1 (st1 (st1 (st1 (st1 (st1 (st1 (st1 (st1 (st1 (st1 p0a 4 xp0_3_96x) 5 xp0_4_96x) 6 xp0_5_96x) 7 xp0_6_96x) 10 xp0_9_96x) 11 xp0_10_96x) 12 xp0_11_96x) 13 xp0_12_96x) 14 xp0_13_96x) 15 xp0_14_96x) 16 xp0_15_96x) 17 xp0_16_96x) 18 xp0_17_96x) 19 xp0_18_96x) (st1 (st1 (st1 (st1 (st1 (st1 (st1 (st1 (st1 (st1 (st1 (st1 (st1 (st1 p0k 4 zp0_3_96x) 5 zp0_4_96x) 6 zp0_5_96x) 7 zp0_6_96x) 10 zp0_9_96x) 11 zp0_10_96x) 12 zp0_11_96x) 13 zp0_12_96x) 14 zp0_13_96x) 15 zp0_14_96x) 16 zp0_15_96x) 17 zp0_16_96x) 18 zp0_17_96x) 19 zp0_18_96x) (o96.2.2) o_72 o_71) ++ (oX1 (p1a 0) p1a p1k p1n p1w p1l) ++ (oX9 (p1a 3) p1_2a p1_2k p1_2n p1_2w)) := hD.sub [24, 25, 26, 27, 28, 29, 30, 31, 32, 33, 34, 35, 36, 37, 38, 39, 0, 1, 2, 3, 4, 5, 6, 7, 8, 9, 10, 11, 12, 13, 14, 15, 16, 17, 18, 19, 20, 21, 22, 23] (by decide) rfl
  have hK : va_K (dC, dI) cls ((tX2 (st1 (st1 (st1 (st1 (st1 (st1 (st1 (st1 (st1 (st1 (st1 (st1 (st1 (st1 p0k 4 zp0_3_96x) 5 zp0_4_96x) 6 zp0_5_96x) 7 zp0_6_96x) 10 zp0_9_96x) 11 zp0_10_96x) 12 zp0_11_96x) 13 zp0_12_96x) 14 zp0_13_96x) 15 zp0_14_96x) 16 zp0_15_96x) 17 zp0_16_96x) 18 zp0_17_96x) 19 zp0_18_96x)) ++ (tX1 p1k) ++ (tX9 p1_2k)) s := hK.sub [22, 23, 24, 25, 26, 27, 28, 29, 30, 31, 32, 33, 34, 35, 36, 0, 1, 2, 3, 4, 5, 6, 7, 8, 9, 10, 11, 12, 13, 14, 15, 16, 17, 18, 19, 20, 21] rfl
  have ho9 : (o_72, o_71, (o96.2.2)) = o := Option.some.inj hrun
  subst ho9
  subst hQ
  exact W.vret hx hb hr (fun t ht hW => ⟨⟨(), rfl, trivial, ⟨xp0_3_96x, zp0_3_96x, xp0_4_96x, zp0_4_96x, xp0_5_96x, zp0_5_96x, xp0_6_96x, zp0_6_96x, xp0_9_96x, zp0_9_96x, xp0_10_96x, zp0_10_96x, xp0_11_96x, zp0_11_96x, xp0_12_96x, zp0_12_96x, xp0_13_96x, zp0_13_96x, xp0_14_96x, zp0_14_96x, xp0_15_96x, zp0_15_96x, xp0_16_96x, zp0_16_96x, xp0_17_96x, zp0_17_96x, xp0_18_96x, zp0_18_96x, by rw [ht]; exact hP, va_K.moved hW.alike hK, hD⟩⟩, hS.F ht⟩) hS.2.2 dX2_reckon_126
def fX2_isIn_a1_p0_10 (p0n : Nat → Nat) (p0w : ST) (p0l : SL) (p2 : Int32) (p3 : Int32) : Option Int32 := (if ixb ((p2 * (p0w 0 2)) + (p3 >>> (6 &&& 31))) (p0n 11) = true then ((fX11_holds (p0l 11 (nn ((p2 * (p0w 0 2)) + (p3 >>> (6 &&& 31))))) (p3 &&& 63)).bind fun (o_2 : Int32) => (if o_2 = 0 ∨ o_2 = 1 then some o_2 else none)) else none)
set_option maxHeartbeats 16000000 in
set_option maxRecDepth 100000 in
theorem kX2_isIn_a1_p0_10 {zs : Nat × Nat} (l : Launch) (dC : Nat → ClassId) (dI : Nat → Nat → Nat) (p0a : Nat → Nat) (p0k : Nat → ClassId) (p0n : Nat → Nat) (p0w : ST) (p0l : SL) (p2 : Int32) (p3 : Int32) (sz : Nat) (o : Int32) (hrun : fX2_isIn_a1_p0_10 p0n p0w p0l p2 p3 = some o) : Met l yX2_isIn (wz yX2_isIn cX2_isIn 4 (Option.some Jvm.ClassFile.FieldType.boolean)) ({ frames := 1, cells := 0, slots := 0, locals := 22 } : Room) (va_Pc [.ref (p0a 0), .ref (p0a 11), .int p2, .int p3] (PRE zs dC dI (oX2 (p0a 0) p0a p0k p0n p0w p0l) (tX2 p0k) sz)) (va_Qi (fun (r : Int32) (_ : Unit) => r = o) (fun _ t => POST dC dI (oX2 (p0a 0) p0a p0k p0n p0w p0l) (tX2 p0k) (va_A (oX2 (p0a 0) p0a p0k p0n p0w p0l) sz) t) (va_A (oX2 (p0a 0) p0a p0k p0n p0w p0l) sz)) 0 0 (va_A (oX2 (p0a 0) p0a p0k p0n p0w p0l) sz) := by
  refine Met.ofW (cc := cX2_isIn) (maxL := 4) (ret := (Option.some Jvm.ClassFile.FieldType.boolean)) (by decide) rfl ?_
  intro p e s m args below meth c s₁ B hml hv
  obtain ⟨rfl, hsz, hP, hK, hD0, hE⟩ := hv
  have hx := B.exec
  have hb := B.bytes
  have hr := B.returns
  have hts0 := atoms_spec (ws := wz yX2_isIn cX2_isIn 4 (Option.some Jvm.ClassFile.FieldType.boolean)) B.pre
  have hts : ∀ w ∈ gw, w.before _ s = true := fun w h => hts0 w (List.mem_cons_of_mem _ h)
  have hown : s.vm.findClass RX2 = some m.cls := findClass_of_methodNamed B.named
  have hlocks := B.notSynchronized
  subst hsz
  have hD := hD0.self (sz := s.heap.size)
  refine gQ9 ?_
  intro Q hQ
  generalize hAe : va_A (oX2 (p0a 0) p0a p0k p0n p0w p0l) s.heap.size = A at hD hE hQ
  have hA : ∀ q : Nat, s.heap.size ≤ q → A q := fun q h => by rw [← hAe]; exact Or.inr h
  have hS : va_S A s.heap s.heap [] := va_S.rf
  have hP : va_P (dC, dI) cls (oX2 (p0a 0) p0a p0k p0n p0w p0l) s.heap := hP
  have hl := lv_entry ([.ref (p0a 0), .ref (p0a 11), .int p2, .int p3]) (n := 4) (Nat.le_of_ble_eq_true rfl)
  rw [lg_entry_eq]
  generalize (lg_sl ([.ref (p0a 0), .ref (p0a 11), .int p2, .int p3]) ++ List.replicate (4 - (lg_sl ([.ref (p0a 0), .ref (p0a 11), .int p2, .int p3])).length) Slot.unset).toArray = ls at hl ⊢
  have hl : lv_has ls 4 [(0, .ref (p0a 0)), (1, .ref (p0a 11)), (2, .int p2), (3, .int p3)] := hl
  obtain ⟨H, hHe⟩ : ∃ H, H = s.heap := ⟨_, rfl⟩
  obtain ⟨locs, hle⟩ : ∃ locs : List Loc, locs = [] := ⟨_, rfl⟩
  rw [← hHe] at hP
  have hS : va_S A s.heap H locs := by rw [hHe, hle]; exact hS
  show W p l e ({ frames := 1, cells := 0, slots := 0, locals := 22 } : Room) s m ([.ref (p0a 0), .ref (p0a 11), .int p2, .int p3] : List Value).toArray below meth c s.heap [] 0 0 Q (F0 m 0 ls [])
  rw [← hle]
  refine wH9 hHe ?_
  unfold fX2_isIn_a1_p0_10 at hrun
  refine lv_aload_n hx hb dX2_isIn_0 rfl (lv_at hl 1 rfl) ?_
  refine lv_iload_n hx hb dX2_isIn_1 rfl (lv_at hl 2 rfl) ?_
  refine lv_aload_n hx hb dX2_isIn_2 rfl (lv_at hl 0 rfl) ?_
  refine va_get (D := (dC, dI)) (ci := 9) (v := .int (p0w 0 2)) (C := RX2) (T := TX2) (N := 19) hx hb hts i_X2 hown hK hP 0 rfl rfl 2 (by decide) (hts _ qw667) (fun _ h9 => h9) rfl dX2_isIn_3 ?_
  refine lv_imul hx hb dX2_isIn_6 ?_
  refine lv_iload_n hx hb dX2_isIn_7 rfl (lv_at hl 3 rfl) ?_
  refine lv_bipush (v := 6) hx hb dX2_isIn_8 (by decide) ?_
  refine lv_ishr hx hb dX2_isIn_10 ?_
  refine lv_iadd hx hb dX2_isIn_11 ?_
  obtain ⟨hq1, hrun⟩ := chk9 hrun
  refine va_lald hx hb hK hP 7 6 rfl rfl (ixb_in hq1) dX2_isIn_12 ?_
  refine lv_iload_n hx hb dX2_isIn_13 rfl (lv_at hl 3 rfl) ?_
  refine lv_bipush (v := 63) hx hb dX2_isIn_14 (by decide) ?_
  refine lv_iand hx hb dX2_isIn_16 ?_
  obtain ⟨o_2, hc_2, hrun⟩ := bnd9 hrun
  have hPc := hP.sub (ws' := ([] : va_W)) [] rfl
  have hDc := hD.sub (ws' := ([] : va_W)) [] (by decide) rfl
  have hKc := hK.sub (tys' := ([] : List (ClassId × FieldType))) [] rfl
  have hFc := va_free (wc := ([] : va_W)) hD hS hA [] rfl
  refine va_calli (va_runSN (As := [.long (p0l 11 (nn ((p2 * (p0w 0 2)) + (p3 >>> (6 &&& 31))))), .int (p3 &&& 63)]) (rest := []) ⟨hx, hb, hml, hown, hts⟩ (kX11_holds l dC dI (p0 := (p0l 11 (nn ((p2 * (p0w 0 2)) + (p3 >>> (6 &&& 31)))))) (p1 := (p3 &&& 63)) (sz := _) (o := o_2) (hrun := hc_2)) ⟨(va_cnB 2 hts (gi_z qw192) rfl rfl rfl (hE.nw (List.mem_append_right _ (tbl_8 (i := 223) rfl)) rfl) (hts _ qw129) (by decide +kernel) ⟨Nat.le_of_ble_eq_true rfl, Nat.le_of_ble_eq_true rfl⟩), (hts _ qw193), trivial⟩ ⟨PRE.blind, PRE.of hE hS hFc hPc hKc hDc⟩ rfl rfl hl.1 rfl (lv_room (Nat.le_of_ble_eq_true rfl)) dX2_isIn_17 ⟨(Nat.le_of_ble_eq_true rfl), (Nat.le_of_ble_eq_true rfl)⟩) hS (fun q _ h => hFc q h) hFc (fun r3 u t H locs ht hvm hw hB hz1 hk1 hS => ?_)
  obtain ⟨hP, hD, hK⟩ := JOIN (wr := (oX2 (p0a 0) p0a p0k p0n p0w p0l)) hP hD hK [] [0, 1, 2, 3, 4, 5, 6, 7, 8, 9, 10, 11, 12, 13, 14, 15] [0, 1, 2, 3, 4, 5, 6, 7, 8, 9, 10, 11, 12, 13, 14] rfl rfl (by decide) (by decide) rfl hk1 hFc ht hvm hB
  have hP : va_P (dC, dI) cls (oX2 (p0a 0) p0a p0k p0n p0w p0l) H := hP.sub [0, 1, 2, 3, 4, 5, 6, 7, 8, 9, 10, 11, 12, 13, 14, 15] rfl
  have hD : va_D A (oX2 (p0a 0) p0a p0k p0n p0w p0l) := hD.sub [0, 1, 2, 3, 4, 5, 6, 7, 8, 9, 10, 11, 12, 13, 14, 15] (by decide) rfl
  have hK : va_K (dC, dI) cls (tX2 p0k) s := hK.sub [0, 1, 2, 3, 4, 5, 6, 7, 8, 9, 10, 11, 12, 13, 14] rfl
  obtain rfl : o_2 = r3 := hw.symm
  obtain ⟨hz9, hrun⟩ := chk9 hrun
  have ho9 : o_2 = o := Option.some.inj hrun
  have hP9 : va_P (dC, dI) cls (oX2 (p0a 0) p0a p0k p0n p0w p0l) H := by first | exact hP | (rw [← ho9]; exact hP)
  have hD9 : va_D A (oX2 (p0a 0) p0a p0k p0n p0w p0l) := by first | exact hD | (rw [← ho9]; exact hD)
  subst hQ
  exact W.zret (v := o_2) hx hb hr (bz9 hz9) (fun t ht hW => ⟨⟨o_2, (), rfl, (by rw [← ho9]), ⟨by rw [ht]; exact hP9, va_K.moved hW.alike hK, hD9⟩⟩, hS.F ht⟩) hS.2.2 dX2_isIn_20
def fX2_mayUnite_J29  : Option Int32 := some 0
def fX2_mayUnite_J111 (kk77 : Int32 → Int64 → Option Int32) (v6_77 : Int64) (y0_111 : Int32) (y1_111 : Int32) : Option Int32 := (kk77 (y1_111 + y0_111) (v6_77 &&& (v6_77 - (1 : Int64))))
def fX2_mayUnite_L77 (p0n : Nat → Nat) (p0w : ST) (p3 : Int32) (v5_37 : Int32) : Nat → Int32 → Int64 → Option Int32
  | 0 => fun _ _ => none
  | n_77 + 1 => fun v4_77 v6_77 => (if (lg_cmp v6_77 (0 : Int64)) = 0 then some v4_77 else ((fX11_lowest v6_77).bind fun (o_10 : Int32) => (if ixb ((v5_37 * 64) + o_10) (p0n 13) = true then (if (p0w 13 (nn ((v5_37 * 64) + o_10))) < p3 then (fX2_mayUnite_J111 (fX2_mayUnite_L77 p0n p0w p3 v5_37 n_77) v6_77 0 v4_77) else (fX2_mayUnite_J111 (fX2_mayUnite_L77 p0n p0w p3 v5_37 n_77) v6_77 1 v4_77)) else none)))
def fX2_mayUnite_L37 (p0n : Nat → Nat) (p0w : ST) (p0l : SL) (p1 : Int32) (p2 : Int32) (p3 : Int32) : Nat → Int32 → Int32 → Option Int32
  | 0 => fun _ _ => none
  | n_37 + 1 => fun v4_37 v5_37 => (if (p0w 0 2) ≤ v5_37 then some v4_37 else (if ixb ((p1 * (p0w 0 2)) + v5_37) (p0n 11) = true then (if ixb ((p2 * (p0w 0 2)) + v5_37) (p0n 11) = true then ((fX2_mayUnite_L77 p0n p0w p3 v5_37 NF v4_37 ((p0l 11 (nn ((p1 * (p0w 0 2)) + v5_37))) ||| (p0l 11 (nn ((p2 * (p0w 0 2)) + v5_37))))).bind fun (o77 : Int32) => ((fX2_mayUnite_L37 p0n p0w p0l p1 p2 p3 n_37) o77 (v5_37 + 1))) else none) else none))
def fX2_mayUnite_J189 (kk138 : Int32 → Int32 → Option Int32) (v5_138 : Int32) (v4_189 : Int32) : Option Int32 := (kk138 v4_189 (v5_138 + 1))
def fX2_mayUnite_J186 (kk138 : Int32 → Int32 → Option Int32) (v4_138 : Int32) (v5_138 : Int32) : Option Int32 := (fX2_mayUnite_J189 kk138 v5_138 (v4_138 + 1))
def fX2_mayUnite_L138 (p0n : Nat → Nat) (p0w : ST) (p0l : SL) (p1 : Int32) (p2 : Int32) (p3 : Int32) : Nat → Int32 → Int32 → Option Int32
  | 0 => fun _ _ => none
  | n_138 + 1 => fun v4_138 v5_138 => (if (p0w 0 1) ≤ v5_138 then some v4_138 else (if ixb v5_138 (p0n 13) = true then (if (p0w 13 (nn v5_138)) < p3 then (fX2_mayUnite_J189 (fX2_mayUnite_L138 p0n p0w p0l p1 p2 p3 n_138) v5_138 v4_138) else ((fX2_isIn_a1_p0_10 p0n p0w p0l v5_138 p1).bind fun (o_17 : Int32) => (if o_17 = 0 then ((fX2_isIn_a1_p0_10 p0n p0w p0l v5_138 p2).bind fun (o_20 : Int32) => (if o_20 = 0 then (fX2_mayUnite_J189 (fX2_mayUnite_L138 p0n p0w p0l p1 p2 p3 n_138) v5_138 v4_138) else (fX2_mayUnite_J186 (fX2_mayUnite_L138 p0n p0w p0l p1 p2 p3 n_138) v4_138 v5_138))) else (fX2_mayUnite_J186 (fX2_mayUnite_L138 p0n p0w p0l p1 p2 p3 n_138) v4_138 v5_138)))) else none))
def fX2_mayUnite_J206 (y0_206 : Int32) : Option Int32 := (if y0_206 = 0 ∨ y0_206 = 1 then some y0_206 else none)
def fX2_mayUnite (p0n : Nat → Nat) (p0w : ST) (p0l : SL) (p1 : Int32) (p2 : Int32) (p3 : Int32) : Option Int32 := (if (p0w 0 0) ≤ p1 then (fX2_mayUnite_J29) else (if (p0w 0 0) ≤ p2 then (fX2_mayUnite_J29) else ((fX2_isIn_a1_p0_10 p0n p0w p0l p1 p2).bind fun (o_3 : Int32) => (if o_3 = 0 then ((fX2_mayUnite_L37 p0n p0w p0l p1 p2 p3 NF 0 0).bind fun (o37 : Int32) => ((fX2_mayUnite_L138 p0n p0w p0l p1 p2 p3 NF o37 (p0w 0 0)).bind fun (o138 : Int32) => (if p3 ≤ o138 then (fX2_mayUnite_J206 0) else (fX2_mayUnite_J206 1)))) else (fX2_mayUnite_J29)))))
set_option maxHeartbeats 16000000 in
set_option maxRecDepth 100000 in
theorem kX2_mayUnite {zs : Nat × Nat} (l : Launch) (dC : Nat → ClassId) (dI : Nat → Nat → Nat) (p0a : Nat → Nat) (p0k : Nat → ClassId) (p0n : Nat → Nat) (p0w : ST) (p0l : SL) (p1 : Int32) (p2 : Int32) (p3 : Int32) (sz : Nat) (o : Int32) (hrun : fX2_mayUnite p0n p0w p0l p1 p2 p3 = some o) : Met l yX2_mayUnite (wz yX2_mayUnite cX2_mayUnite 8 (Option.some Jvm.ClassFile.FieldType.boolean)) ({ frames := 2, cells := 0, slots := 0, locals := 45 } : Room) (va_Pc [.ref (p0a 0), .int p1, .int p2, .int p3] (PRE zs dC dI (oX2 (p0a 0) p0a p0k p0n p0w p0l) (tX2 p0k) sz)) (va_Qi (fun (r : Int32) (_ : Unit) => r = o) (fun _ t => POST dC dI (oX2 (p0a 0) p0a p0k p0n p0w p0l) (tX2 p0k) (va_A (oX2 (p0a 0) p0a p0k p0n p0w p0l) sz) t) (va_A (oX2 (p0a 0) p0a p0k p0n p0w p0l) sz)) 0 0 (va_A (oX2 (p0a 0) p0a p0k p0n p0w p0l) sz) := by
  refine Met.ofW (cc := cX2_mayUnite) (maxL := 8) (ret := (Option.some Jvm.ClassFile.FieldType.boolean)) (by decide) rfl ?_
  intro p e s m args below meth c s₁ B hml hv
  obtain ⟨rfl, hsz, hP, hK, hD0, hE⟩ := hv
  have hx := B.exec
  have hb := B.bytes
  have hr := B.returns
  have hts0 := atoms_spec (ws := wz yX2_mayUnite cX2_mayUnite 8 (Option.some Jvm.ClassFile.FieldType.boolean)) B.pre
  have hts : ∀ w ∈ gw, w.before _ s = true := fun w h => hts0 w (List.mem_cons_of_mem _ h)
  have hown : s.vm.findClass RX2 = some m.cls := findClass_of_methodNamed B.named
  have hlocks := B.notSynchronized
  subst hsz
  have hD := hD0.self (sz := s.heap.size)
  refine gQ9 ?_
  intro Q hQ
  generalize hAe : va_A (oX2 (p0a 0) p0a p0k p0n p0w p0l) s.heap.size = A at hD hE hQ
  have hA : ∀ q : Nat, s.heap.size ≤ q → A q := fun q h => by rw [← hAe]; exact Or.inr h
  have hS : va_S A s.heap s.heap [] := va_S.rf
  have hP : va_P (dC, dI) cls (oX2 (p0a 0) p0a p0k p0n p0w p0l) s.heap := hP
  have hl := lv_entry ([.ref (p0a 0), .int p1, .int p2, .int p3]) (n := 8) (Nat.le_of_ble_eq_true rfl)
  rw [lg_entry_eq]
  generalize (lg_sl ([.ref (p0a 0), .int p1, .int p2, .int p3]) ++ List.replicate (8 - (lg_sl ([.ref (p0a 0), .int p1, .int p2, .int p3])).length) Slot.unset).toArray = ls at hl ⊢
  have hl : lv_has ls 8 [(0, .ref (p0a 0)), (1, .int p1), (2, .int p2), (3, .int p3)] := hl
  obtain ⟨H, hHe⟩ : ∃ H, H = s.heap := ⟨_, rfl⟩
  obtain ⟨locs, hle⟩ : ∃ locs : List Loc, locs = [] := ⟨_, rfl⟩
  rw [← hHe] at hP
  have hS : va_S A s.heap H locs := by rw [hHe, hle]; exact hS
  show W p l e ({ frames := 2, cells := 0, slots := 0, locals := 45 } : Room) s m ([.ref (p0a 0), .int p1, .int p2, .int p3] : List Value).toArray below meth c s.heap [] 0 0 Q (F0 m 0 ls [])
  rw [← hle]
  refine wH9 hHe ?_
  unfold fX2_mayUnite at hrun
  refine lv_iload_n hx hb dX2_mayUnite_0 rfl (lv_at hl 1 rfl) ?_
  refine lv_aload_n hx hb dX2_mayUnite_1 rfl (lv_at hl 0 rfl) ?_
  refine va_get (D := (dC, dI)) (ci := 9) (v := .int (p0w 0 0)) (C := RX2) (T := TX2) (N := 19) hx hb hts i_X2 hown hK hP 0 rfl rfl 0 (by decide) (hts _ qw665) (fun _ h9 => h9) rfl dX2_mayUnite_2 ?_
  have J29 : ∀ (H : Heap) (locs : List Loc) (ls : Array Slot), (fX2_mayUnite_J29) = some o → va_P (dC, dI) cls (oX2 (p0a 0) p0a p0k p0n p0w p0l) H → va_D A (oX2 (p0a 0) p0a p0k p0n p0w p0l) → va_K (dC, dI) cls (tX2 p0k) s → va_S A s.heap H locs → lv_has ls 8 [] → W p l e ({ frames := 2, cells := 0, slots := 0, locals := 45 } : Room) s m ([.ref (p0a 0), .int p1, .int p2, .int p3] : List Value).toArray below meth c H locs 0 0 Q (F0 m 29 ls []) := by
    intro  H locs ls hrun hP hD hK hS hl 
    unfold fX2_mayUnite_J29 at hrun
    refine lv_iconst (v := 0) hx hb dX2_mayUnite_29 (by decide) ?_
    have ho9 : 0 = o := Option.some.inj hrun
    have hP9 : va_P (dC, dI) cls (oX2 (p0a 0) p0a p0k p0n p0w p0l) H := by first | exact hP | (rw [← ho9]; exact hP)
    have hD9 : va_D A (oX2 (p0a 0) p0a p0k p0n p0w p0l) := by first | exact hD | (rw [← ho9]; exact hD)
    subst hQ
    exact W.zret (v := 0) hx hb hr (by decide) (fun t ht hW => ⟨⟨0, (), rfl, (by rw [← ho9]), ⟨by rw [ht]; exact hP9, va_K.moved hW.alike hK, hD9⟩⟩, hS.F ht⟩) hS.2.2 dX2_mayUnite_30
  rcases br9 hrun with ⟨hc1, hrun⟩ | ⟨hc1, hrun⟩
  · refine lv_icmp_ge (tgt := 29) hx hb dX2_mayUnite_5 (by decide) (fun _ => ?_) (fun c => absurd hc1 c)
    exact J29 _ _ _ hrun hP hD hK hS (lv_sub hl [] rfl)
  · refine lv_icmp_ge (tgt := 29) hx hb dX2_mayUnite_5 (by decide) (fun c => absurd c hc1) (fun _ => ?_)
    refine lv_iload_n hx hb dX2_mayUnite_8 rfl (lv_at hl 2 rfl) ?_
    refine lv_aload_n hx hb dX2_mayUnite_9 rfl (lv_at hl 0 rfl) ?_
    refine va_get (D := (dC, dI)) (ci := 9) (v := .int (p0w 0 0)) (C := RX2) (T := TX2) (N := 19) hx hb hts i_X2 hown hK hP 0 rfl rfl 0 (by decide) (hts _ qw665) (fun _ h9 => h9) rfl dX2_mayUnite_10 ?_
    rcases br9 hrun with ⟨hc2, hrun⟩ | ⟨hc2, hrun⟩
    · refine lv_icmp_ge (tgt := 29) hx hb dX2_mayUnite_13 (by decide) (fun _ => ?_) (fun c => absurd hc2 c)
      exact J29 _ _ _ hrun hP hD hK hS (lv_sub hl [] rfl)
    · refine lv_icmp_ge (tgt := 29) hx hb dX2_mayUnite_13 (by decide) (fun c => absurd c hc2) (fun _ => ?_)
      refine lv_aload_n hx hb dX2_mayUnite_16 rfl (lv_at hl 0 rfl) ?_
      refine lv_aload_n hx hb dX2_mayUnite_17 rfl (lv_at hl 0 rfl) ?_
      refine va_get (D := (dC, dI)) (ci := 9) (v := .ref (p0a 11)) (C := RX2) (T := TX2) (N := 19) hx hb hts i_X2 hown hK hP 0 rfl rfl 10 (by decide) (hts _ qw679) (fun _ h9 => h9) rfl dX2_mayUnite_18 ?_
      refine lv_iload_n hx hb dX2_mayUnite_21 rfl (lv_at hl 1 rfl) ?_
      refine lv_iload_n hx hb dX2_mayUnite_22 rfl (lv_at hl 2 rfl) ?_
      obtain ⟨o_3, hc_3, hrun⟩ := bnd9 hrun
      have hPc := hP.sub (ws' := (oX2 (p0a 0) p0a p0k p0n p0w p0l)) [0, 1, 2, 3, 4, 5, 6, 7, 8, 9, 10, 11, 12, 13, 14, 15] rfl
      have hDc := hD.sub (ws' := (oX2 (p0a 0) p0a p0k p0n p0w p0l)) [0, 1, 2, 3, 4, 5, 6, 7, 8, 9, 10, 11, 12, 13, 14, 15] (by decide) rfl
      have hKc := hK.sub (tys' := (tX2 p0k)) [0, 1, 2, 3, 4, 5, 6, 7, 8, 9, 10, 11, 12, 13, 14] rfl
      have hFc := va_free (wc := (oX2 (p0a 0) p0a p0k p0n p0w p0l)) hD hS hA [0, 1, 2, 3, 4, 5, 6, 7, 8, 9, 10, 11, 12, 13, 14, 15] rfl
      refine va_calli (va_runV (As := [.ref (p0a 11), .int p1, .int p2]) (rest := []) ⟨hx, hb, hml, hown, hts⟩ (kX2_isIn_a1_p0_10 l dC dI (p0a := (st0 (p0a 0) p0a)) (p0k := p0k) (p0n := p0n) (p0w := p0w) (p0l := p0l) (p2 := p1) (p3 := p2) (sz := _) (o := o_3) (hrun := hc_3)) (cwV 3 hts (gi_V qw707 qw708 qw709 qw692 (gi_z qw706)) rfl rfl rfl (by decide +kernel) ⟨Nat.le_of_ble_eq_true rfl, Nat.le_of_ble_eq_true rfl⟩) ⟨PRE.blind, va_recv hKc hPc (ci := 9) (q0 := 0) rfl rfl, PRE.of hE hS hFc hPc hKc hDc⟩ rfl rfl hl.1 rfl (lv_room (Nat.le_of_ble_eq_true rfl)) dX2_mayUnite_23 ⟨(Nat.le_of_ble_eq_true rfl), (Nat.le_of_ble_eq_true rfl)⟩) hS (fun q _ h => hFc q h) hFc (fun r4 u t H locs ht hvm hw hB hz1 hk1 hS => ?_)
      obtain ⟨hP, hD, hK⟩ := JOIN (wr := ([] : va_W)) hP hD hK [0, 1, 2, 3, 4, 5, 6, 7, 8, 9, 10, 11, 12, 13, 14, 15] [] [] rfl rfl (by decide) (by decide) rfl hk1 hFc ht hvm hB
      have hP : va_P (dC, dI) cls (oX2 (p0a 0) p0a p0k p0n p0w p0l) H := hP.sub [0, 1, 2, 3, 4, 5, 6, 7, 8, 9, 10, 11, 12, 13, 14, 15] rfl
      have hD : va_D A (oX2 (p0a 0) p0a p0k p0n p0w p0l) := hD.sub [0, 1, 2, 3, 4, 5, 6, 7, 8, 9, 10, 11, 12, 13, 14, 15] (by decide) rfl
      have hK : va_K (dC, dI) cls (tX2 p0k) s := hK.sub [0, 1, 2, 3, 4, 5, 6, 7, 8, 9, 10, 11, 12, 13, 14] rfl
      obtain rfl : o_3 = r4 := hw.symm
      rcases br9 hrun with ⟨hc5, hrun⟩ | ⟨hc5, hrun⟩
      · refine lv_if_eq (tgt := 31) hx hb dX2_mayUnite_26 (by decide) (fun _ => ?_) (fun c => absurd hc5 c)
        refine lv_iconst (v := 0) hx hb dX2_mayUnite_31 (by decide) ?_
        refine lv_istore (lv' := [(4, .int 0), (0, .ref (p0a 0)), (1, .int p1), (2, .int p2), (3, .int p3)]) hx hb dX2_mayUnite_32 hl (by decide) rfl (fun ls hl => ?_)
        refine lv_iconst (v := 0) hx hb dX2_mayUnite_34 (by decide) ?_
        refine lv_istore (lv' := [(5, .int 0), (4, .int 0), (0, .ref (p0a 0)), (1, .int p1), (2, .int p2), (3, .int p3)]) hx hb dX2_mayUnite_35 hl (by decide) rfl (fun ls hl => ?_)
        have L37 : ∀ (n_37 : Nat) (v4_37 : Int32) (v5_37 : Int32) (o37 : Int32) (H : Heap) (locs : List Loc) (ls : Array Slot), (fX2_mayUnite_L37 p0n p0w p0l p1 p2 p3 n_37) v4_37 v5_37 = some o37 → va_P (dC, dI) cls (oX2 (p0a 0) p0a p0k p0n p0w p0l) H → va_D A (oX2 (p0a 0) p0a p0k p0n p0w p0l) → va_K (dC, dI) cls (tX2 p0k) s → va_S A s.heap H locs → lv_has ls 8 [(0, .ref (p0a 0)), (1, .int p1), (2, .int p2), (3, .int p3), (4, .int v4_37), (5, .int v5_37)] → (∀ (H : Heap) (locs : List Loc) (ls : Array Slot), va_P (dC, dI) cls (oX2 (p0a 0) p0a p0k p0n p0w p0l) H → va_D A (oX2 (p0a 0) p0a p0k p0n p0w p0l) → va_K (dC, dI) cls (tX2 p0k) s → va_S A s.heap H locs → lv_has ls 8 [(0, .ref (p0a 0)), (1, .int p1), (2, .int p2), (3, .int p3), (4, .int o37)] → W p l e ({ frames := 2, cells := 0, slots := 0, locals := 45 } : Room) s m ([.ref (p0a 0), .int p1, .int p2, .int p3] : List Value).toArray below meth c H locs 0 0 Q (F0 m 132 ls [])) → W p l e ({ frames := 2, cells := 0, slots := 0, locals := 45 } : Room) s m ([.ref (p0a 0), .int p1, .int p2, .int p3] : List Value).toArray below meth c H locs 0 0 Q (F0 m 37 ls []) := by
          intro n_37
          induction n_37 with
          | zero => intro v4_37 v5_37 o37 H locs ls hrun; exact (no9 rfl hrun).elim
          | succ n_37 IH37 =>
            intro v4_37 v5_37 o37 H locs ls hrun hP hD hK hS hl hk37
            unfold fX2_mayUnite_L37 at hrun
            refine lv_iload hx hb dX2_mayUnite_37 (lv_at hl 5 rfl) ?_
            refine lv_aload_n hx hb dX2_mayUnite_39 rfl (lv_at hl 0 rfl) ?_
            refine va_get (D := (dC, dI)) (ci := 9) (v := .int (p0w 0 2)) (C := RX2) (T := TX2) (N := 19) hx hb hts i_X2 hown hK hP 0 rfl rfl 2 (by decide) (hts _ qw667) (fun _ h9 => h9) rfl dX2_mayUnite_40 ?_
            rcases br9 hrun with ⟨hc6, hrun⟩ | ⟨hc6, hrun⟩
            · refine lv_icmp_ge (tgt := 132) hx hb dX2_mayUnite_43 (by decide) (fun _ => ?_) (fun c => absurd hc6 c)
              obtain rfl := (Option.some.inj hrun)
              exact hk37 _ _ _ hP hD hK hS (lv_sub hl [0, 1, 2, 3, 4] rfl)
            · refine lv_icmp_ge (tgt := 132) hx hb dX2_mayUnite_43 (by decide) (fun c => absurd c hc6) (fun _ => ?_)
              refine lv_aload_n hx hb dX2_mayUnite_46 rfl (lv_at hl 0 rfl) ?_
              refine va_get (D := (dC, dI)) (ci := 9) (v := .ref (p0a 11)) (C := RX2) (T := TX2) (N := 19) hx hb hts i_X2 hown hK hP 0 rfl rfl 10 (by decide) (hts _ qw679) (fun _ h9 => h9) rfl dX2_mayUnite_47 ?_
              refine lv_iload_n hx hb dX2_mayUnite_50 rfl (lv_at hl 1 rfl) ?_
              refine lv_aload_n hx hb dX2_mayUnite_51 rfl (lv_at hl 0 rfl) ?_
              refine va_get (D := (dC, dI)) (ci := 9) (v := .int (p0w 0 2)) (C := RX2) (T := TX2) (N := 19) hx hb hts i_X2 hown hK hP 0 rfl rfl 2 (by decide) (hts _ qw667) (fun _ h9 => h9) rfl dX2_mayUnite_52 ?_
              refine lv_imul hx hb dX2_mayUnite_55 ?_
              refine lv_iload hx hb dX2_mayUnite_56 (lv_at hl 5 rfl) ?_
              refine lv_iadd hx hb dX2_mayUnite_58 ?_
              obtain ⟨hq7, hrun⟩ := chk9 hrun
              refine va_lald hx hb hK hP 7 6 rfl rfl (ixb_in hq7) dX2_mayUnite_59 ?_
              refine lv_aload_n hx hb dX2_mayUnite_60 rfl (lv_at hl 0 rfl) ?_
              refine va_get (D := (dC, dI)) (ci := 9) (v := .ref (p0a 11)) (C := RX2) (T := TX2) (N := 19) hx hb hts i_X2 hown hK hP 0 rfl rfl 10 (by decide) (hts _ qw679) (fun _ h9 => h9) rfl dX2_mayUnite_61 ?_
              refine lv_iload_n hx hb dX2_mayUnite_64 rfl (lv_at hl 2 rfl) ?_
              refine lv_aload_n hx hb dX2_mayUnite_65 rfl (lv_at hl 0 rfl) ?_
              refine va_get (D := (dC, dI)) (ci := 9) (v := .int (p0w 0 2)) (C := RX2) (T := TX2) (N := 19) hx hb hts i_X2 hown hK hP 0 rfl rfl 2 (by decide) (hts _ qw667) (fun _ h9 => h9) rfl dX2_mayUnite_66 ?_
              refine lv_imul hx hb dX2_mayUnite_69 ?_
              refine lv_iload hx hb dX2_mayUnite_70 (lv_at hl 5 rfl) ?_
              refine lv_iadd hx hb dX2_mayUnite_72 ?_
              obtain ⟨hq8, hrun⟩ := chk9 hrun
              refine va_lald hx hb hK hP 7 6 rfl rfl (ixb_in hq8) dX2_mayUnite_73 ?_
              refine lv_lor hx hb dX2_mayUnite_74 ?_
              refine lv_lstore (lv' := [(6, .long ((p0l 11 (nn ((p1 * (p0w 0 2)) + v5_37))) ||| (p0l 11 (nn ((p2 * (p0w 0 2)) + v5_37))))), (0, .ref (p0a 0)), (1, .int p1), (2, .int p2), (3, .int p3), (4, .int v4_37), (5, .int v5_37)]) hx hb dX2_mayUnite_75 hl (by decide) rfl (fun ls hl => ?_)
              have L77 : ∀ (n_77 : Nat) (v4_77 : Int32) (v6_77 : Int64) (o77 : Int32) (H : Heap) (locs : List Loc) (ls : Array Slot), (fX2_mayUnite_L77 p0n p0w p3 v5_37 n_77) v4_77 v6_77 = some o77 → va_P (dC, dI) cls (oX2 (p0a 0) p0a p0k p0n p0w p0l) H → va_D A (oX2 (p0a 0) p0a p0k p0n p0w p0l) → va_K (dC, dI) cls (tX2 p0k) s → va_S A s.heap H locs → lv_has ls 8 [(0, .ref (p0a 0)), (1, .int p1), (2, .int p2), (3, .int p3), (4, .int v4_77), (5, .int v5_37), (6, .long v6_77)] → (∀ (H : Heap) (locs : List Loc) (ls : Array Slot), va_P (dC, dI) cls (oX2 (p0a 0) p0a p0k p0n p0w p0l) H → va_D A (oX2 (p0a 0) p0a p0k p0n p0w p0l) → va_K (dC, dI) cls (tX2 p0k) s → va_S A s.heap H locs → lv_has ls 8 [(0, .ref (p0a 0)), (1, .int p1), (2, .int p2), (3, .int p3), (4, .int o77), (5, .int v5_37)] → W p l e ({ frames := 2, cells := 0, slots := 0, locals := 45 } : Room) s m ([.ref (p0a 0), .int p1, .int p2, .int p3] : List Value).toArray below meth c H locs 0 0 Q (F0 m 126 ls [])) → W p l e ({ frames := 2, cells := 0, slots := 0, locals := 45 } : Room) s m ([.ref (p0a 0), .int p1, .int p2, .int p3] : List Value).toArray below meth c H locs 0 0 Q (F0 m 77 ls []) := by
                intro n_77
                induction n_77 with
                | zero => intro v4_77 v6_77 o77 H locs ls hrun; exact (no9 rfl hrun).elim
                | succ n_77 IH77 =>
                  intro v4_77 v6_77 o77 H locs ls hrun hP hD hK hS hl hk77
                  unfold fX2_mayUnite_L77 at hrun
                  refine lv_lload hx hb dX2_mayUnite_77 (lv_at hl 6 rfl) ?_
                  refine lv_lconst (v := 0) hx hb dX2_mayUnite_79 (by decide) ?_
                  refine W.lcmp hx hb dX2_mayUnite_80 ?_
                  rcases br9 hrun with ⟨hc9, hrun⟩ | ⟨hc9, hrun⟩
                  · refine lv_if_eq (tgt := 126) hx hb dX2_mayUnite_81 (by decide) (fun _ => ?_) (fun c => absurd hc9 c)
                    obtain rfl := (Option.some.inj hrun)
                    exact hk77 _ _ _ hP hD hK hS (lv_sub hl [0, 1, 2, 3, 4, 5] rfl)
                  · refine lv_if_eq (tgt := 126) hx hb dX2_mayUnite_81 (by decide) (fun c => absurd c hc9) (fun _ => ?_)
                    refine lv_iload hx hb dX2_mayUnite_84 (lv_at hl 4 rfl) ?_
                    refine lv_aload_n hx hb dX2_mayUnite_86 rfl (lv_at hl 0 rfl) ?_
                    refine va_get (D := (dC, dI)) (ci := 9) (v := .ref (p0a 13)) (C := RX2) (T := TX2) (N := 19) hx hb hts i_X2 hown hK hP 0 rfl rfl 12 (by decide) (hts _ qw681) (fun _ h9 => h9) rfl dX2_mayUnite_87 ?_
                    refine lv_iload hx hb dX2_mayUnite_90 (lv_at hl 5 rfl) ?_
                    refine lv_bipush (v := 64) hx hb dX2_mayUnite_92 (by decide) ?_
                    refine lv_imul hx hb dX2_mayUnite_94 ?_
                    refine lv_lload hx hb dX2_mayUnite_95 (lv_at hl 6 rfl) ?_
                    obtain ⟨o_10, hc_10, hrun⟩ := bnd9 hrun
                    have hPc := hP.sub (ws' := ([] : va_W)) [] rfl
                    have hDc := hD.sub (ws' := ([] : va_W)) [] (by decide) rfl
                    have hKc := hK.sub (tys' := ([] : List (ClassId × FieldType))) [] rfl
                    have hFc := va_free (wc := ([] : va_W)) hD hS hA [] rfl
                    refine va_calli (va_runSN (As := [.long v6_77]) (rest := [.int (v5_37 * 64), .ref (p0a 13), .int v4_77]) ⟨hx, hb, hml, hown, hts⟩ (kX11_lowest l dC dI (p0 := v6_77) (sz := _) (o := o_10) (hrun := hc_10)) ⟨(va_cnB 1 hts (gi_z qw773) rfl rfl rfl (hE.nw (List.mem_append_right _ (tbl_9 (i := 34) rfl)) rfl) (hts _ qw129) (by decide +kernel) ⟨Nat.le_of_ble_eq_true rfl, Nat.le_of_ble_eq_true rfl⟩), (hts _ qw774), trivial⟩ ⟨PRE.blind, PRE.of hE hS hFc hPc hKc hDc⟩ rfl rfl hl.1 rfl (lv_room (Nat.le_of_ble_eq_true rfl)) dX2_mayUnite_97 ⟨(Nat.le_of_ble_eq_true rfl), (Nat.le_of_ble_eq_true rfl)⟩) hS (fun q _ h => hFc q h) hFc (fun r11 u t H locs ht hvm hw hB hz1 hk1 hS => ?_)
                    obtain ⟨hP, hD, hK⟩ := JOIN (wr := (oX2 (p0a 0) p0a p0k p0n p0w p0l)) hP hD hK [] [0, 1, 2, 3, 4, 5, 6, 7, 8, 9, 10, 11, 12, 13, 14, 15] [0, 1, 2, 3, 4, 5, 6, 7, 8, 9, 10, 11, 12, 13, 14] rfl rfl (by decide) (by decide) rfl hk1 hFc ht hvm hB
                    have hP : va_P (dC, dI) cls (oX2 (p0a 0) p0a p0k p0n p0w p0l) H := hP.sub [0, 1, 2, 3, 4, 5, 6, 7, 8, 9, 10, 11, 12, 13, 14, 15] rfl
                    have hD : va_D A (oX2 (p0a 0) p0a p0k p0n p0w p0l) := hD.sub [0, 1, 2, 3, 4, 5, 6, 7, 8, 9, 10, 11, 12, 13, 14, 15] (by decide) rfl
                    have hK : va_K (dC, dI) cls (tX2 p0k) s := hK.sub [0, 1, 2, 3, 4, 5, 6, 7, 8, 9, 10, 11, 12, 13, 14] rfl
                    obtain rfl : o_10 = r11 := hw.symm
                    refine lv_iadd hx hb dX2_mayUnite_100 ?_
                    obtain ⟨hq12, hrun⟩ := chk9 hrun
                    refine va_iald hx hb hK hP 9 8 rfl rfl (ixb_in hq12) dX2_mayUnite_101 ?_
                    refine lv_iload_n hx hb dX2_mayUnite_102 rfl (lv_at hl 3 rfl) ?_
                    have J111 : ∀ (y0_111 : Int32) (y1_111 : Int32) (H : Heap) (locs : List Loc) (ls : Array Slot), (fX2_mayUnite_J111 (fX2_mayUnite_L77 p0n p0w p3 v5_37 n_77) v6_77 y0_111 y1_111) = some o77 → va_P (dC, dI) cls (oX2 (p0a 0) p0a p0k p0n p0w p0l) H → va_D A (oX2 (p0a 0) p0a p0k p0n p0w p0l) → va_K (dC, dI) cls (tX2 p0k) s → va_S A s.heap H locs → lv_has ls 8 [(0, .ref (p0a 0)), (1, .int p1), (2, .int p2), (3, .int p3), (5, .int v5_37), (6, .long v6_77)] → W p l e ({ frames := 2, cells := 0, slots := 0, locals := 45 } : Room) s m ([.ref (p0a 0), .int p1, .int p2, .int p3] : List Value).toArray below meth c H locs 0 0 Q (F0 m 111 ls [.int y0_111, .int y1_111]) := by
                      intro y0_111 y1_111 H locs ls hrun hP hD hK hS hl 
                      unfold fX2_mayUnite_J111 at hrun
                      refine lv_iadd hx hb dX2_mayUnite_111 ?_
                      refine lv_istore (lv' := [(4, .int (y1_111 + y0_111)), (0, .ref (p0a 0)), (1, .int p1), (2, .int p2), (3, .int p3), (5, .int v5_37), (6, .long v6_77)]) hx hb dX2_mayUnite_112 hl (by decide) rfl (fun ls hl => ?_)
                      refine lv_lload hx hb dX2_mayUnite_114 (lv_at hl 6 rfl) ?_
                      refine lv_lload hx hb dX2_mayUnite_116 (lv_at hl 6 rfl) ?_
                      refine lv_lconst (v := 1) hx hb dX2_mayUnite_118 (by decide) ?_
                      refine lv_lsub hx hb dX2_mayUnite_119 ?_
                      refine lv_land hx hb dX2_mayUnite_120 ?_
                      refine lv_lstore (lv' := [(6, .long (v6_77 &&& (v6_77 - (1 : Int64)))), (4, .int (y1_111 + y0_111)), (0, .ref (p0a 0)), (1, .int p1), (2, .int p2), (3, .int p3), (5, .int v5_37)]) hx hb dX2_mayUnite_121 hl (by decide) rfl (fun ls hl => ?_)
                      refine lv_goto (tgt := 77) hx hb dX2_mayUnite_123 (by decide) ?_
                      exact IH77 (y1_111 + y0_111) (v6_77 &&& (v6_77 - (1 : Int64))) o77 _ _ _ hrun hP hD hK hS (lv_sub hl [2, 3, 4, 5, 1, 6, 0] rfl) hk77
                    rcases br9 hrun with ⟨hc13, hrun⟩ | ⟨hc13, hrun⟩
                    · refine lv_icmp_lt (tgt := 110) hx hb dX2_mayUnite_103 (by decide) (fun _ => ?_) (fun c => absurd hc13 c)
                      refine lv_iconst (v := 0) hx hb dX2_mayUnite_110 (by decide) ?_
                      exact J111 0 v4_77 _ _ _ hrun hP hD hK hS (lv_sub hl [0, 1, 2, 3, 5, 6] rfl)
                    · refine lv_icmp_lt (tgt := 110) hx hb dX2_mayUnite_103 (by decide) (fun c => absurd c hc13) (fun _ => ?_)
                      refine lv_iconst (v := 1) hx hb dX2_mayUnite_106 (by decide) ?_
                      refine lv_goto (tgt := 111) hx hb dX2_mayUnite_107 (by decide) ?_
                      exact J111 1 v4_77 _ _ _ hrun hP hD hK hS (lv_sub hl [0, 1, 2, 3, 5, 6] rfl)
              obtain ⟨o77, hc77, hrun⟩ := bnd9 hrun
              refine L77 NF v4_37 ((p0l 11 (nn ((p1 * (p0w 0 2)) + v5_37))) ||| (p0l 11 (nn ((p2 * (p0w 0 2)) + v5_37)))) o77 _ _ _ hc77 hP hD hK hS (lv_sub hl [1, 2, 3, 4, 5, 6, 0] rfl) ?_
              intro H locs ls hP hD hK hS hl
              have hl := hl
              refine lv_iinc (v := (v5_37 + 1)) (lv' := [(5, .int (v5_37 + 1)), (0, .ref (p0a 0)), (1, .int p1), (2, .int p2), (3, .int p3), (4, .int o77)]) hx hb dX2_mayUnite_126 hl (k := 5) rfl rfl (by decide) rfl (fun ls hl => ?_)
              refine lv_goto (tgt := 37) hx hb dX2_mayUnite_129 (by decide) ?_
              exact IH37 o77 (v5_37 + 1) o37 _ _ _ hrun hP hD hK hS (lv_sub hl [1, 2, 3, 4, 5, 0] rfl) hk37
        obtain ⟨o37, hc37, hrun⟩ := bnd9 hrun
        refine L37 NF 0 0 o37 _ _ _ hc37 hP hD hK hS (lv_sub hl [2, 3, 4, 5, 1, 0] rfl) ?_
        intro H locs ls hP hD hK hS hl
        have hl := hl
        refine lv_aload_n hx hb dX2_mayUnite_132 rfl (lv_at hl 0 rfl) ?_
        refine va_get (D := (dC, dI)) (ci := 9) (v := .int (p0w 0 0)) (C := RX2) (T := TX2) (N := 19) hx hb hts i_X2 hown hK hP 0 rfl rfl 0 (by decide) (hts _ qw665) (fun _ h9 => h9) rfl dX2_mayUnite_133 ?_
        refine lv_istore (lv' := [(5, .int (p0w 0 0)), (0, .ref (p0a 0)), (1, .int p1), (2, .int p2), (3, .int p3), (4, .int o37)]) hx hb dX2_mayUnite_136 hl (by decide) rfl (fun ls hl => ?_)
        have L138 : ∀ (n_138 : Nat) (v4_138 : Int32) (v5_138 : Int32) (o138 : Int32) (H : Heap) (locs : List Loc) (ls : Array Slot), (fX2_mayUnite_L138 p0n p0w p0l p1 p2 p3 n_138) v4_138 v5_138 = some o138 → va_P (dC, dI) cls (oX2 (p0a 0) p0a p0k p0n p0w p0l) H → va_D A (oX2 (p0a 0) p0a p0k p0n p0w p0l) → va_K (dC, dI) cls (tX2 p0k) s → va_S A s.heap H locs → lv_has ls 8 [(0, .ref (p0a 0)), (1, .int p1), (2, .int p2), (3, .int p3), (4, .int v4_138), (5, .int v5_138)] → (∀ (H : Heap) (locs : List Loc) (ls : Array Slot), va_P (dC, dI) cls (oX2 (p0a 0) p0a p0k p0n p0w p0l) H → va_D A (oX2 (p0a 0) p0a p0k p0n p0w p0l) → va_K (dC, dI) cls (tX2 p0k) s → va_S A s.heap H locs → lv_has ls 8 [(3, .int p3), (4, .int o138)] → W p l e ({ frames := 2, cells := 0, slots := 0, locals := 45 } : Room) s m ([.ref (p0a 0), .int p1, .int p2, .int p3] : List Value).toArray below meth c H locs 0 0 Q (F0 m 195 ls [])) → W p l e ({ frames := 2, cells := 0, slots := 0, locals := 45 } : Room) s m ([.ref (p0a 0), .int p1, .int p2, .int p3] : List Value).toArray below meth c H locs 0 0 Q (F0 m 138 ls []) := by
          intro n_138
          induction n_138 with
          | zero => intro v4_138 v5_138 o138 H locs ls hrun; exact (no9 rfl hrun).elim
          | succ n_138 IH138 =>
            intro v4_138 v5_138 o138 H locs ls hrun hP hD hK hS hl hk138
            unfold fX2_mayUnite_L138 at hrun
            refine lv_iload hx hb dX2_mayUnite_138 (lv_at hl 5 rfl) ?_
            refine lv_aload_n hx hb dX2_mayUnite_140 rfl (lv_at hl 0 rfl) ?_
            refine va_get (D := (dC, dI)) (ci := 9) (v := .int (p0w 0 1)) (C := RX2) (T := TX2) (N := 19) hx hb hts i_X2 hown hK hP 0 rfl rfl 1 (by decide) (hts _ qw666) (fun _ h9 => h9) rfl dX2_mayUnite_141 ?_
            rcases br9 hrun with ⟨hc14, hrun⟩ | ⟨hc14, hrun⟩
            · refine lv_icmp_ge (tgt := 195) hx hb dX2_mayUnite_144 (by decide) (fun _ => ?_) (fun c => absurd hc14 c)
              obtain rfl := (Option.some.inj hrun)
              exact hk138 _ _ _ hP hD hK hS (lv_sub hl [3, 4] rfl)
            · refine lv_icmp_ge (tgt := 195) hx hb dX2_mayUnite_144 (by decide) (fun c => absurd c hc14) (fun _ => ?_)
              refine lv_aload_n hx hb dX2_mayUnite_147 rfl (lv_at hl 0 rfl) ?_
              refine va_get (D := (dC, dI)) (ci := 9) (v := .ref (p0a 13)) (C := RX2) (T := TX2) (N := 19) hx hb hts i_X2 hown hK hP 0 rfl rfl 12 (by decide) (hts _ qw681) (fun _ h9 => h9) rfl dX2_mayUnite_148 ?_
              refine lv_iload hx hb dX2_mayUnite_151 (lv_at hl 5 rfl) ?_
              obtain ⟨hq15, hrun⟩ := chk9 hrun
              refine va_iald hx hb hK hP 9 8 rfl rfl (ixb_in hq15) dX2_mayUnite_153 ?_
              refine lv_iload_n hx hb dX2_mayUnite_154 rfl (lv_at hl 3 rfl) ?_
              have J189 : ∀ (v4_189 : Int32) (H : Heap) (locs : List Loc) (ls : Array Slot), (fX2_mayUnite_J189 (fX2_mayUnite_L138 p0n p0w p0l p1 p2 p3 n_138) v5_138 v4_189) = some o138 → va_P (dC, dI) cls (oX2 (p0a 0) p0a p0k p0n p0w p0l) H → va_D A (oX2 (p0a 0) p0a p0k p0n p0w p0l) → va_K (dC, dI) cls (tX2 p0k) s → va_S A s.heap H locs → lv_has ls 8 [(0, .ref (p0a 0)), (1, .int p1), (2, .int p2), (3, .int p3), (4, .int v4_189), (5, .int v5_138)] → W p l e ({ frames := 2, cells := 0, slots := 0, locals := 45 } : Room) s m ([.ref (p0a 0), .int p1, .int p2, .int p3] : List Value).toArray below meth c H locs 0 0 Q (F0 m 189 ls []) := by
                intro v4_189 H locs ls hrun hP hD hK hS hl 
                unfold fX2_mayUnite_J189 at hrun
                refine lv_iinc (v := (v5_138 + 1)) (lv' := [(5, .int (v5_138 + 1)), (0, .ref (p0a 0)), (1, .int p1), (2, .int p2), (3, .int p3), (4, .int v4_189)]) hx hb dX2_mayUnite_189 hl (k := 5) rfl rfl (by decide) rfl (fun ls hl => ?_)
                refine lv_goto (tgt := 138) hx hb dX2_mayUnite_192 (by decide) ?_
                exact IH138 v4_189 (v5_138 + 1) o138 _ _ _ hrun hP hD hK hS (lv_sub hl [1, 2, 3, 4, 5, 0] rfl) hk138
              rcases br9 hrun with ⟨hc16, hrun⟩ | ⟨hc16, hrun⟩
              · refine lv_icmp_lt (tgt := 189) hx hb dX2_mayUnite_155 (by decide) (fun _ => ?_) (fun c => absurd hc16 c)
                exact J189 v4_138 _ _ _ hrun hP hD hK hS (lv_sub hl [0, 1, 2, 3, 4, 5] rfl)
              · refine lv_icmp_lt (tgt := 189) hx hb dX2_mayUnite_155 (by decide) (fun c => absurd c hc16) (fun _ => ?_)
                refine lv_aload_n hx hb dX2_mayUnite_158 rfl (lv_at hl 0 rfl) ?_
                refine lv_aload_n hx hb dX2_mayUnite_159 rfl (lv_at hl 0 rfl) ?_
                refine va_get (D := (dC, dI)) (ci := 9) (v := .ref (p0a 11)) (C := RX2) (T := TX2) (N := 19) hx hb hts i_X2 hown hK hP 0 rfl rfl 10 (by decide) (hts _ qw679) (fun _ h9 => h9) rfl dX2_mayUnite_160 ?_
                refine lv_iload hx hb dX2_mayUnite_163 (lv_at hl 5 rfl) ?_
                refine lv_iload_n hx hb dX2_mayUnite_165 rfl (lv_at hl 1 rfl) ?_
                obtain ⟨o_17, hc_17, hrun⟩ := bnd9 hrun
                have hPc := hP.sub (ws' := (oX2 (p0a 0) p0a p0k p0n p0w p0l)) [0, 1, 2, 3, 4, 5, 6, 7, 8, 9, 10, 11, 12, 13, 14, 15] rfl
                have hDc := hD.sub (ws' := (oX2 (p0a 0) p0a p0k p0n p0w p0l)) [0, 1, 2, 3, 4, 5, 6, 7, 8, 9, 10, 11, 12, 13, 14, 15] (by decide) rfl
                have hKc := hK.sub (tys' := (tX2 p0k)) [0, 1, 2, 3, 4, 5, 6, 7, 8, 9, 10, 11, 12, 13, 14] rfl
                have hFc := va_free (wc := (oX2 (p0a 0) p0a p0k p0n p0w p0l)) hD hS hA [0, 1, 2, 3, 4, 5, 6, 7, 8, 9, 10, 11, 12, 13, 14, 15] rfl
                refine va_calli (va_runV (As := [.ref (p0a 11), .int v5_138, .int p1]) (rest := []) ⟨hx, hb, hml, hown, hts⟩ (kX2_isIn_a1_p0_10 l dC dI (p0a := (st0 (p0a 0) p0a)) (p0k := p0k) (p0n := p0n) (p0w := p0w) (p0l := p0l) (p2 := v5_138) (p3 := p1) (sz := _) (o := o_17) (hrun := hc_17)) (cwV 3 hts (gi_V qw707 qw708 qw709 qw692 (gi_z qw706)) rfl rfl rfl (by decide +kernel) ⟨Nat.le_of_ble_eq_true rfl, Nat.le_of_ble_eq_true rfl⟩) ⟨PRE.blind, va_recv hKc hPc (ci := 9) (q0 := 0) rfl rfl, PRE.of hE hS hFc hPc hKc hDc⟩ rfl rfl hl.1 rfl (lv_room (Nat.le_of_ble_eq_true rfl)) dX2_mayUnite_166 ⟨(Nat.le_of_ble_eq_true rfl), (Nat.le_of_ble_eq_true rfl)⟩) hS (fun q _ h => hFc q h) hFc (fun r18 u t H locs ht hvm hw hB hz1 hk1 hS => ?_)
                obtain ⟨hP, hD, hK⟩ := JOIN (wr := ([] : va_W)) hP hD hK [0, 1, 2, 3, 4, 5, 6, 7, 8, 9, 10, 11, 12, 13, 14, 15] [] [] rfl rfl (by decide) (by decide) rfl hk1 hFc ht hvm hB
                have hP : va_P (dC, dI) cls (oX2 (p0a 0) p0a p0k p0n p0w p0l) H := hP.sub [0, 1, 2, 3, 4, 5, 6, 7, 8, 9, 10, 11, 12, 13, 14, 15] rfl
                have hD : va_D A (oX2 (p0a 0) p0a p0k p0n p0w p0l) := hD.sub [0, 1, 2, 3, 4, 5, 6, 7, 8, 9, 10, 11, 12, 13, 14, 15] (by decide) rfl
                have hK : va_K (dC, dI) cls (tX2 p0k) s := hK.sub [0, 1, 2, 3, 4, 5, 6, 7, 8, 9, 10, 11, 12, 13, 14] rfl
                obtain rfl : o_17 = r18 := hw.symm
                have J186 : ∀ (H : Heap) (locs : List Loc) (ls : Array Slot), (fX2_mayUnite_J186 (fX2_mayUnite_L138 p0n p0w p0l p1 p2 p3 n_138) v4_138 v5_138) = some o138 → va_P (dC, dI) cls (oX2 (p0a 0) p0a p0k p0n p0w p0l) H → va_D A (oX2 (p0a 0) p0a p0k p0n p0w p0l) → va_K (dC, dI) cls (tX2 p0k) s → va_S A s.heap H locs → lv_has ls 8 [(0, .ref (p0a 0)), (1, .int p1), (2, .int p2), (3, .int p3), (4, .int v4_138), (5, .int v5_138)] → W p l e ({ frames := 2, cells := 0, slots := 0, locals := 45 } : Room) s m ([.ref (p0a 0), .int p1, .int p2, .int p3] : List Value).toArray below meth c H locs 0 0 Q (F0 m 186 ls []) := by
                  intro  H locs ls hrun hP hD hK hS hl 
                  unfold fX2_mayUnite_J186 at hrun
                  refine lv_iinc (v := (v4_138 + 1)) (lv' := [(4, .int (v4_138 + 1)), (0, .ref (p0a 0)), (1, .int p1), (2, .int p2), (3, .int p3), (5, .int v5_138)]) hx hb dX2_mayUnite_186 hl (k := 4) rfl rfl (by decide) rfl (fun ls hl => ?_)
                  exact J189 (v4_138 + 1) _ _ _ hrun hP hD hK hS (lv_sub hl [1, 2, 3, 4, 0, 5] rfl)
                rcases br9 hrun with ⟨hc19, hrun⟩ | ⟨hc19, hrun⟩
                · refine lv_if_ne (tgt := 186) hx hb dX2_mayUnite_169 (by decide) (fun c => absurd hc19 c) (fun _ => ?_)
                  refine lv_aload_n hx hb dX2_mayUnite_172 rfl (lv_at hl 0 rfl) ?_
                  refine lv_aload_n hx hb dX2_mayUnite_173 rfl (lv_at hl 0 rfl) ?_
                  refine va_get (D := (dC, dI)) (ci := 9) (v := .ref (p0a 11)) (C := RX2) (T := TX2) (N := 19) hx hb hts i_X2 hown hK hP 0 rfl rfl 10 (by decide) (hts _ qw679) (fun _ h9 => h9) rfl dX2_mayUnite_174 ?_
                  refine lv_iload hx hb dX2_mayUnite_177 (lv_at hl 5 rfl) ?_
                  refine lv_iload_n hx hb dX2_mayUnite_179 rfl (lv_at hl 2 rfl) ?_
                  obtain ⟨o_20, hc_20, hrun⟩ := bnd9 hrun
                  have hPc := hP.sub (ws' := (oX2 (p0a 0) p0a p0k p0n p0w p0l)) [0, 1, 2, 3, 4, 5, 6, 7, 8, 9, 10, 11, 12, 13, 14, 15] rfl
                  have hDc := hD.sub (ws' := (oX2 (p0a 0) p0a p0k p0n p0w p0l)) [0, 1, 2, 3, 4, 5, 6, 7, 8, 9, 10, 11, 12, 13, 14, 15] (by decide) rfl
                  have hKc := hK.sub (tys' := (tX2 p0k)) [0, 1, 2, 3, 4, 5, 6, 7, 8, 9, 10, 11, 12, 13, 14] rfl
                  have hFc := va_free (wc := (oX2 (p0a 0) p0a p0k p0n p0w p0l)) hD hS hA [0, 1, 2, 3, 4, 5, 6, 7, 8, 9, 10, 11, 12, 13, 14, 15] rfl
                  refine va_calli (va_runV (As := [.ref (p0a 11), .int v5_138, .int p2]) (rest := []) ⟨hx, hb, hml, hown, hts⟩ (kX2_isIn_a1_p0_10 l dC dI (p0a := (st0 (p0a 0) p0a)) (p0k := p0k) (p0n := p0n) (p0w := p0w) (p0l := p0l) (p2 := v5_138) (p3 := p2) (sz := _) (o := o_20) (hrun := hc_20)) (cwV 3 hts (gi_V qw707 qw708 qw709 qw692 (gi_z qw706)) rfl rfl rfl (by decide +kernel) ⟨Nat.le_of_ble_eq_true rfl, Nat.le_of_ble_eq_true rfl⟩) ⟨PRE.blind, va_recv hKc hPc (ci := 9) (q0 := 0) rfl rfl, PRE.of hE hS hFc hPc hKc hDc⟩ rfl rfl hl.1 rfl (lv_room (Nat.le_of_ble_eq_true rfl)) dX2_mayUnite_180 ⟨(Nat.le_of_ble_eq_true rfl), (Nat.le_of_ble_eq_true rfl)⟩) hS (fun q _ h => hFc q h) hFc (fun r21 u t H locs ht hvm hw hB hz1 hk1 hS => ?_)
                  obtain ⟨hP, hD, hK⟩ := JOIN (wr := ([] : va_W)) hP hD hK [0, 1, 2, 3, 4, 5, 6, 7, 8, 9, 10, 11, 12, 13, 14, 15] [] [] rfl rfl (by decide) (by decide) rfl hk1 hFc ht hvm hB
                  have hP : va_P (dC, dI) cls (oX2 (p0a 0) p0a p0k p0n p0w p0l) H := hP.sub [0, 1, 2, 3, 4, 5, 6, 7, 8, 9, 10, 11, 12, 13, 14, 15] rfl
                  have hD : va_D A (oX2 (p0a 0) p0a p0k p0n p0w p0l) := hD.sub [0, 1, 2, 3, 4, 5, 6, 7, 8, 9, 10, 11, 12, 13, 14, 15] (by decide) rfl
                  have hK : va_K (dC, dI) cls (tX2 p0k) s := hK.sub [0, 1, 2, 3, 4, 5, 6, 7, 8, 9, 10, 11, 12, 13, 14] rfl
                  obtain rfl : o_20 = r21 := hw.symm
                  rcases br9 hrun with ⟨hc22, hrun⟩ | ⟨hc22, hrun⟩
                  · refine lv_if_eq (tgt := 189) hx hb dX2_mayUnite_183 (by decide) (fun _ => ?_) (fun c => absurd hc22 c)
                    exact J189 v4_138 _ _ _ hrun hP hD hK hS (lv_sub hl [0, 1, 2, 3, 4, 5] rfl)
                  · refine lv_if_eq (tgt := 189) hx hb dX2_mayUnite_183 (by decide) (fun c => absurd c hc22) (fun _ => ?_)
                    exact J186 _ _ _ hrun hP hD hK hS (lv_sub hl [0, 1, 2, 3, 4, 5] rfl)
                · refine lv_if_ne (tgt := 186) hx hb dX2_mayUnite_169 (by decide) (fun _ => ?_) (fun c => absurd c hc19)
                  exact J186 _ _ _ hrun hP hD hK hS (lv_sub hl [0, 1, 2, 3, 4, 5] rfl)
        obtain ⟨o138, hc138, hrun⟩ := bnd9 hrun
        refine L138 NF o37 (p0w 0 0) o138 _ _ _ hc138 hP hD hK hS (lv_sub hl [1, 2, 3, 4, 5, 0] rfl) ?_
        intro H locs ls hP hD hK hS hl
        have hl := hl
        refine lv_iload hx hb dX2_mayUnite_195 (lv_at hl 1 rfl) ?_
        refine lv_iload_n hx hb dX2_mayUnite_197 rfl (lv_at hl 0 rfl) ?_
        have J206 : ∀ (y0_206 : Int32) (H : Heap) (locs : List Loc) (ls : Array Slot), (fX2_mayUnite_J206 y0_206) = some o → va_P (dC, dI) cls (oX2 (p0a 0) p0a p0k p0n p0w p0l) H → va_D A (oX2 (p0a 0) p0a p0k p0n p0w p0l) → va_K (dC, dI) cls (tX2 p0k) s → va_S A s.heap H locs → lv_has ls 8 [] → W p l e ({ frames := 2, cells := 0, slots := 0, locals := 45 } : Room) s m ([.ref (p0a 0), .int p1, .int p2, .int p3] : List Value).toArray below meth c H locs 0 0 Q (F0 m 206 ls [.int y0_206]) := by
          intro y0_206 H locs ls hrun hP hD hK hS hl 
          unfold fX2_mayUnite_J206 at hrun
          obtain ⟨hz9, hrun⟩ := chk9 hrun
          have ho9 : y0_206 = o := Option.some.inj hrun
          have hP9 : va_P (dC, dI) cls (oX2 (p0a 0) p0a p0k p0n p0w p0l) H := by first | exact hP | (rw [← ho9]; exact hP)
          have hD9 : va_D A (oX2 (p0a 0) p0a p0k p0n p0w p0l) := by first | exact hD | (rw [← ho9]; exact hD)
          subst hQ
          exact W.zret (v := y0_206) hx hb hr (bz9 hz9) (fun t ht hW => ⟨⟨y0_206, (), rfl, (by rw [← ho9]), ⟨by rw [ht]; exact hP9, va_K.moved hW.alike hK, hD9⟩⟩, hS.F ht⟩) hS.2.2 dX2_mayUnite_206
        rcases br9 hrun with ⟨hc23, hrun⟩ | ⟨hc23, hrun⟩
        · refine lv_icmp_ge (tgt := 205) hx hb dX2_mayUnite_198 (by decide) (fun _ => ?_) (fun c => absurd hc23 c)
          refine lv_iconst (v := 0) hx hb dX2_mayUnite_205 (by decide) ?_
          exact J206 0 _ _ _ hrun hP hD hK hS (lv_sub hl [] rfl)
        · refine lv_icmp_ge (tgt := 205) hx hb dX2_mayUnite_198 (by decide) (fun c => absurd c hc23) (fun _ => ?_)
          refine lv_iconst (v := 1) hx hb dX2_mayUnite_201 (by decide) ?_
          refine lv_goto (tgt := 206) hx hb dX2_mayUnite_202 (by decide) ?_
          exact J206 1 _ _ _ hrun hP hD hK hS (lv_sub hl [] rfl)
      · refine lv_if_eq (tgt := 31) hx hb dX2_mayUnite_26 (by decide) (fun c => absurd c hc5) (fun _ => ?_)
        exact J29 _ _ _ hrun hP hD hK hS (lv_sub hl [] rfl)
def fX0_unite_J171 (kk34 : Int32 → ST → ST → Option (ST × ST)) (v6_34 : Int32) (p0_0_2w_34 : ST) (p0_0w_171 : ST) (p0_0_2w_171 : ST) : Option (ST × ST) := (kk34 (p0_0_2w_34 6 (nn v6_34)) p0_0w_171 p0_0_2w_171)
def fX0_unite_J160 (kk34 : Int32 → ST → ST → Option (ST × ST)) (p0_0_2n : Nat → Nat) (v4_11 : Int32) (v6_34 : Int32) (p0_0w_34 : ST) (p0_0_2w_34 : ST) (p0_0_2w_131 : ST) : Option (ST × ST) := ((fX1_link p0_0w_34 v4_11 v6_34 p0_0_2n p0_0_2w_131).bind fun (o_14 : ST × ST) => (fX0_unite_J171 kk34 v6_34 p0_0_2w_34 (o_14.1) (o_14.2)))
def fX0_unite_J131 (kk34 : Int32 → ST → ST → Option (ST × ST)) (p0_0_2n : Nat → Nat) (v4_11 : Int32) (v6_34 : Int32) (p0_0w_34 : ST) (p0_0_2w_34 : ST) (p0_0_2w_131 : ST) : Option (ST × ST) := (if ixb v6_34 (p0_0_2n 2) = true then (if (p0_0_2w_131 2 (nn v6_34)) = 25 then (if ixb v6_34 (p0_0_2n 3) = true then (if ixb v6_34 (p0_0_2n 4) = true then (if (p0_0_2w_131 3 (nn v6_34)) = (p0_0_2w_131 4 (nn v6_34)) then (fX0_unite_J171 kk34 v6_34 p0_0_2w_34 p0_0w_34 p0_0_2w_131) else (fX0_unite_J160 kk34 p0_0_2n v4_11 v6_34 p0_0w_34 p0_0_2w_34 p0_0_2w_131)) else none) else none) else (fX0_unite_J160 kk34 p0_0_2n v4_11 v6_34 p0_0w_34 p0_0_2w_34 p0_0_2w_131)) else none)
def fX0_unite_J99 (kk34 : Int32 → ST → ST → Option (ST × ST)) (p1 : Int32) (p2 : Int32) (p0_0_2n : Nat → Nat) (v4_11 : Int32) (v6_34 : Int32) (p0_0w_34 : ST) (p0_0_2w_34 : ST) (p0_0_2w_99 : ST) : Option (ST × ST) := (if ixb v6_34 (p0_0_2n 2) = true then ((fX11_usesRight (p0_0_2w_99 2 (nn v6_34))).bind fun (o_11 : Int32) => (if o_11 = 0 then (fX0_unite_J131 kk34 p0_0_2n v4_11 v6_34 p0_0w_34 p0_0_2w_34 p0_0_2w_99) else (if ixb v6_34 (p0_0_2n 5) = true then (if (p0_0_2w_99 5 (nn v6_34)) = p2 then (if ixb v6_34 (p0_0_2n 5) = true then (lt9 (upw p0_0_2w_99 5 (nn v6_34) p1) fun (w23 : ST) => (fX0_unite_J131 kk34 p0_0_2n v4_11 v6_34 p0_0w_34 p0_0_2w_34 w23)) else none) else (fX0_unite_J131 kk34 p0_0_2n v4_11 v6_34 p0_0w_34 p0_0_2w_34 p0_0_2w_99)) else none))) else none)
def fX0_unite_J67 (kk34 : Int32 → ST → ST → Option (ST × ST)) (p1 : Int32) (p2 : Int32) (p0_0_2n : Nat → Nat) (v4_11 : Int32) (v6_34 : Int32) (p0_0w_34 : ST) (p0_0_2w_34 : ST) (p0_0_2w_67 : ST) : Option (ST × ST) := (if ixb v6_34 (p0_0_2n 2) = true then ((fX11_usesLeft (p0_0_2w_67 2 (nn v6_34))).bind fun (o_8 : Int32) => (if o_8 = 0 then (fX0_unite_J99 kk34 p1 p2 p0_0_2n v4_11 v6_34 p0_0w_34 p0_0_2w_34 p0_0_2w_67) else (if ixb v6_34 (p0_0_2n 4) = true then (if (p0_0_2w_67 4 (nn v6_34)) = p2 then (if ixb v6_34 (p0_0_2n 4) = true then (lt9 (upw p0_0_2w_67 4 (nn v6_34) p1) fun (w28 : ST) => (fX0_unite_J99 kk34 p1 p2 p0_0_2n v4_11 v6_34 p0_0w_34 p0_0_2w_34 w28)) else none) else (fX0_unite_J99 kk34 p1 p2 p0_0_2n v4_11 v6_34 p0_0w_34 p0_0_2w_34 p0_0_2w_67)) else none))) else none)
def fX0_unite_L34 (p1 : Int32) (p2 : Int32) (p0_0_2n : Nat → Nat) (v4_11 : Int32) : Nat → Int32 → ST → ST → Option (ST × ST)
  | 0 => fun _ _ _ => none
  | n_34 + 1 => fun v6_34 p0_0w_34 p0_0_2w_34 => (if v6_34 < 0 then some (p0_0w_34, p0_0_2w_34) else (if ixb v6_34 (p0_0_2n 6) = true then (if ixb v6_34 (p0_0_2n 3) = true then (if (p0_0_2w_34 3 (nn v6_34)) = p2 then (if ixb v6_34 (p0_0_2n 3) = true then (lt9 (upw p0_0_2w_34 3 (nn v6_34) p1) fun (w31 : ST) => (fX0_unite_J67 (fX0_unite_L34 p1 p2 p0_0_2n v4_11 n_34) p1 p2 p0_0_2n v4_11 v6_34 p0_0w_34 p0_0_2w_34 w31)) else none) else (fX0_unite_J67 (fX0_unite_L34 p1 p2 p0_0_2n v4_11 n_34) p1 p2 p0_0_2n v4_11 v6_34 p0_0w_34 p0_0_2w_34 p0_0_2w_34)) else none) else none))
def fX0_unite_J203 (kk11 : Int32 → ST → ST → Option (ST × ST)) (v4_11 : Int32) (o34 : ST × ST) (p0_0w_203 : ST) : Option (ST × ST) := (kk11 (v4_11 + 1) p0_0w_203 (o34.2))
def fX0_unite_L11 (p1 : Int32) (p2 : Int32) (p0_0_2n : Nat → Nat) : Nat → Int32 → ST → ST → Option (ST × ST)
  | 0 => fun _ _ _ => none
  | n_11 + 1 => fun v4_11 p0_0w_11 p0_0_2w_11 => (if (p0_0w_11 0 0) ≤ v4_11 then some (p0_0w_11, p0_0_2w_11) else ((fX1_takeSteps p0_0w_11 v4_11).bind fun (o_2 : Int32 × ST) => ((fX0_unite_L34 p1 p2 p0_0_2n v4_11 NF (o_2.1) (o_2.2) p0_0_2w_11).bind fun (o34 : ST × ST) => (if ixb v4_11 60 = true then (if (((o34.1) 9) (nn v4_11)) = p2 then (if ixb v4_11 60 = true then (lt9 (upw (o34.1) 9 (nn v4_11) p1) fun (w35 : ST) => (fX0_unite_J203 (fX0_unite_L11 p1 p2 p0_0_2n n_11) v4_11 o34 w35)) else none) else (fX0_unite_J203 (fX0_unite_L11 p1 p2 p0_0_2n n_11) v4_11 o34 (o34.1))) else none))))
def fX0_unite (p1 : Int32) (p2 : Int32) (p0_0w : ST) (p0_0_2n : Nat → Nat) (p0_0_2w : ST) : Option (ST × ST) := ((fX0_unite_L11 p1 p2 p0_0_2n NF 0 p0_0w p0_0_2w).bind fun (o11 : ST × ST) => some ((o11.1), (o11.2)))
set_option maxHeartbeats 16000000 in
set_option maxRecDepth 100000 in
theorem kX0_unite {zs : Nat × Nat} (l : Launch) (dC : Nat → ClassId) (dI : Nat → Nat → Nat) (p0a : Nat → Nat) (p0k : Nat → ClassId) (p0n : Nat → Nat) (p0w : ST) (p1 : Int32) (p2 : Int32) (p0_0a : Nat → Nat) (p0_0k : Nat → ClassId) (p0_0n : Nat → Nat) (p0_0w : ST) (p0_0l : SL) (p0_0_2a : Nat → Nat) (p0_0_2k : Nat → ClassId) (p0_0_2n : Nat → Nat) (p0_0_2w : ST) (sz : Nat) (o : ST × ST) (hrun : fX0_unite p1 p2 p0_0w p0_0_2n p0_0_2w = some o) : Met l yX0_unite (wz yX0_unite cX0_unite 7 (Option.none : Option Jvm.ClassFile.FieldType)) ({ frames := 2, cells := 0, slots := 0, locals := 40 } : Room) (va_Pc [.ref (p0a 0), .int p1, .int p2] (PRE zs dC dI ((oX0 (p0a 0) p0a p0k p0n p0w) ++ (oX1 (p0a 1) p0_0a p0_0k p0_0n p0_0w p0_0l) ++ (oX9 (p0_0a 3) p0_0_2a p0_0_2k p0_0_2n p0_0_2w)) ((tX0 p0k) ++ (tX1 p0_0k) ++ (tX9 p0_0_2k)) sz)) (va_Qv (fun (_ : Unit) => True) (fun _ t => POST dC dI ((oX0 (p0a 0) p0a p0k p0n p0w) ++ (oX1 (p0a 1) p0_0a p0_0k p0_0n (o.1) p0_0l) ++ (oX9 (p0_0a 3) p0_0_2a p0_0_2k p0_0_2n (o.2))) ((tX0 p0k) ++ (tX1 p0_0k) ++ (tX9 p0_0_2k)) (va_A ((oX0 (p0a 0) p0a p0k p0n p0w) ++ (oX1 (p0a 1) p0_0a p0_0k p0_0n p0_0w p0_0l) ++ (oX9 (p0_0a 3) p0_0_2a p0_0_2k p0_0_2n p0_0_2w)) sz) t) (va_A ((oX0 (p0a 0) p0a p0k p0n p0w) ++ (oX1 (p0a 1) p0_0a p0_0k p0_0n p0_0w p0_0l) ++ (oX9 (p0_0a 3) p0_0_2a p0_0_2k p0_0_2n p0_0_2w)) sz)) 0 0 (va_A ((oX0 (p0a 0) p0a p0k p0n p0w) ++ (oX1 (p0a 1) p0_0a p0_0k p0_0n p0_0w p0_0l) ++ (oX9 (p0_0a 3) p0_0_2a p0_0_2k p0_0_2n p0_0_2w)) sz) := by
  refine Met.ofW (cc := cX0_unite) (maxL := 7) (ret := (Option.none : Option Jvm.ClassFile.FieldType)) (by decide) rfl ?_
  intro p e s m args below meth c s₁ B hml hv
  obtain ⟨rfl, hsz, hP, hK, hD0, hE⟩ := hv
  have hx := B.exec
  have hb := B.bytes
  have hr := B.returns
  have hts0 := atoms_spec (ws := wz yX0_unite cX0_unite 7 (Option.none : Option Jvm.ClassFile.FieldType)) B.pre
  have hts : ∀ w ∈ gw, w.before _ s = true := fun w h => hts0 w (List.mem_cons_of_mem _ h)
  have hown : s.vm.findClass RX0 = some m.cls := findClass_of_methodNamed B.named
  have hlocks := B.notSynchronized
  subst hsz
  have hD := hD0.self (sz := s.heap.size)
  refine gQ9 ?_
  intro Q hQ
  generalize hAe : va_A ((oX0 (p0a 0) p0a p0k p0n p0w) ++ (oX1 (p0a 1) p0_0a p0_0k p0_0n p0_0w p0_0l) ++ (oX9 (p0_0a 3) p0_0_2a p0_0_2k p0_0_2n p0_0_2w)) s.heap.size = A at hD hE hQ
  have hA : ∀ q : Nat, s.heap.size ≤ q → A q := fun q h => by rw [← hAe]; exact Or.inr h
  have hS : va_S A s.heap s.heap [] := va_S.rf
  have hP : va_P (dC, dI) cls ((oX0 (p0a 0) p0a p0k p0n p0w) ++ (oX1 (p0a 1) p0_0a p0_0k p0_0n p0_0w p0_0l) ++ (oX9 (p0_0a 3) p0_0_2a p0_0_2k p0_0_2n p0_0_2w)) s.heap := hP
  have hl := lv_entry ([.ref (p0a 0), .int p1, .int p2]) (n := 7) (Nat.le_of_ble_eq_true rfl)
  rw [lg_entry_eq]
  generalize (lg_sl ([.ref (p0a 0), .int p1, .int p2]) ++ List.replicate (7 - (lg_sl ([.ref (p0a 0), .int p1, .int p2])).length) Slot.unset).toArray = ls at hl ⊢
  have hl : lv_has ls 7 [(0, .ref (p0a 0)), (1, .int p1), (2, .int p2)] := hl
  obtain ⟨H, hHe⟩ : ∃ H, H = s.heap := ⟨_, rfl⟩
  obtain ⟨locs, hle⟩ : ∃ locs : List Loc, locs = [] := ⟨_, rfl⟩
  rw [← hHe] at hP
  have hS : va_S A s.heap H locs := by rw [hHe, hle]; exact hS
  show W p l e ({ frames := 2, cells := 0, slots := 0, locals := 40 } : Room) s m ([.ref (p0a 0), .int p1, .int p2] : List Value).toArray below meth c s.heap [] 0 0 Q (F0 m 0 ls [])
  rw [← hle]
  refine wH9 hHe ?_
  unfold fX0_unite at hrun
  refine lv_aload_n hx hb dX0_unite_0 rfl (lv_at hl 0 rfl) ?_
  refine va_get (D := (dC, dI)) (ci := 8) (v := .ref (p0a 1)) (C := RX0) (T := TX0) (N := 17) hx hb hts i_X0 hown hK hP 0 rfl rfl 0 (by decide) (hts _ qw618) (fun _ h9 => h9) rfl dX0_unite_1 ?_
  refine va_get (D := (dC, dI)) (ci := 4) (v := .ref (p0_0a 3)) (C := RX1) (T := TX1) (N := 21) hx hb hts i_X1 hown hK hP 9 rfl rfl 2 (by decide) (hts _ qw629) (fun _ h9 => h9) rfl dX0_unite_4 ?_
  refine lv_astore_n (lv' := [(3, .ref (p0_0a 3)), (0, .ref (p0a 0)), (1, .int p1), (2, .int p2)]) hx hb dX0_unite_7 rfl hl (by decide) rfl (fun ls hl => ?_)
  refine lv_iconst (v := 0) hx hb dX0_unite_8 (by decide) ?_
  refine lv_istore (lv' := [(4, .int 0), (3, .ref (p0_0a 3)), (0, .ref (p0a 0)), (1, .int p1), (2, .int p2)]) hx hb dX0_unite_9 hl (by decide) rfl (fun ls hl => ?_)
  have L11 : ∀ (n_11 : Nat) (v4_11 : Int32) (p0_0w_11 : ST) (p0_0_2w_11 : ST) (o11 : ST × ST) (H : Heap) (locs : List Loc) (ls : Array Slot), (fX0_unite_L11 p1 p2 p0_0_2n n_11) v4_11 p0_0w_11 p0_0_2w_11 = some o11 → va_P (dC, dI) cls ((oX0 (p0a 0) p0a p0k p0n p0w) ++ (oX1 (p0a 1) p0_0a p0_0k p0_0n p0_0w_11 p0_0l) ++ (oX9 (p0_0a 3) p0_0_2a p0_0_2k p0_0_2n p0_0_2w_11)) H → va_D A ((oX0 (p0a 0) p0a p0k p0n p0w) ++ (oX1 (p0a 1) p0_0a p0_0k p0_0n p0_0w_11 p0_0l) ++ (oX9 (p0_0a 3) p0_0_2a p0_0_2k p0_0_2n p0_0_2w_11)) → va_K (dC, dI) cls ((tX0 p0k) ++ (tX1 p0_0k) ++ (tX9 p0_0_2k)) s → va_S A s.heap H locs → lv_has ls 7 [(0, .ref (p0a 0)), (1, .int p1), (2, .int p2), (3, .ref (p0_0a 3)), (4, .int v4_11)] → (∀ (H : Heap) (locs : List Loc) (ls : Array Slot), va_P (dC, dI) cls ((oX0 (p0a 0) p0a p0k p0n p0w) ++ (oX1 (p0a 1) p0_0a p0_0k p0_0n (o11.1) p0_0l) ++ (oX9 (p0_0a 3) p0_0_2a p0_0_2k p0_0_2n (o11.2))) H → va_D A ((oX0 (p0a 0) p0a p0k p0n p0w) ++ (oX1 (p0a 1) p0_0a p0_0k p0_0n (o11.1) p0_0l) ++ (oX9 (p0_0a 3) p0_0_2a p0_0_2k p0_0_2n (o11.2))) → va_K (dC, dI) cls ((tX0 p0k) ++ (tX1 p0_0k) ++ (tX9 p0_0_2k)) s → va_S A s.heap H locs → lv_has ls 7 [] → W p l e ({ frames := 2, cells := 0, slots := 0, locals := 40 } : Room) s m ([.ref (p0a 0), .int p1, .int p2] : List Value).toArray below meth c H locs 0 0 Q (F0 m 209 ls [])) → W p l e ({ frames := 2, cells := 0, slots := 0, locals := 40 } : Room) s m ([.ref (p0a 0), .int p1, .int p2] : List Value).toArray below meth c H locs 0 0 Q (F0 m 11 ls []) := by
    intro n_11
    induction n_11 with
    | zero => intro v4_11 p0_0w_11 p0_0_2w_11 o11 H locs ls hrun; exact (no9 rfl hrun).elim
    | succ n_11 IH11 =>
      intro v4_11 p0_0w_11 p0_0_2w_11 o11 H locs ls hrun hP hD hK hS hl hk11
      unfold fX0_unite_L11 at hrun
      refine lv_iload hx hb dX0_unite_11 (lv_at hl 4 rfl) ?_
      refine lv_aload_n hx hb dX0_unite_13 rfl (lv_at hl 0 rfl) ?_
      refine va_get (D := (dC, dI)) (ci := 8) (v := .ref (p0a 1)) (C := RX0) (T := TX0) (N := 17) hx hb hts i_X0 hown hK hP 0 rfl rfl 0 (by decide) (hts _ qw618) (fun _ h9 => h9) rfl dX0_unite_14 ?_
      refine va_get (D := (dC, dI)) (ci := 4) (v := .int (p0_0w_11 0 0)) (C := RX1) (T := TX1) (N := 21) hx hb hts i_X1 hown hK hP 9 rfl rfl 0 (by decide) (hts _ qw642) (fun _ h9 => h9) rfl dX0_unite_17 ?_
      rcases br9 hrun with ⟨hc1, hrun⟩ | ⟨hc1, hrun⟩
      · refine lv_icmp_ge (tgt := 209) hx hb dX0_unite_20 (by decide) (fun _ => ?_) (fun c => absurd hc1 c)
        obtain rfl := (Option.some.inj hrun)
        exact hk11 _ _ _ hP hD hK hS (lv_sub hl [] rfl)
      · refine lv_icmp_ge (tgt := 209) hx hb dX0_unite_20 (by decide) (fun c => absurd c hc1) (fun _ => ?_)
        refine lv_aload_n hx hb dX0_unite_23 rfl (lv_at hl 0 rfl) ?_
        refine va_get (D := (dC, dI)) (ci := 8) (v := .ref (p0a 1)) (C := RX0) (T := TX0) (N := 17) hx hb hts i_X0 hown hK hP 0 rfl rfl 0 (by decide) (hts _ qw618) (fun _ h9 => h9) rfl dX0_unite_24 ?_
        refine lv_iload hx hb dX0_unite_27 (lv_at hl 4 rfl) ?_
        obtain ⟨o_2, hc_2, hrun⟩ := bnd9 hrun
        have hPc := hP.sub (ws' := (oX1 (p0a 1) p0_0a p0_0k p0_0n p0_0w_11 p0_0l)) [9, 10, 11, 12, 13, 14, 15, 16, 17, 18, 19, 20, 21, 22, 23, 24, 25, 26] rfl
        have hDc := hD.sub (ws' := (oX1 (p0a 1) p0_0a p0_0k p0_0n p0_0w_11 p0_0l)) [9, 10, 11, 12, 13, 14, 15, 16, 17, 18, 19, 20, 21, 22, 23, 24, 25, 26] (by decide) rfl
        have hKc := hK.sub (tys' := (tX1 p0_0k)) [8, 9, 10, 11, 12, 13, 14, 15, 16, 17, 18, 19, 20, 21, 22, 23, 24] rfl
        have hFc := va_free (wc := (oX1 (p0a 1) p0_0a p0_0k p0_0n p0_0w_11 p0_0l)) hD hS hA [9, 10, 11, 12, 13, 14, 15, 16, 17, 18, 19, 20, 21, 22, 23, 24, 25, 26] rfl
        refine va_calli (va_runV (As := [.int v4_11]) (rest := []) ⟨hx, hb, hml, hown, hts⟩ (kX1_takeSteps l dC dI (p0a := (st0 (p0a 1) p0_0a)) (p0k := p0_0k) (p0n := p0_0n) (p0w := p0_0w_11) (p0l := p0_0l) (p1 := v4_11) (sz := _) (o := o_2) (hrun := hc_2)) (cwV 1 hts (gi_V qw798 qw179 qw180 qw126 (gi_z qw177)) rfl rfl rfl (by decide +kernel) ⟨Nat.le_of_ble_eq_true rfl, Nat.le_of_ble_eq_true rfl⟩) ⟨PRE.blind, va_recv hKc hPc (ci := 4) (q0 := 0) rfl rfl, PRE.of hE hS hFc hPc hKc hDc⟩ rfl rfl hl.1 rfl (lv_room (Nat.le_of_ble_eq_true rfl)) dX0_unite_29 ⟨(Nat.le_of_ble_eq_true rfl), (Nat.le_of_ble_eq_true rfl)⟩) hS (fun q _ h => hFc q h) hFc (fun r3 u t H locs ht hvm hw hB hz1 hk1 hS => ?_)
        obtain ⟨hP, hD, hK⟩ := JOIN (wr := ((oX0 (p0a 0) p0a p0k p0n p0w) ++ (oX9 (p0_0a 3) p0_0_2a p0_0_2k p0_0_2n p0_0_2w_11))) hP hD hK [9, 10, 11, 12, 13, 14, 15, 16, 17, 18, 19, 20, 21, 22, 23, 24, 25, 26] [0, 1, 2, 3, 4, 5, 6, 7, 8, 27, 28, 29, 30, 31, 32] [0, 1, 2, 3, 4, 5, 6, 7, 25, 26, 27, 28, 29] rfl rfl (by decide) (by decide) rfl hk1 hFc ht hvm hB
        have hP : va_P (dC, dI) cls ((oX0 (p0a 0) p0a p0k p0n p0w) ++ (oX1 (p0a 1) p0_0a p0_0k p0_0n (o_2.2) p0_0l) ++ (oX9 (p0_0a 3) p0_0_2a p0_0_2k p0_0_2n p0_0_2w_11)) H := hP.sub [0, 1, 2, 3, 4, 5, 6, 7, 8, 15, 16, 17, 18, 19, 20, 21, 22, 23, 24, 25, 26, 27, 28, 29, 30, 31, 32, 9, 10, 11, 12, 13, 14] rfl
        have hD : va_D A ((oX0 (p0a 0) p0a p0k p0n p0w) ++ (oX1 (p0a 1) p0_0a p0_0k p0_0n (o_2.2) p0_0l) ++ (oX9 (p0_0a 3) p0_0_2a p0_0_2k p0_0_2n p0_0_2w_11)) := hD.sub [0, 1, 2, 3, 4, 5, 6, 7, 8, 15, 16, 17, 18, 19, 20, 21, 22, 23, 24, 25, 26, 27, 28, 29, 30, 31, 32, 9, 10, 11, 12, 13, 14] (by decide) rfl
        have hK : va_K (dC, dI) cls ((tX0 p0k) ++ (tX1 p0_0k) ++ (tX9 p0_0_2k)) s := hK.sub [0, 1, 2, 3, 4, 5, 6, 7, 13, 14, 15, 16, 17, 18, 19, 20, 21, 22, 23, 24, 25, 26, 27, 28, 29, 8, 9, 10, 11, 12] rfl
        obtain rfl : r3 = (o_2.1) := hw
        refine lv_istore (lv' := [(6, .int (o_2.1)), (0, .ref (p0a 0)), (1, .int p1), (2, .int p2), (3, .ref (p0_0a 3)), (4, .int v4_11)]) hx hb dX0_unite_32 hl (by decide) rfl (fun ls hl => ?_)
        have L34 : ∀ (n_34 : Nat) (v6_34 : Int32) (p0_0w_34 : ST) (p0_0_2w_34 : ST) (o34 : ST × ST) (H : Heap) (locs : List Loc) (ls : Array Slot), (fX0_unite_L34 p1 p2 p0_0_2n v4_11 n_34) v6_34 p0_0w_34 p0_0_2w_34 = some o34 → va_P (dC, dI) cls ((oX0 (p0a 0) p0a p0k p0n p0w) ++ (oX1 (p0a 1) p0_0a p0_0k p0_0n p0_0w_34 p0_0l) ++ (oX9 (p0_0a 3) p0_0_2a p0_0_2k p0_0_2n p0_0_2w_34)) H → va_D A ((oX0 (p0a 0) p0a p0k p0n p0w) ++ (oX1 (p0a 1) p0_0a p0_0k p0_0n p0_0w_34 p0_0l) ++ (oX9 (p0_0a 3) p0_0_2a p0_0_2k p0_0_2n p0_0_2w_34)) → va_K (dC, dI) cls ((tX0 p0k) ++ (tX1 p0_0k) ++ (tX9 p0_0_2k)) s → va_S A s.heap H locs → lv_has ls 7 [(0, .ref (p0a 0)), (1, .int p1), (2, .int p2), (3, .ref (p0_0a 3)), (4, .int v4_11), (6, .int v6_34)] → (∀ (H : Heap) (locs : List Loc) (ls : Array Slot), va_P (dC, dI) cls ((oX0 (p0a 0) p0a p0k p0n p0w) ++ (oX1 (p0a 1) p0_0a p0_0k p0_0n (o34.1) p0_0l) ++ (oX9 (p0_0a 3) p0_0_2a p0_0_2k p0_0_2n (o34.2))) H → va_D A ((oX0 (p0a 0) p0a p0k p0n p0w) ++ (oX1 (p0a 1) p0_0a p0_0k p0_0n (o34.1) p0_0l) ++ (oX9 (p0_0a 3) p0_0_2a p0_0_2k p0_0_2n (o34.2))) → va_K (dC, dI) cls ((tX0 p0k) ++ (tX1 p0_0k) ++ (tX9 p0_0_2k)) s → va_S A s.heap H locs → lv_has ls 7 [(0, .ref (p0a 0)), (1, .int p1), (2, .int p2), (3, .ref (p0_0a 3)), (4, .int v4_11)] → W p l e ({ frames := 2, cells := 0, slots := 0, locals := 40 } : Room) s m ([.ref (p0a 0), .int p1, .int p2] : List Value).toArray below meth c H locs 0 0 Q (F0 m 178 ls [])) → W p l e ({ frames := 2, cells := 0, slots := 0, locals := 40 } : Room) s m ([.ref (p0a 0), .int p1, .int p2] : List Value).toArray below meth c H locs 0 0 Q (F0 m 34 ls []) := by
          intro n_34
          induction n_34 with
          | zero => intro v6_34 p0_0w_34 p0_0_2w_34 o34 H locs ls hrun; exact (no9 rfl hrun).elim
          | succ n_34 IH34 =>
            intro v6_34 p0_0w_34 p0_0_2w_34 o34 H locs ls hrun hP hD hK hS hl hk34
            unfold fX0_unite_L34 at hrun
            refine lv_iload hx hb dX0_unite_34 (lv_at hl 5 rfl) ?_
            rcases br9 hrun with ⟨hc4, hrun⟩ | ⟨hc4, hrun⟩
            · refine lv_if_lt (tgt := 178) hx hb dX0_unite_36 (by decide) (fun _ => ?_) (fun c => absurd hc4 c)
              obtain rfl := (Option.some.inj hrun)
              exact hk34 _ _ _ hP hD hK hS (lv_sub hl [0, 1, 2, 3, 4] rfl)
            · refine lv_if_lt (tgt := 178) hx hb dX0_unite_36 (by decide) (fun c => absurd c hc4) (fun _ => ?_)
              refine lv_aload_n hx hb dX0_unite_39 rfl (lv_at hl 3 rfl) ?_
              refine va_get (D := (dC, dI)) (ci := 3) (v := .ref (p0_0_2a 6)) (C := RX9) (T := TX9) (N := 6) hx hb hts i_X9 hown hK hP 27 rfl rfl 5 (by decide) (hts _ qw795) (fun _ h9 => h9) rfl dX0_unite_40 ?_
              refine lv_iload hx hb dX0_unite_43 (lv_at hl 5 rfl) ?_
              obtain ⟨hq5, hrun⟩ := chk9 hrun
              refine va_iald hx hb hK hP 32 29 rfl rfl (ixb_in hq5) dX0_unite_45 ?_
              refine lv_istore (lv' := [(5, .int (p0_0_2w_34 6 (nn v6_34))), (0, .ref (p0a 0)), (1, .int p1), (2, .int p2), (3, .ref (p0_0a 3)), (4, .int v4_11), (6, .int v6_34)]) hx hb dX0_unite_46 hl (by decide) rfl (fun ls hl => ?_)
              refine lv_aload_n hx hb dX0_unite_48 rfl (lv_at hl 4 rfl) ?_
              refine va_get (D := (dC, dI)) (ci := 3) (v := .ref (p0_0_2a 3)) (C := RX9) (T := TX9) (N := 6) hx hb hts i_X9 hown hK hP 27 rfl rfl 2 (by decide) (hts _ qw636) (fun _ h9 => h9) rfl dX0_unite_49 ?_
              refine lv_iload hx hb dX0_unite_52 (lv_at hl 6 rfl) ?_
              obtain ⟨hq6, hrun⟩ := chk9 hrun
              refine va_iald hx hb hK hP 29 26 rfl rfl (ixb_in hq6) dX0_unite_54 ?_
              refine lv_iload_n hx hb dX0_unite_55 rfl (lv_at hl 3 rfl) ?_
              have J67 : ∀ (p0_0_2w_67 : ST) (H : Heap) (locs : List Loc) (ls : Array Slot), (fX0_unite_J67 (fX0_unite_L34 p1 p2 p0_0_2n v4_11 n_34) p1 p2 p0_0_2n v4_11 v6_34 p0_0w_34 p0_0_2w_34 p0_0_2w_67) = some o34 → va_P (dC, dI) cls ((oX0 (p0a 0) p0a p0k p0n p0w) ++ (oX1 (p0a 1) p0_0a p0_0k p0_0n p0_0w_34 p0_0l) ++ (oX9 (p0_0a 3) p0_0_2a p0_0_2k p0_0_2n p0_0_2w_67)) H → va_D A ((oX0 (p0a 0) p0a p0k p0n p0w) ++ (oX1 (p0a 1) p0_0a p0_0k p0_0n p0_0w_34 p0_0l) ++ (oX9 (p0_0a 3) p0_0_2a p0_0_2k p0_0_2n p0_0_2w_67)) → va_K (dC, dI) cls ((tX0 p0k) ++ (tX1 p0_0k) ++ (tX9 p0_0_2k)) s → va_S A s.heap H locs → lv_has ls 7 [(0, .ref (p0a 0)), (1, .int p1), (2, .int p2), (3, .ref (p0_0a 3)), (4, .int v4_11), (5, .int (p0_0_2w_34 6 (nn v6_34))), (6, .int v6_34)] → W p l e ({ frames := 2, cells := 0, slots := 0, locals := 40 } : Room) s m ([.ref (p0a 0), .int p1, .int p2] : List Value).toArray below meth c H locs 0 0 Q (F0 m 67 ls []) := by
                intro p0_0_2w_67 H locs ls hrun hP hD hK hS hl 
                unfold fX0_unite_J67 at hrun
                refine lv_aload_n hx hb dX0_unite_67 rfl (lv_at hl 3 rfl) ?_
                refine va_get (D := (dC, dI)) (ci := 3) (v := .ref (p0_0_2a 2)) (C := RX9) (T := TX9) (N := 6) hx hb hts i_X9 hown hK hP 27 rfl rfl 1 (by decide) (hts _ qw630) (fun _ h9 => h9) rfl dX0_unite_68 ?_
                refine lv_iload hx hb dX0_unite_71 (lv_at hl 6 rfl) ?_
                obtain ⟨hq7, hrun⟩ := chk9 hrun
                refine va_iald hx hb hK hP 28 25 rfl rfl (ixb_in hq7) dX0_unite_73 ?_
                obtain ⟨o_8, hc_8, hrun⟩ := bnd9 hrun
                have hPc := hP.sub (ws' := ([] : va_W)) [] rfl
                have hDc := hD.sub (ws' := ([] : va_W)) [] (by decide) rfl
                have hKc := hK.sub (tys' := ([] : List (ClassId × FieldType))) [] rfl
                have hFc := va_free (wc := ([] : va_W)) hD hS hA [] rfl
                refine va_calli (va_runSN (As := [.int (p0_0_2w_67 2 (nn v6_34))]) (rest := []) ⟨hx, hb, hml, hown, hts⟩ (kX11_usesLeft l dC dI (p0 := (p0_0_2w_67 2 (nn v6_34))) (sz := _) (o := o_8) (hrun := hc_8)) ⟨(va_cnB 1 hts (gi_z qw446) rfl rfl rfl (hE.nw (List.mem_append_right _ (tbl_9 (i := 64) rfl)) rfl) (hts _ qw129) (by decide +kernel) ⟨Nat.le_of_ble_eq_true rfl, Nat.le_of_ble_eq_true rfl⟩), (hts _ qw447), trivial⟩ ⟨PRE.blind, PRE.of hE hS hFc hPc hKc hDc⟩ rfl rfl hl.1 rfl (lv_room (Nat.le_of_ble_eq_true rfl)) dX0_unite_74 ⟨(Nat.le_of_ble_eq_true rfl), (Nat.le_of_ble_eq_true rfl)⟩) hS (fun q _ h => hFc q h) hFc (fun r9 u t H locs ht hvm hw hB hz1 hk1 hS => ?_)
                obtain ⟨hP, hD, hK⟩ := JOIN (wr := ((oX0 (p0a 0) p0a p0k p0n p0w) ++ (oX1 (p0a 1) p0_0a p0_0k p0_0n p0_0w_34 p0_0l) ++ (oX9 (p0_0a 3) p0_0_2a p0_0_2k p0_0_2n p0_0_2w_67))) hP hD hK [] [0, 1, 2, 3, 4, 5, 6, 7, 8, 9, 10, 11, 12, 13, 14, 15, 16, 17, 18, 19, 20, 21, 22, 23, 24, 25, 26, 27, 28, 29, 30, 31, 32] [0, 1, 2, 3, 4, 5, 6, 7, 8, 9, 10, 11, 12, 13, 14, 15, 16, 17, 18, 19, 20, 21, 22, 23, 24, 25, 26, 27, 28, 29] rfl rfl (by decide) (by decide) rfl hk1 hFc ht hvm hB
                have hP : va_P (dC, dI) cls ((oX0 (p0a 0) p0a p0k p0n p0w) ++ (oX1 (p0a 1) p0_0a p0_0k p0_0n p0_0w_34 p0_0l) ++ (oX9 (p0_0a 3) p0_0_2a p0_0_2k p0_0_2n p0_0_2w_67)) H := hP.sub [0, 1, 2, 3, 4, 5, 6, 7, 8, 9, 10, 11, 12, 13, 14, 15, 16, 17, 18, 19, 20, 21, 22, 23, 24, 25, 26, 27, 28, 29, 30, 31, 32] rfl
                have hD : va_D A ((oX0 (p0a 0) p0a p0k p0n p0w) ++ (oX1 (p0a 1) p0_0a p0_0k p0_0n p0_0w_34 p0_0l) ++ (oX9 (p0_0a 3) p0_0_2a p0_0_2k p0_0_2n p0_0_2w_67)) := hD.sub [0, 1, 2, 3, 4, 5, 6, 7, 8, 9, 10, 11, 12, 13, 14, 15, 16, 17, 18, 19, 20, 21, 22, 23, 24, 25, 26, 27, 28, 29, 30, 31, 32] (by decide) rfl
                have hK : va_K (dC, dI) cls ((tX0 p0k) ++ (tX1 p0_0k) ++ (tX9 p0_0_2k)) s := hK.sub [0, 1, 2, 3, 4, 5, 6, 7, 8, 9, 10, 11, 12, 13, 14, 15, 16, 17, 18, 19, 20, 21, 22, 23, 24, 25, 26, 27, 28, 29] rfl
                obtain rfl : o_8 = r9 := hw.symm
                have J99 : ∀ (p0_0_2w_99 : ST) (H : Heap) (locs : List Loc) (ls : Array Slot), (fX0_unite_J99 (fX0_unite_L34 p1 p2 p0_0_2n v4_11 n_34) p1 p2 p0_0_2n v4_11 v6_34 p0_0w_34 p0_0_2w_34 p0_0_2w_99) = some o34 → va_P (dC, dI) cls ((oX0 (p0a 0) p0a p0k p0n p0w) ++ (oX1 (p0a 1) p0_0a p0_0k p0_0n p0_0w_34 p0_0l) ++ (oX9 (p0_0a 3) p0_0_2a p0_0_2k p0_0_2n p0_0_2w_99)) H → va_D A ((oX0 (p0a 0) p0a p0k p0n p0w) ++ (oX1 (p0a 1) p0_0a p0_0k p0_0n p0_0w_34 p0_0l) ++ (oX9 (p0_0a 3) p0_0_2a p0_0_2k p0_0_2n p0_0_2w_99)) → va_K (dC, dI) cls ((tX0 p0k) ++ (tX1 p0_0k) ++ (tX9 p0_0_2k)) s → va_S A s.heap H locs → lv_has ls 7 [(0, .ref (p0a 0)), (1, .int p1), (2, .int p2), (3, .ref (p0_0a 3)), (4, .int v4_11), (5, .int (p0_0_2w_34 6 (nn v6_34))), (6, .int v6_34)] → W p l e ({ frames := 2, cells := 0, slots := 0, locals := 40 } : Room) s m ([.ref (p0a 0), .int p1, .int p2] : List Value).toArray below meth c H locs 0 0 Q (F0 m 99 ls []) := by
                  intro p0_0_2w_99 H locs ls hrun hP hD hK hS hl 
                  unfold fX0_unite_J99 at hrun
                  refine lv_aload_n hx hb dX0_unite_99 rfl (lv_at hl 3 rfl) ?_
                  refine va_get (D := (dC, dI)) (ci := 3) (v := .ref (p0_0_2a 2)) (C := RX9) (T := TX9) (N := 6) hx hb hts i_X9 hown hK hP 27 rfl rfl 1 (by decide) (hts _ qw630) (fun _ h9 => h9) rfl dX0_unite_100 ?_
                  refine lv_iload hx hb dX0_unite_103 (lv_at hl 6 rfl) ?_
                  obtain ⟨hq10, hrun⟩ := chk9 hrun
                  refine va_iald hx hb hK hP 28 25 rfl rfl (ixb_in hq10) dX0_unite_105 ?_
                  obtain ⟨o_11, hc_11, hrun⟩ := bnd9 hrun
                  have hPc := hP.sub (ws' := ([] : va_W)) [] rfl
                  have hDc := hD.sub (ws' := ([] : va_W)) [] (by decide) rfl
                  have hKc := hK.sub (tys' := ([] : List (ClassId × FieldType))) [] rfl
                  have hFc := va_free (wc := ([] : va_W)) hD hS hA [] rfl
                  refine va_calli (va_runSN (As := [.int (p0_0_2w_99 2 (nn v6_34))]) (rest := []) ⟨hx, hb, hml, hown, hts⟩ (kX11_usesRight l dC dI (p0 := (p0_0_2w_99 2 (nn v6_34))) (sz := _) (o := o_11) (hrun := hc_11)) ⟨(va_cnB 1 hts (gi_z qw351) rfl rfl rfl (hE.nw (List.mem_append_right _ (tbl_9 (i := 65) rfl)) rfl) (hts _ qw129) (by decide +kernel) ⟨Nat.le_of_ble_eq_true rfl, Nat.le_of_ble_eq_true rfl⟩), (hts _ qw352), trivial⟩ ⟨PRE.blind, PRE.of hE hS hFc hPc hKc hDc⟩ rfl rfl hl.1 rfl (lv_room (Nat.le_of_ble_eq_true rfl)) dX0_unite_106 ⟨(Nat.le_of_ble_eq_true rfl), (Nat.le_of_ble_eq_true rfl)⟩) hS (fun q _ h => hFc q h) hFc (fun r12 u t H locs ht hvm hw hB hz1 hk1 hS => ?_)
                  obtain ⟨hP, hD, hK⟩ := JOIN (wr := ((oX0 (p0a 0) p0a p0k p0n p0w) ++ (oX1 (p0a 1) p0_0a p0_0k p0_0n p0_0w_34 p0_0l) ++ (oX9 (p0_0a 3) p0_0_2a p0_0_2k p0_0_2n p0_0_2w_99))) hP hD hK [] [0, 1, 2, 3, 4, 5, 6, 7, 8, 9, 10, 11, 12, 13, 14, 15, 16, 17, 18, 19, 20, 21, 22, 23, 24, 25, 26, 27, 28, 29, 30, 31, 32] [0, 1, 2, 3, 4, 5, 6, 7, 8, 9, 10, 11, 12, 13, 14, 15, 16, 17, 18, 19, 20, 21, 22, 23, 24, 25, 26, 27, 28, 29] rfl rfl (by decide) (by decide) rfl hk1 hFc ht hvm hB
                  have hP : va_P (dC, dI) cls ((oX0 (p0a 0) p0a p0k p0n p0w) ++ (oX1 (p0a 1) p0_0a p0_0k p0_0n p0_0w_34 p0_0l) ++ (oX9 (p0_0a 3) p0_0_2a p0_0_2k p0_0_2n p0_0_2w_99)) H := hP.sub [0, 1, 2, 3, 4, 5, 6, 7, 8, 9, 10, 11, 12, 13, 14, 15, 16, 17, 18, 19, 20, 21, 22, 23, 24, 25, 26, 27, 28, 29, 30, 31, 32] rfl
                  have hD : va_D A ((oX0 (p0a 0) p0a p0k p0n p0w) ++ (oX1 (p0a 1) p0_0a p0_0k p0_0n p0_0w_34 p0_0l) ++ (oX9 (p0_0a 3) p0_0_2a p0_0_2k p0_0_2n p0_0_2w_99)) := hD.sub [0, 1, 2, 3, 4, 5, 6, 7, 8, 9, 10, 11, 12, 13, 14, 15, 16, 17, 18, 19, 20, 21, 22, 23, 24, 25, 26, 27, 28, 29, 30, 31, 32] (by decide) rfl
                  have hK : va_K (dC, dI) cls ((tX0 p0k) ++ (tX1 p0_0k) ++ (tX9 p0_0_2k)) s := hK.sub [0, 1, 2, 3, 4, 5, 6, 7, 8, 9, 10, 11, 12, 13, 14, 15, 16, 17, 18, 19, 20, 21, 22, 23, 24, 25, 26, 27, 28, 29] rfl
                  obtain rfl : o_11 = r12 := hw.symm
                  have J131 : ∀ (p0_0_2w_131 : ST) (H : Heap) (locs : List Loc) (ls : Array Slot), (fX0_unite_J131 (fX0_unite_L34 p1 p2 p0_0_2n v4_11 n_34) p0_0_2n v4_11 v6_34 p0_0w_34 p0_0_2w_34 p0_0_2w_131) = some o34 → va_P (dC, dI) cls ((oX0 (p0a 0) p0a p0k p0n p0w) ++ (oX1 (p0a 1) p0_0a p0_0k p0_0n p0_0w_34 p0_0l) ++ (oX9 (p0_0a 3) p0_0_2a p0_0_2k p0_0_2n p0_0_2w_131)) H → va_D A ((oX0 (p0a 0) p0a p0k p0n p0w) ++ (oX1 (p0a 1) p0_0a p0_0k p0_0n p0_0w_34 p0_0l) ++ (oX9 (p0_0a 3) p0_0_2a p0_0_2k p0_0_2n p0_0_2w_131)) → va_K (dC, dI) cls ((tX0 p0k) ++ (tX1 p0_0k) ++ (tX9 p0_0_2k)) s → va_S A s.heap H locs → lv_has ls 7 [(0, .ref (p0a 0)), (1, .int p1), (2, .int p2), (3, .ref (p0_0a 3)), (4, .int v4_11), (5, .int (p0_0_2w_34 6 (nn v6_34))), (6, .int v6_34)] → W p l e ({ frames := 2, cells := 0, slots := 0, locals := 40 } : Room) s m ([.ref (p0a 0), .int p1, .int p2] : List Value).toArray below meth c H locs 0 0 Q (F0 m 131 ls []) := by
                    intro p0_0_2w_131 H locs ls hrun hP hD hK hS hl 
                    unfold fX0_unite_J131 at hrun
                    refine lv_aload_n hx hb dX0_unite_131 rfl (lv_at hl 3 rfl) ?_
                    refine va_get (D := (dC, dI)) (ci := 3) (v := .ref (p0_0_2a 2)) (C := RX9) (T := TX9) (N := 6) hx hb hts i_X9 hown hK hP 27 rfl rfl 1 (by decide) (hts _ qw630) (fun _ h9 => h9) rfl dX0_unite_132 ?_
                    refine lv_iload hx hb dX0_unite_135 (lv_at hl 6 rfl) ?_
                    obtain ⟨hq13, hrun⟩ := chk9 hrun
                    refine va_iald hx hb hK hP 28 25 rfl rfl (ixb_in hq13) dX0_unite_137 ?_
                    refine lv_bipush (v := 25) hx hb dX0_unite_138 (by decide) ?_
                    have J171 : ∀ (p0_0w_171 : ST) (p0_0_2w_171 : ST) (H : Heap) (locs : List Loc) (ls : Array Slot), (fX0_unite_J171 (fX0_unite_L34 p1 p2 p0_0_2n v4_11 n_34) v6_34 p0_0_2w_34 p0_0w_171 p0_0_2w_171) = some o34 → va_P (dC, dI) cls ((oX0 (p0a 0) p0a p0k p0n p0w) ++ (oX1 (p0a 1) p0_0a p0_0k p0_0n p0_0w_171 p0_0l) ++ (oX9 (p0_0a 3) p0_0_2a p0_0_2k p0_0_2n p0_0_2w_171)) H → va_D A ((oX0 (p0a 0) p0a p0k p0n p0w) ++ (oX1 (p0a 1) p0_0a p0_0k p0_0n p0_0w_171 p0_0l) ++ (oX9 (p0_0a 3) p0_0_2a p0_0_2k p0_0_2n p0_0_2w_171)) → va_K (dC, dI) cls ((tX0 p0k) ++ (tX1 p0_0k) ++ (tX9 p0_0_2k)) s → va_S A s.heap H locs → lv_has ls 7 [(0, .ref (p0a 0)), (1, .int p1), (2, .int p2), (3, .ref (p0_0a 3)), (4, .int v4_11), (5, .int (p0_0_2w_34 6 (nn v6_34)))] → W p l e ({ frames := 2, cells := 0, slots := 0, locals := 40 } : Room) s m ([.ref (p0a 0), .int p1, .int p2] : List Value).toArray below meth c H locs 0 0 Q (F0 m 171 ls []) := by
                      intro p0_0w_171 p0_0_2w_171 H locs ls hrun hP hD hK hS hl 
                      unfold fX0_unite_J171 at hrun
                      refine lv_iload hx hb dX0_unite_171 (lv_at hl 5 rfl) ?_
                      refine lv_istore (lv' := [(6, .int (p0_0_2w_34 6 (nn v6_34))), (0, .ref (p0a 0)), (1, .int p1), (2, .int p2), (3, .ref (p0_0a 3)), (4, .int v4_11), (5, .int (p0_0_2w_34 6 (nn v6_34)))]) hx hb dX0_unite_173 hl (by decide) rfl (fun ls hl => ?_)
                      refine lv_goto (tgt := 34) hx hb dX0_unite_175 (by decide) ?_
                      exact IH34 (p0_0_2w_34 6 (nn v6_34)) p0_0w_171 p0_0_2w_171 o34 _ _ _ hrun hP hD hK hS (lv_sub hl [1, 2, 3, 4, 5, 0] rfl) hk34
                    have J160 : ∀ (H : Heap) (locs : List Loc) (ls : Array Slot), (fX0_unite_J160 (fX0_unite_L34 p1 p2 p0_0_2n v4_11 n_34) p0_0_2n v4_11 v6_34 p0_0w_34 p0_0_2w_34 p0_0_2w_131) = some o34 → va_P (dC, dI) cls ((oX0 (p0a 0) p0a p0k p0n p0w) ++ (oX1 (p0a 1) p0_0a p0_0k p0_0n p0_0w_34 p0_0l) ++ (oX9 (p0_0a 3) p0_0_2a p0_0_2k p0_0_2n p0_0_2w_131)) H → va_D A ((oX0 (p0a 0) p0a p0k p0n p0w) ++ (oX1 (p0a 1) p0_0a p0_0k p0_0n p0_0w_34 p0_0l) ++ (oX9 (p0_0a 3) p0_0_2a p0_0_2k p0_0_2n p0_0_2w_131)) → va_K (dC, dI) cls ((tX0 p0k) ++ (tX1 p0_0k) ++ (tX9 p0_0_2k)) s → va_S A s.heap H locs → lv_has ls 7 [(0, .ref (p0a 0)), (1, .int p1), (2, .int p2), (3, .ref (p0_0a 3)), (4, .int v4_11), (5, .int (p0_0_2w_34 6 (nn v6_34))), (6, .int v6_34)] → W p l e ({ frames := 2, cells := 0, slots := 0, locals := 40 } : Room) s m ([.ref (p0a 0), .int p1, .int p2] : List Value).toArray below meth c H locs 0 0 Q (F0 m 160 ls []) := by
                      intro  H locs ls hrun hP hD hK hS hl 
                      unfold fX0_unite_J160 at hrun
                      refine lv_aload_n hx hb dX0_unite_160 rfl (lv_at hl 0 rfl) ?_
                      refine va_get (D := (dC, dI)) (ci := 8) (v := .ref (p0a 1)) (C := RX0) (T := TX0) (N := 17) hx hb hts i_X0 hown hK hP 0 rfl rfl 0 (by decide) (hts _ qw618) (fun _ h9 => h9) rfl dX0_unite_161 ?_
                      refine lv_iload hx hb dX0_unite_164 (lv_at hl 4 rfl) ?_
                      refine lv_iload hx hb dX0_unite_166 (lv_at hl 6 rfl) ?_
                      obtain ⟨o_14, hc_14, hrun⟩ := bnd9 hrun
                      have hPc := hP.sub (ws' := ((oX1 (p0a 1) p0_0a p0_0k p0_0n p0_0w_34 p0_0l) ++ (oX9 (p0_0a 3) p0_0_2a p0_0_2k p0_0_2n p0_0_2w_131))) [9, 10, 11, 12, 13, 14, 15, 16, 17, 18, 19, 20, 21, 22, 23, 24, 25, 26, 27, 28, 29, 30, 31, 32] rfl
                      have hDc := hD.sub (ws' := ((oX1 (p0a 1) p0_0a p0_0k p0_0n p0_0w_34 p0_0l) ++ (oX9 (p0_0a 3) p0_0_2a p0_0_2k p0_0_2n p0_0_2w_131))) [9, 10, 11, 12, 13, 14, 15, 16, 17, 18, 19, 20, 21, 22, 23, 24, 25, 26, 27, 28, 29, 30, 31, 32] (by decide) rfl
                      have hKc := hK.sub (tys' := ((tX1 p0_0k) ++ (tX9 p0_0_2k))) [8, 9, 10, 11, 12, 13, 14, 15, 16, 17, 18, 19, 20, 21, 22, 23, 24, 25, 26, 27, 28, 29] rfl
                      have hFc := va_free (wc := ((oX1 (p0a 1) p0_0a p0_0k p0_0n p0_0w_34 p0_0l) ++ (oX9 (p0_0a 3) p0_0_2a p0_0_2k p0_0_2n p0_0_2w_131))) hD hS hA [9, 10, 11, 12, 13, 14, 15, 16, 17, 18, 19, 20, 21, 22, 23, 24, 25, 26, 27, 28, 29, 30, 31, 32] rfl
                      refine va_callv (va_runV (As := [.int v4_11, .int v6_34]) (rest := []) ⟨hx, hb, hml, hown, hts⟩ (kX1_link l dC dI (p0a := (st0 (p0a 1) p0_0a)) (p0k := p0_0k) (p0n := p0_0n) (p0w := p0_0w_34) (p0l := p0_0l) (p1 := v4_11) (p2 := v6_34) (p0_2a := p0_0_2a) (p0_2k := p0_0_2k) (p0_2n := p0_0_2n) (p0_2w := p0_0_2w_131) (sz := _) (o := o_14) (hrun := hc_14)) (cwV 2 hts (gi_V qw799 qw141 qw142 qw126 (gi_z qw139)) rfl rfl rfl (by decide +kernel) ⟨Nat.le_of_ble_eq_true rfl, Nat.le_of_ble_eq_true rfl⟩) ⟨PRE.blind, va_recv hKc hPc (ci := 4) (q0 := 0) rfl rfl, PRE.of hE hS hFc hPc hKc hDc⟩ rfl rfl hl.1 rfl (lv_room (Nat.le_of_ble_eq_true rfl)) dX0_unite_168 ⟨(Nat.le_of_ble_eq_true rfl), (Nat.le_of_ble_eq_true rfl)⟩) hS (fun q _ h => hFc q h) hFc (fun u t H locs ht hvm hw hB hz1 hk1 hS => ?_)
                      obtain ⟨hP, hD, hK⟩ := JOIN (wr := (oX0 (p0a 0) p0a p0k p0n p0w)) hP hD hK [9, 10, 11, 12, 13, 14, 15, 16, 17, 18, 19, 20, 21, 22, 23, 24, 25, 26, 27, 28, 29, 30, 31, 32] [0, 1, 2, 3, 4, 5, 6, 7, 8] [0, 1, 2, 3, 4, 5, 6, 7] rfl rfl (by decide) (by decide) rfl hk1 hFc ht hvm hB
                      have hP : va_P (dC, dI) cls ((oX0 (p0a 0) p0a p0k p0n p0w) ++ (oX1 (p0a 1) p0_0a p0_0k p0_0n (o_14.1) p0_0l) ++ (oX9 (p0_0a 3) p0_0_2a p0_0_2k p0_0_2n (o_14.2))) H := hP.sub [0, 1, 2, 3, 4, 5, 6, 7, 8, 9, 10, 11, 12, 13, 14, 15, 16, 17, 18, 19, 20, 21, 22, 23, 24, 25, 26, 27, 28, 29, 30, 31, 32] rfl
                      have hD : va_D A ((oX0 (p0a 0) p0a p0k p0n p0w) ++ (oX1 (p0a 1) p0_0a p0_0k p0_0n (o_14.1) p0_0l) ++ (oX9 (p0_0a 3) p0_0_2a p0_0_2k p0_0_2n (o_14.2))) := hD.sub [0, 1, 2, 3, 4, 5, 6, 7, 8, 9, 10, 11, 12, 13, 14, 15, 16, 17, 18, 19, 20, 21, 22, 23, 24, 25, 26, 27, 28, 29, 30, 31, 32] (by decide) rfl
                      have hK : va_K (dC, dI) cls ((tX0 p0k) ++ (tX1 p0_0k) ++ (tX9 p0_0_2k)) s := hK.sub [0, 1, 2, 3, 4, 5, 6, 7, 8, 9, 10, 11, 12, 13, 14, 15, 16, 17, 18, 19, 20, 21, 22, 23, 24, 25, 26, 27, 28, 29] rfl
                      exact J171 (o_14.1) (o_14.2) _ _ _ hrun hP hD hK hS (lv_sub hl [0, 1, 2, 3, 4, 5] rfl)
                    rcases br9 hrun with ⟨hc15, hrun⟩ | ⟨hc15, hrun⟩
                    · refine lv_icmp_ne (tgt := 160) hx hb dX0_unite_140 (by decide) (fun c => absurd hc15 c) (fun _ => ?_)
                      refine lv_aload_n hx hb dX0_unite_143 rfl (lv_at hl 3 rfl) ?_
                      refine va_get (D := (dC, dI)) (ci := 3) (v := .ref (p0_0_2a 3)) (C := RX9) (T := TX9) (N := 6) hx hb hts i_X9 hown hK hP 27 rfl rfl 2 (by decide) (hts _ qw636) (fun _ h9 => h9) rfl dX0_unite_144 ?_
                      refine lv_iload hx hb dX0_unite_147 (lv_at hl 6 rfl) ?_
                      obtain ⟨hq16, hrun⟩ := chk9 hrun
                      refine va_iald hx hb hK hP 29 26 rfl rfl (ixb_in hq16) dX0_unite_149 ?_
                      refine lv_aload_n hx hb dX0_unite_150 rfl (lv_at hl 3 rfl) ?_
                      refine va_get (D := (dC, dI)) (ci := 3) (v := .ref (p0_0_2a 4)) (C := RX9) (T := TX9) (N := 6) hx hb hts i_X9 hown hK hP 27 rfl rfl 3 (by decide) (hts _ qw631) (fun _ h9 => h9) rfl dX0_unite_151 ?_
                      refine lv_iload hx hb dX0_unite_154 (lv_at hl 6 rfl) ?_
                      obtain ⟨hq17, hrun⟩ := chk9 hrun
                      refine va_iald hx hb hK hP 30 27 rfl rfl (ixb_in hq17) dX0_unite_156 ?_
                      rcases br9 hrun with ⟨hc18, hrun⟩ | ⟨hc18, hrun⟩
                      · refine lv_icmp_eq (tgt := 171) hx hb dX0_unite_157 (by decide) (fun _ => ?_) (fun c => absurd hc18 c)
                        exact J171 p0_0w_34 p0_0_2w_131 _ _ _ hrun hP hD hK hS (lv_sub hl [0, 1, 2, 3, 4, 5] rfl)
                      · refine lv_icmp_eq (tgt := 171) hx hb dX0_unite_157 (by decide) (fun c => absurd c hc18) (fun _ => ?_)
                        exact J160 _ _ _ hrun hP hD hK hS (lv_sub hl [0, 1, 2, 3, 4, 5, 6] rfl)
                    · refine lv_icmp_ne (tgt := 160) hx hb dX0_unite_140 (by decide) (fun _ => ?_) (fun c => absurd c hc15)
                      exact J160 _ _ _ hrun hP hD hK hS (lv_sub hl [0, 1, 2, 3, 4, 5, 6] rfl)
                  rcases br9 hrun with ⟨hc19, hrun⟩ | ⟨hc19, hrun⟩
                  · refine lv_if_eq (tgt := 131) hx hb dX0_unite_109 (by decide) (fun _ => ?_) (fun c => absurd hc19 c)
                    exact J131 p0_0_2w_99 _ _ _ hrun hP hD hK hS (lv_sub hl [0, 1, 2, 3, 4, 5, 6] rfl)
                  · refine lv_if_eq (tgt := 131) hx hb dX0_unite_109 (by decide) (fun c => absurd c hc19) (fun _ => ?_)
                    refine lv_aload_n hx hb dX0_unite_112 rfl (lv_at hl 3 rfl) ?_
                    refine va_get (D := (dC, dI)) (ci := 3) (v := .ref (p0_0_2a 5)) (C := RX9) (T := TX9) (N := 6) hx hb hts i_X9 hown hK hP 27 rfl rfl 4 (by decide) (hts _ qw800) (fun _ h9 => h9) rfl dX0_unite_113 ?_
                    refine lv_iload hx hb dX0_unite_116 (lv_at hl 6 rfl) ?_
                    obtain ⟨hq20, hrun⟩ := chk9 hrun
                    refine va_iald hx hb hK hP 31 28 rfl rfl (ixb_in hq20) dX0_unite_118 ?_
                    refine lv_iload_n hx hb dX0_unite_119 rfl (lv_at hl 2 rfl) ?_
                    rcases br9 hrun with ⟨hc21, hrun⟩ | ⟨hc21, hrun⟩
                    · refine lv_icmp_ne (tgt := 131) hx hb dX0_unite_120 (by decide) (fun c => absurd hc21 c) (fun _ => ?_)
                      refine lv_aload_n hx hb dX0_unite_123 rfl (lv_at hl 3 rfl) ?_
                      refine va_get (D := (dC, dI)) (ci := 3) (v := .ref (p0_0_2a 5)) (C := RX9) (T := TX9) (N := 6) hx hb hts i_X9 hown hK hP 27 rfl rfl 4 (by decide) (hts _ qw800) (fun _ h9 => h9) rfl dX0_unite_124 ?_
                      refine lv_iload hx hb dX0_unite_127 (lv_at hl 6 rfl) ?_
                      refine lv_iload_n hx hb dX0_unite_129 rfl (lv_at hl 1 rfl) ?_
                      obtain ⟨hq22, hrun⟩ := chk9 hrun
                      refine va_iast hx hb hK hP hD hS 31 28 rfl rfl (ixb_in hq22) dX0_unite_130 (fun H locs hP hD hS => ?_)
                      have hP : va_P (dC, dI) cls ((oX0 (p0a 0) p0a p0k p0n p0w) ++ (oX1 (p0a 1) p0_0a p0_0k p0_0n p0_0w_34 p0_0l) ++ (oX9 (p0_0a 3) p0_0_2a p0_0_2k p0_0_2n (upw p0_0_2w_99 5 (nn v6_34) p1))) H := hP
                      have hD : va_D A ((oX0 (p0a 0) p0a p0k p0n p0w) ++ (oX1 (p0a 1) p0_0a p0_0k p0_0n p0_0w_34 p0_0l) ++ (oX9 (p0_0a 3) p0_0_2a p0_0_2k p0_0_2n (upw p0_0_2w_99 5 (nn v6_34) p1))) := hD
                      obtain ⟨w23, ew23, hrun⟩ := let9 hrun
                      rw [← ew23] at hP hD
                      exact J131 w23 _ _ _ hrun hP hD hK hS (lv_sub hl [0, 1, 2, 3, 4, 5, 6] rfl)
                    · refine lv_icmp_ne (tgt := 131) hx hb dX0_unite_120 (by decide) (fun _ => ?_) (fun c => absurd c hc21)
                      exact J131 p0_0_2w_99 _ _ _ hrun hP hD hK hS (lv_sub hl [0, 1, 2, 3, 4, 5, 6] rfl)
                rcases br9 hrun with ⟨hc24, hrun⟩ | ⟨hc24, hrun⟩
                · refine lv_if_eq (tgt := 99) hx hb dX0_unite_77 (by decide) (fun _ => ?_) (fun c => absurd hc24 c)
                  exact J99 p0_0_2w_67 _ _ _ hrun hP hD hK hS (lv_sub hl [0, 1, 2, 3, 4, 5, 6] rfl)
                · refine lv_if_eq (tgt := 99) hx hb dX0_unite_77 (by decide) (fun c => absurd c hc24) (fun _ => ?_)
                  refine lv_aload_n hx hb dX0_unite_80 rfl (lv_at hl 3 rfl) ?_
                  refine va_get (D := (dC, dI)) (ci := 3) (v := .ref (p0_0_2a 4)) (C := RX9) (T := TX9) (N := 6) hx hb hts i_X9 hown hK hP 27 rfl rfl 3 (by decide) (hts _ qw631) (fun _ h9 => h9) rfl dX0_unite_81 ?_
                  refine lv_iload hx hb dX0_unite_84 (lv_at hl 6 rfl) ?_
                  obtain ⟨hq25, hrun⟩ := chk9 hrun
                  refine va_iald hx hb hK hP 30 27 rfl rfl (ixb_in hq25) dX0_unite_86 ?_
                  refine lv_iload_n hx hb dX0_unite_87 rfl (lv_at hl 2 rfl) ?_
                  rcases br9 hrun with ⟨hc26, hrun⟩ | ⟨hc26, hrun⟩
                  · refine lv_icmp_ne (tgt := 99) hx hb dX0_unite_88 (by decide) (fun c => absurd hc26 c) (fun _ => ?_)
                    refine lv_aload_n hx hb dX0_unite_91 rfl (lv_at hl 3 rfl) ?_
                    refine va_get (D := (dC, dI)) (ci := 3) (v := .ref (p0_0_2a 4)) (C := RX9) (T := TX9) (N := 6) hx hb hts i_X9 hown hK hP 27 rfl rfl 3 (by decide) (hts _ qw631) (fun _ h9 => h9) rfl dX0_unite_92 ?_
                    refine lv_iload hx hb dX0_unite_95 (lv_at hl 6 rfl) ?_
                    refine lv_iload_n hx hb dX0_unite_97 rfl (lv_at hl 1 rfl) ?_
                    obtain ⟨hq27, hrun⟩ := chk9 hrun
                    refine va_iast hx hb hK hP hD hS 30 27 rfl rfl (ixb_in hq27) dX0_unite_98 (fun H locs hP hD hS => ?_)
                    have hP : va_P (dC, dI) cls ((oX0 (p0a 0) p0a p0k p0n p0w) ++ (oX1 (p0a 1) p0_0a p0_0k p0_0n p0_0w_34 p0_0l) ++ (oX9 (p0_0a 3) p0_0_2a p0_0_2k p0_0_2n (upw p0_0_2w_67 4 (nn v6_34) p1))) H := hP
                    have hD : va_D A ((oX0 (p0a 0) p0a p0k p0n p0w) ++ (oX1 (p0a 1) p0_0a p0_0k p0_0n p0_0w_34 p0_0l) ++ (oX9 (p0_0a 3) p0_0_2a p0_0_2k p0_0_2n (upw p0_0_2w_67 4 (nn v6_34) p1))) := hD
                    obtain ⟨w28, ew28, hrun⟩ := let9 hrun
                    rw [← ew28] at hP hD
                    exact J99 w28 _ _ _ hrun hP hD hK hS (lv_sub hl [0, 1, 2, 3, 4, 5, 6] rfl)
                  · refine lv_icmp_ne (tgt := 99) hx hb dX0_unite_88 (by decide) (fun _ => ?_) (fun c => absurd c hc26)
                    exact J99 p0_0_2w_67 _ _ _ hrun hP hD hK hS (lv_sub hl [0, 1, 2, 3, 4, 5, 6] rfl)
              rcases br9 hrun with ⟨hc29, hrun⟩ | ⟨hc29, hrun⟩
              · refine lv_icmp_ne (tgt := 67) hx hb dX0_unite_56 (by decide) (fun c => absurd hc29 c) (fun _ => ?_)
                refine lv_aload_n hx hb dX0_unite_59 rfl (lv_at hl 4 rfl) ?_
                refine va_get (D := (dC, dI)) (ci := 3) (v := .ref (p0_0_2a 3)) (C := RX9) (T := TX9) (N := 6) hx hb hts i_X9 hown hK hP 27 rfl rfl 2 (by decide) (hts _ qw636) (fun _ h9 => h9) rfl dX0_unite_60 ?_
                refine lv_iload hx hb dX0_unite_63 (lv_at hl 6 rfl) ?_
                refine lv_iload_n hx hb dX0_unite_65 rfl (lv_at hl 2 rfl) ?_
                obtain ⟨hq30, hrun⟩ := chk9 hrun
                refine va_iast hx hb hK hP hD hS 29 26 rfl rfl (ixb_in hq30) dX0_unite_66 (fun H locs hP hD hS => ?_)
                have hP : va_P (dC, dI) cls ((oX0 (p0a 0) p0a p0k p0n p0w) ++ (oX1 (p0a 1) p0_0a p0_0k p0_0n p0_0w_34 p0_0l) ++ (oX9 (p0_0a 3) p0_0_2a p0_0_2k p0_0_2n (upw p0_0_2w_34 3 (nn v6_34) p1))) H := hP
                have hD : va_D A ((oX0 (p0a 0) p0a p0k p0n p0w) ++ (oX1 (p0a 1) p0_0a p0_0k p0_0n p0_0w_34 p0_0l) ++ (oX9 (p0_0a 3) p0_0_2a p0_0_2k p0_0_2n (upw p0_0_2w_34 3 (nn v6_34) p1))) := hD
                obtain ⟨w31, ew31, hrun⟩ := let9 hrun
                rw [← ew31] at hP hD
                exact J67 w31 _ _ _ hrun hP hD hK hS (lv_sub hl [1, 2, 3, 4, 5, 0, 6] rfl)
              · refine lv_icmp_ne (tgt := 67) hx hb dX0_unite_56 (by decide) (fun _ => ?_) (fun c => absurd c hc29)
                exact J67 p0_0_2w_34 _ _ _ hrun hP hD hK hS (lv_sub hl [1, 2, 3, 4, 5, 0, 6] rfl)
        obtain ⟨o34, hc34, hrun⟩ := bnd9 hrun
        refine L34 NF (o_2.1) (o_2.2) p0_0_2w_11 o34 _ _ _ hc34 hP hD hK hS (lv_sub hl [1, 2, 3, 4, 5, 0] rfl) ?_
        intro H locs ls hP hD hK hS hl
        have hl := hl
        refine lv_aload_n hx hb dX0_unite_178 rfl (lv_at hl 0 rfl) ?_
        refine va_get (D := (dC, dI)) (ci := 8) (v := .ref (p0a 1)) (C := RX0) (T := TX0) (N := 17) hx hb hts i_X0 hown hK hP 0 rfl rfl 0 (by decide) (hts _ qw618) (fun _ h9 => h9) rfl dX0_unite_179 ?_
        refine va_get (D := (dC, dI)) (ci := 4) (v := .ref (p0_0a 9)) (C := RX1) (T := TX1) (N := 21) hx hb hts i_X1 hown hK hP 9 rfl rfl 8 (by decide) (hts _ qw801) (fun _ h9 => h9) rfl dX0_unite_182 ?_
        refine lv_iload hx hb dX0_unite_185 (lv_at hl 4 rfl) ?_
        obtain ⟨hq32, hrun⟩ := chk9 hrun
        refine va_iald hx hb hK hP 15 13 rfl rfl (ixb_in hq32) dX0_unite_187 ?_
        refine lv_iload_n hx hb dX0_unite_188 rfl (lv_at hl 2 rfl) ?_
        have J203 : ∀ (p0_0w_203 : ST) (H : Heap) (locs : List Loc) (ls : Array Slot), (fX0_unite_J203 (fX0_unite_L11 p1 p2 p0_0_2n n_11) v4_11 o34 p0_0w_203) = some o11 → va_P (dC, dI) cls ((oX0 (p0a 0) p0a p0k p0n p0w) ++ (oX1 (p0a 1) p0_0a p0_0k p0_0n p0_0w_203 p0_0l) ++ (oX9 (p0_0a 3) p0_0_2a p0_0_2k p0_0_2n (o34.2))) H → va_D A ((oX0 (p0a 0) p0a p0k p0n p0w) ++ (oX1 (p0a 1) p0_0a p0_0k p0_0n p0_0w_203 p0_0l) ++ (oX9 (p0_0a 3) p0_0_2a p0_0_2k p0_0_2n (o34.2))) → va_K (dC, dI) cls ((tX0 p0k) ++ (tX1 p0_0k) ++ (tX9 p0_0_2k)) s → va_S A s.heap H locs → lv_has ls 7 [(0, .ref (p0a 0)), (1, .int p1), (2, .int p2), (3, .ref (p0_0a 3)), (4, .int v4_11)] → W p l e ({ frames := 2, cells := 0, slots := 0, locals := 40 } : Room) s m ([.ref (p0a 0), .int p1, .int p2] : List Value).toArray below meth c H locs 0 0 Q (F0 m 203 ls []) := by
          intro p0_0w_203 H locs ls hrun hP hD hK hS hl 
          unfold fX0_unite_J203 at hrun
          refine lv_iinc (v := (v4_11 + 1)) (lv' := [(4, .int (v4_11 + 1)), (0, .ref (p0a 0)), (1, .int p1), (2, .int p2), (3, .ref (p0_0a 3))]) hx hb dX0_unite_203 hl (k := 4) rfl rfl (by decide) rfl (fun ls hl => ?_)
          refine lv_goto (tgt := 11) hx hb dX0_unite_206 (by decide) ?_
          exact IH11 (v4_11 + 1) p0_0w_203 (o34.2) o11 _ _ _ hrun hP hD hK hS (lv_sub hl [1, 2, 3, 4, 0] rfl) hk11
        rcases br9 hrun with ⟨hc33, hrun⟩ | ⟨hc33, hrun⟩
        · refine lv_icmp_ne (tgt := 203) hx hb dX0_unite_189 (by decide) (fun c => absurd hc33 c) (fun _ => ?_)
          refine lv_aload_n hx hb dX0_unite_192 rfl (lv_at hl 0 rfl) ?_
          refine va_get (D := (dC, dI)) (ci := 8) (v := .ref (p0a 1)) (C := RX0) (T := TX0) (N := 17) hx hb hts i_X0 hown hK hP 0 rfl rfl 0 (by decide) (hts _ qw618) (fun _ h9 => h9) rfl dX0_unite_193 ?_
          refine va_get (D := (dC, dI)) (ci := 4) (v := .ref (p0_0a 9)) (C := RX1) (T := TX1) (N := 21) hx hb hts i_X1 hown hK hP 9 rfl rfl 8 (by decide) (hts _ qw801) (fun _ h9 => h9) rfl dX0_unite_196 ?_
          refine lv_iload hx hb dX0_unite_199 (lv_at hl 4 rfl) ?_
          refine lv_iload_n hx hb dX0_unite_201 rfl (lv_at hl 1 rfl) ?_
          obtain ⟨hq34, hrun⟩ := chk9 hrun
          refine va_iast hx hb hK hP hD hS 15 13 rfl rfl (ixb_in hq34) dX0_unite_202 (fun H locs hP hD hS => ?_)
          have hP : va_P (dC, dI) cls ((oX0 (p0a 0) p0a p0k p0n p0w) ++ (oX1 (p0a 1) p0_0a p0_0k p0_0n (upw (o34.1) 9 (nn v4_11) p1) p0_0l) ++ (oX9 (p0_0a 3) p0_0_2a p0_0_2k p0_0_2n (o34.2))) H := hP
          have hD : va_D A ((oX0 (p0a 0) p0a p0k p0n p0w) ++ (oX1 (p0a 1) p0_0a p0_0k p0_0n (upw (o34.1) 9 (nn v4_11) p1) p0_0l) ++ (oX9 (p0_0a 3) p0_0_2a p0_0_2k p0_0_2n (o34.2))) := hD
          obtain ⟨w35, ew35, hrun⟩ := let9 hrun
          rw [← ew35] at hP hD
          exact J203 w35 _ _ _ hrun hP hD hK hS (lv_sub hl [0, 1, 2, 3, 4] rfl)
        · refine lv_icmp_ne (tgt := 203) hx hb dX0_unite_189 (by decide) (fun _ => ?_) (fun c => absurd c hc33)
          exact J203 (o34.1) _ _ _ hrun hP hD hK hS (lv_sub hl [0, 1, 2, 3, 4] rfl)
  obtain ⟨o11, hc11, hrun⟩ := bnd9 hrun
  refine L11 NF 0 p0_0w p0_0_2w o11 _ _ _ hc11 hP hD hK hS (lv_sub hl [2, 3, 4, 1, 0] rfl) ?_
  intro H locs ls hP hD hK hS hl
  have hl := hl
  have ho9 : ((o11.1), (o11.2)) = o := Option.some.inj hrun
  have hP9 : va_P (dC, dI) cls ((oX0 (p0a 0) p0a p0k p0n p0w) ++ (oX1 (p0a 1) p0_0a p0_0k p0_0n (o.1) p0_0l) ++ (oX9 (p0_0a 3) p0_0_2a p0_0_2k p0_0_2n (o.2))) H := by first | exact hP | (rw [← ho9]; exact hP)
  have hD9 : va_D A ((oX0 (p0a 0) p0a p0k p0n p0w) ++ (oX1 (p0a 1) p0_0a p0_0k p0_0n (o.1) p0_0l) ++ (oX9 (p0_0a 3) p0_0_2a p0_0_2k p0_0_2n (o.2))) := by first | exact hD | (rw [← ho9]; exact hD)
  subst hQ
  exact W.vret hx hb hr (fun t ht hW => ⟨⟨(), rfl, trivial, ⟨by rw [ht]; exact hP9, va_K.moved hW.alike hK, hD9⟩⟩, hS.F ht⟩) hS.2.2 dX0_unite_209
