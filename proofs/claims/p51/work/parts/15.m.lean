abbrev cX2_colour : ByteArray := prog_4_method_20_code
def yX2_colour : MethodName := ⟨RX2, "colour", "(LGearbox$Flow;I)Z"⟩
abbrev cX2_nextToTake : ByteArray := prog_4_method_22_code
def yX2_nextToTake : MethodName := ⟨RX2, "nextToTake", "(I)I"⟩
abbrev cX2_takeAway : ByteArray := prog_4_method_23_code
def yX2_takeAway : MethodName := ⟨RX2, "takeAway", "(I)V"⟩
abbrev cX2_lowerLeft : ByteArray := prog_4_method_24_code
def yX2_lowerLeft : MethodName := ⟨RX2, "lowerLeft", "(I)V"⟩
abbrev cX2_freeRegister : ByteArray := prog_4_method_25_code
def yX2_freeRegister : MethodName := ⟨RX2, "freeRegister", "(II)I"⟩
abbrev cX2_registerBit : ByteArray := prog_4_method_26_code
def yX2_registerBit : MethodName := ⟨RX2, "registerBit", "(I)I"⟩
abbrev cX2_countDegrees : ByteArray := prog_4_method_18_code
def yX2_countDegrees : MethodName := ⟨RX2, "countDegrees", "()V"⟩
abbrev cX2_meet : ByteArray := prog_4_method_15_code
def yX2_meet : MethodName := ⟨RX2, "meet", "(II)V"⟩
abbrev cX2_mirror : ByteArray := prog_4_method_17_code
def yX2_mirror : MethodName := ⟨RX2, "mirror", "()V"⟩
abbrev cX2_noteBlock : ByteArray := prog_4_method_4_code
def yX2_noteBlock : MethodName := ⟨RX2, "noteBlock", "(LGearbox$Flow;I)V"⟩
abbrev cX2_noteUse : ByteArray := prog_4_method_5_code
def yX2_noteUse : MethodName := ⟨RX2, "noteUse", "(II)V"⟩
theorem dX2_colour_0 : decode cX2_colour 0 = .ok (.aload_n 0, 1) := by decide +kernel
theorem dX2_colour_1 : decode cX2_colour 1 = .ok (.aload_n 1, 1) := by decide +kernel
theorem dX2_colour_2 : decode cX2_colour 2 = .ok (.invokevirtual 212, 3) := by decide +kernel
theorem dX2_colour_5 : decode cX2_colour 5 = .ok (.iconst 0, 1) := by decide +kernel
theorem dX2_colour_6 : decode cX2_colour 6 = .ok (.istore_n 3, 1) := by decide +kernel
theorem dX2_colour_7 : decode cX2_colour 7 = .ok (.iconst 0, 1) := by decide +kernel
theorem dX2_colour_8 : decode cX2_colour 8 = .ok (.istore 4, 2) := by decide +kernel
theorem dX2_colour_10 : decode cX2_colour 10 = .ok (.iload 4, 2) := by decide +kernel
theorem dX2_colour_12 : decode cX2_colour 12 = .ok (.aload_n 0, 1) := by decide +kernel
theorem dX2_colour_13 : decode cX2_colour 13 = .ok (.getfield 62, 3) := by decide +kernel
theorem dX2_colour_16 : decode cX2_colour 16 = .ok (.if_icmp .ge 63, 3) := by decide +kernel
theorem dX2_colour_19 : decode cX2_colour 19 = .ok (.aload_n 0, 1) := by decide +kernel
theorem dX2_colour_20 : decode cX2_colour 20 = .ok (.getfield 52, 3) := by decide +kernel
theorem dX2_colour_23 : decode cX2_colour 23 = .ok (.iload 4, 2) := by decide +kernel
theorem dX2_colour_25 : decode cX2_colour 25 = .ok (.aload_n 0, 1) := by decide +kernel
theorem dX2_colour_26 : decode cX2_colour 26 = .ok (.getfield 43, 3) := by decide +kernel
theorem dX2_colour_29 : decode cX2_colour 29 = .ok (.iload 4, 2) := by decide +kernel
theorem dX2_colour_31 : decode cX2_colour 31 = .ok (.iaload, 1) := by decide +kernel
theorem dX2_colour_32 : decode cX2_colour 32 = .ok (.ifCond .le 13, 3) := by decide +kernel
theorem dX2_colour_35 : decode cX2_colour 35 = .ok (.aload_n 0, 1) := by decide +kernel
theorem dX2_colour_36 : decode cX2_colour 36 = .ok (.getfield 37, 3) := by decide +kernel
theorem dX2_colour_39 : decode cX2_colour 39 = .ok (.iload 4, 2) := by decide +kernel
theorem dX2_colour_41 : decode cX2_colour 41 = .ok (.iaload, 1) := by decide +kernel
theorem dX2_colour_42 : decode cX2_colour 42 = .ok (.goto 4, 3) := by decide +kernel
theorem dX2_colour_45 : decode cX2_colour 45 = .ok (.iconst (-1), 1) := by decide +kernel
theorem dX2_colour_46 : decode cX2_colour 46 = .ok (.iastore, 1) := by decide +kernel
theorem dX2_colour_47 : decode cX2_colour 47 = .ok (.aload_n 0, 1) := by decide +kernel
theorem dX2_colour_48 : decode cX2_colour 48 = .ok (.getfield 49, 3) := by decide +kernel
theorem dX2_colour_51 : decode cX2_colour 51 = .ok (.iload 4, 2) := by decide +kernel
theorem dX2_colour_53 : decode cX2_colour 53 = .ok (.iconst (-1), 1) := by decide +kernel
theorem dX2_colour_54 : decode cX2_colour 54 = .ok (.iastore, 1) := by decide +kernel
theorem dX2_colour_55 : decode cX2_colour 55 = .ok (.iload_n 3, 1) := by decide +kernel
theorem dX2_colour_56 : decode cX2_colour 56 = .ok (.aload_n 0, 1) := by decide +kernel
theorem dX2_colour_57 : decode cX2_colour 57 = .ok (.getfield 43, 3) := by decide +kernel
theorem dX2_colour_60 : decode cX2_colour 60 = .ok (.iload 4, 2) := by decide +kernel
theorem dX2_colour_62 : decode cX2_colour 62 = .ok (.iaload, 1) := by decide +kernel
theorem dX2_colour_63 : decode cX2_colour 63 = .ok (.ifCond .le 7, 3) := by decide +kernel
theorem dX2_colour_66 : decode cX2_colour 66 = .ok (.iconst 1, 1) := by decide +kernel
theorem dX2_colour_67 : decode cX2_colour 67 = .ok (.goto 4, 3) := by decide +kernel
theorem dX2_colour_70 : decode cX2_colour 70 = .ok (.iconst 0, 1) := by decide +kernel
theorem dX2_colour_71 : decode cX2_colour 71 = .ok (.iadd, 1) := by decide +kernel
theorem dX2_colour_72 : decode cX2_colour 72 = .ok (.istore_n 3, 1) := by decide +kernel
theorem dX2_colour_73 : decode cX2_colour 73 = .ok (.iinc 4 1, 3) := by decide +kernel
theorem dX2_colour_76 : decode cX2_colour 76 = .ok (.goto (-66), 3) := by decide +kernel
theorem dX2_colour_79 : decode cX2_colour 79 = .ok (.iconst 0, 1) := by decide +kernel
theorem dX2_colour_80 : decode cX2_colour 80 = .ok (.istore 4, 2) := by decide +kernel
theorem dX2_colour_82 : decode cX2_colour 82 = .ok (.iload 4, 2) := by decide +kernel
theorem dX2_colour_84 : decode cX2_colour 84 = .ok (.iload_n 3, 1) := by decide +kernel
theorem dX2_colour_85 : decode cX2_colour 85 = .ok (.if_icmp .ge 32, 3) := by decide +kernel
theorem dX2_colour_88 : decode cX2_colour 88 = .ok (.aload_n 0, 1) := by decide +kernel
theorem dX2_colour_89 : decode cX2_colour 89 = .ok (.getfield 55, 3) := by decide +kernel
theorem dX2_colour_92 : decode cX2_colour 92 = .ok (.iload 4, 2) := by decide +kernel
theorem dX2_colour_94 : decode cX2_colour 94 = .ok (.aload_n 0, 1) := by decide +kernel
theorem dX2_colour_95 : decode cX2_colour 95 = .ok (.iload_n 2, 1) := by decide +kernel
theorem dX2_colour_96 : decode cX2_colour 96 = .ok (.invokevirtual 215, 3) := by decide +kernel
theorem dX2_colour_99 : decode cX2_colour 99 = .ok (.iastore, 1) := by decide +kernel
theorem dX2_colour_100 : decode cX2_colour 100 = .ok (.aload_n 0, 1) := by decide +kernel
theorem dX2_colour_101 : decode cX2_colour 101 = .ok (.aload_n 0, 1) := by decide +kernel
theorem dX2_colour_102 : decode cX2_colour 102 = .ok (.getfield 55, 3) := by decide +kernel
theorem dX2_colour_105 : decode cX2_colour 105 = .ok (.iload 4, 2) := by decide +kernel
theorem dX2_colour_107 : decode cX2_colour 107 = .ok (.iaload, 1) := by decide +kernel
theorem dX2_colour_108 : decode cX2_colour 108 = .ok (.invokevirtual 219, 3) := by decide +kernel
theorem dX2_colour_111 : decode cX2_colour 111 = .ok (.iinc 4 1, 3) := by decide +kernel
theorem dX2_colour_114 : decode cX2_colour 114 = .ok (.goto (-32), 3) := by decide +kernel
theorem dX2_colour_117 : decode cX2_colour 117 = .ok (.iconst 1, 1) := by decide +kernel
theorem dX2_colour_118 : decode cX2_colour 118 = .ok (.istore 4, 2) := by decide +kernel
theorem dX2_colour_120 : decode cX2_colour 120 = .ok (.iload_n 3, 1) := by decide +kernel
theorem dX2_colour_121 : decode cX2_colour 121 = .ok (.iconst 1, 1) := by decide +kernel
theorem dX2_colour_122 : decode cX2_colour 122 = .ok (.isub, 1) := by decide +kernel
theorem dX2_colour_123 : decode cX2_colour 123 = .ok (.istore 5, 2) := by decide +kernel
theorem dX2_colour_125 : decode cX2_colour 125 = .ok (.iload 5, 2) := by decide +kernel
theorem dX2_colour_127 : decode cX2_colour 127 = .ok (.ifCond .lt 60, 3) := by decide +kernel
theorem dX2_colour_130 : decode cX2_colour 130 = .ok (.aload_n 0, 1) := by decide +kernel
theorem dX2_colour_131 : decode cX2_colour 131 = .ok (.getfield 49, 3) := by decide +kernel
theorem dX2_colour_134 : decode cX2_colour 134 = .ok (.aload_n 0, 1) := by decide +kernel
theorem dX2_colour_135 : decode cX2_colour 135 = .ok (.getfield 55, 3) := by decide +kernel
theorem dX2_colour_138 : decode cX2_colour 138 = .ok (.iload 5, 2) := by decide +kernel
theorem dX2_colour_140 : decode cX2_colour 140 = .ok (.iaload, 1) := by decide +kernel
theorem dX2_colour_141 : decode cX2_colour 141 = .ok (.aload_n 0, 1) := by decide +kernel
theorem dX2_colour_142 : decode cX2_colour 142 = .ok (.aload_n 0, 1) := by decide +kernel
theorem dX2_colour_143 : decode cX2_colour 143 = .ok (.getfield 55, 3) := by decide +kernel
theorem dX2_colour_146 : decode cX2_colour 146 = .ok (.iload 5, 2) := by decide +kernel
theorem dX2_colour_148 : decode cX2_colour 148 = .ok (.iaload, 1) := by decide +kernel
theorem dX2_colour_149 : decode cX2_colour 149 = .ok (.iload_n 2, 1) := by decide +kernel
theorem dX2_colour_150 : decode cX2_colour 150 = .ok (.invokevirtual 222, 3) := by decide +kernel
theorem dX2_colour_153 : decode cX2_colour 153 = .ok (.iastore, 1) := by decide +kernel
theorem dX2_colour_154 : decode cX2_colour 154 = .ok (.iload 4, 2) := by decide +kernel
theorem dX2_colour_156 : decode cX2_colour 156 = .ok (.ifCond .eq 22, 3) := by decide +kernel
theorem dX2_colour_159 : decode cX2_colour 159 = .ok (.aload_n 0, 1) := by decide +kernel
theorem dX2_colour_160 : decode cX2_colour 160 = .ok (.getfield 49, 3) := by decide +kernel
theorem dX2_colour_163 : decode cX2_colour 163 = .ok (.aload_n 0, 1) := by decide +kernel
theorem dX2_colour_164 : decode cX2_colour 164 = .ok (.getfield 55, 3) := by decide +kernel
theorem dX2_colour_167 : decode cX2_colour 167 = .ok (.iload 5, 2) := by decide +kernel
theorem dX2_colour_169 : decode cX2_colour 169 = .ok (.iaload, 1) := by decide +kernel
theorem dX2_colour_170 : decode cX2_colour 170 = .ok (.iaload, 1) := by decide +kernel
theorem dX2_colour_171 : decode cX2_colour 171 = .ok (.ifCond .lt 7, 3) := by decide +kernel
theorem dX2_colour_174 : decode cX2_colour 174 = .ok (.iconst 1, 1) := by decide +kernel
theorem dX2_colour_175 : decode cX2_colour 175 = .ok (.goto 4, 3) := by decide +kernel
theorem dX2_colour_178 : decode cX2_colour 178 = .ok (.iconst 0, 1) := by decide +kernel
theorem dX2_colour_179 : decode cX2_colour 179 = .ok (.istore 4, 2) := by decide +kernel
theorem dX2_colour_181 : decode cX2_colour 181 = .ok (.iinc 5 (-1), 3) := by decide +kernel
theorem dX2_colour_184 : decode cX2_colour 184 = .ok (.goto (-59), 3) := by decide +kernel
theorem dX2_colour_187 : decode cX2_colour 187 = .ok (.iload 4, 2) := by decide +kernel
theorem dX2_colour_189 : decode cX2_colour 189 = .ok (.ireturn, 1) := by decide +kernel
theorem dX2_countDegrees_0 : decode cX2_countDegrees 0 = .ok (.iconst 0, 1) := by decide +kernel
theorem dX2_countDegrees_1 : decode cX2_countDegrees 1 = .ok (.istore_n 1, 1) := by decide +kernel
theorem dX2_countDegrees_2 : decode cX2_countDegrees 2 = .ok (.iload_n 1, 1) := by decide +kernel
theorem dX2_countDegrees_3 : decode cX2_countDegrees 3 = .ok (.aload_n 0, 1) := by decide +kernel
theorem dX2_countDegrees_4 : decode cX2_countDegrees 4 = .ok (.getfield 62, 3) := by decide +kernel
theorem dX2_countDegrees_7 : decode cX2_countDegrees 7 = .ok (.if_icmp .ge 70, 3) := by decide +kernel
theorem dX2_countDegrees_10 : decode cX2_countDegrees 10 = .ok (.aload_n 0, 1) := by decide +kernel
theorem dX2_countDegrees_11 : decode cX2_countDegrees 11 = .ok (.getfield 37, 3) := by decide +kernel
theorem dX2_countDegrees_14 : decode cX2_countDegrees 14 = .ok (.iload_n 1, 1) := by decide +kernel
theorem dX2_countDegrees_15 : decode cX2_countDegrees 15 = .ok (.aload_n 0, 1) := by decide +kernel
theorem dX2_countDegrees_16 : decode cX2_countDegrees 16 = .ok (.getfield 34, 3) := by decide +kernel
theorem dX2_countDegrees_19 : decode cX2_countDegrees 19 = .ok (.iload_n 1, 1) := by decide +kernel
theorem dX2_countDegrees_20 : decode cX2_countDegrees 20 = .ok (.iaload, 1) := by decide +kernel
theorem dX2_countDegrees_21 : decode cX2_countDegrees 21 = .ok (.ifCond .lt 7, 3) := by decide +kernel
theorem dX2_countDegrees_24 : decode cX2_countDegrees 24 = .ok (.iconst 1, 1) := by decide +kernel
theorem dX2_countDegrees_25 : decode cX2_countDegrees 25 = .ok (.goto 4, 3) := by decide +kernel
theorem dX2_countDegrees_28 : decode cX2_countDegrees 28 = .ok (.iconst 0, 1) := by decide +kernel
theorem dX2_countDegrees_29 : decode cX2_countDegrees 29 = .ok (.iastore, 1) := by decide +kernel
theorem dX2_countDegrees_30 : decode cX2_countDegrees 30 = .ok (.iconst 0, 1) := by decide +kernel
theorem dX2_countDegrees_31 : decode cX2_countDegrees 31 = .ok (.istore_n 2, 1) := by decide +kernel
theorem dX2_countDegrees_32 : decode cX2_countDegrees 32 = .ok (.iload_n 2, 1) := by decide +kernel
theorem dX2_countDegrees_33 : decode cX2_countDegrees 33 = .ok (.aload_n 0, 1) := by decide +kernel
theorem dX2_countDegrees_34 : decode cX2_countDegrees 34 = .ok (.getfield 65, 3) := by decide +kernel
theorem dX2_countDegrees_37 : decode cX2_countDegrees 37 = .ok (.if_icmp .ge 34, 3) := by decide +kernel
theorem dX2_countDegrees_40 : decode cX2_countDegrees 40 = .ok (.aload_n 0, 1) := by decide +kernel
theorem dX2_countDegrees_41 : decode cX2_countDegrees 41 = .ok (.getfield 37, 3) := by decide +kernel
theorem dX2_countDegrees_44 : decode cX2_countDegrees 44 = .ok (.iload_n 1, 1) := by decide +kernel
theorem dX2_countDegrees_45 : decode cX2_countDegrees 45 = .ok (.dup2, 1) := by decide +kernel
theorem dX2_countDegrees_46 : decode cX2_countDegrees 46 = .ok (.iaload, 1) := by decide +kernel
theorem dX2_countDegrees_47 : decode cX2_countDegrees 47 = .ok (.aload_n 0, 1) := by decide +kernel
theorem dX2_countDegrees_48 : decode cX2_countDegrees 48 = .ok (.getfield 31, 3) := by decide +kernel
theorem dX2_countDegrees_51 : decode cX2_countDegrees 51 = .ok (.iload_n 1, 1) := by decide +kernel
theorem dX2_countDegrees_52 : decode cX2_countDegrees 52 = .ok (.aload_n 0, 1) := by decide +kernel
theorem dX2_countDegrees_53 : decode cX2_countDegrees 53 = .ok (.getfield 65, 3) := by decide +kernel
theorem dX2_countDegrees_56 : decode cX2_countDegrees 56 = .ok (.imul, 1) := by decide +kernel
theorem dX2_countDegrees_57 : decode cX2_countDegrees 57 = .ok (.iload_n 2, 1) := by decide +kernel
theorem dX2_countDegrees_58 : decode cX2_countDegrees 58 = .ok (.iadd, 1) := by decide +kernel
theorem dX2_countDegrees_59 : decode cX2_countDegrees 59 = .ok (.laload, 1) := by decide +kernel
theorem dX2_countDegrees_60 : decode cX2_countDegrees 60 = .ok (.invokestatic 207, 3) := by decide +kernel
theorem dX2_countDegrees_63 : decode cX2_countDegrees 63 = .ok (.iadd, 1) := by decide +kernel
theorem dX2_countDegrees_64 : decode cX2_countDegrees 64 = .ok (.iastore, 1) := by decide +kernel
theorem dX2_countDegrees_65 : decode cX2_countDegrees 65 = .ok (.iinc 2 1, 3) := by decide +kernel
theorem dX2_countDegrees_68 : decode cX2_countDegrees 68 = .ok (.goto (-36), 3) := by decide +kernel
theorem dX2_countDegrees_71 : decode cX2_countDegrees 71 = .ok (.iinc 1 1, 3) := by decide +kernel
theorem dX2_countDegrees_74 : decode cX2_countDegrees 74 = .ok (.goto (-72), 3) := by decide +kernel
theorem dX2_countDegrees_77 : decode cX2_countDegrees 77 = .ok (.aload_n 0, 1) := by decide +kernel
theorem dX2_countDegrees_78 : decode cX2_countDegrees 78 = .ok (.getfield 58, 3) := by decide +kernel
theorem dX2_countDegrees_81 : decode cX2_countDegrees 81 = .ok (.istore_n 1, 1) := by decide +kernel
theorem dX2_countDegrees_82 : decode cX2_countDegrees 82 = .ok (.iload_n 1, 1) := by decide +kernel
theorem dX2_countDegrees_83 : decode cX2_countDegrees 83 = .ok (.aload_n 0, 1) := by decide +kernel
theorem dX2_countDegrees_84 : decode cX2_countDegrees 84 = .ok (.getfield 62, 3) := by decide +kernel
theorem dX2_countDegrees_87 : decode cX2_countDegrees 87 = .ok (.if_icmp .ge 72, 3) := by decide +kernel
theorem dX2_countDegrees_90 : decode cX2_countDegrees 90 = .ok (.iconst 0, 1) := by decide +kernel
theorem dX2_countDegrees_91 : decode cX2_countDegrees 91 = .ok (.istore_n 2, 1) := by decide +kernel
theorem dX2_countDegrees_92 : decode cX2_countDegrees 92 = .ok (.iload_n 2, 1) := by decide +kernel
theorem dX2_countDegrees_93 : decode cX2_countDegrees 93 = .ok (.aload_n 0, 1) := by decide +kernel
theorem dX2_countDegrees_94 : decode cX2_countDegrees 94 = .ok (.getfield 65, 3) := by decide +kernel
theorem dX2_countDegrees_97 : decode cX2_countDegrees 97 = .ok (.if_icmp .ge 56, 3) := by decide +kernel
theorem dX2_countDegrees_100 : decode cX2_countDegrees 100 = .ok (.aload_n 0, 1) := by decide +kernel
theorem dX2_countDegrees_101 : decode cX2_countDegrees 101 = .ok (.getfield 31, 3) := by decide +kernel
theorem dX2_countDegrees_104 : decode cX2_countDegrees 104 = .ok (.iload_n 1, 1) := by decide +kernel
theorem dX2_countDegrees_105 : decode cX2_countDegrees 105 = .ok (.aload_n 0, 1) := by decide +kernel
theorem dX2_countDegrees_106 : decode cX2_countDegrees 106 = .ok (.getfield 65, 3) := by decide +kernel
theorem dX2_countDegrees_109 : decode cX2_countDegrees 109 = .ok (.imul, 1) := by decide +kernel
theorem dX2_countDegrees_110 : decode cX2_countDegrees 110 = .ok (.iload_n 2, 1) := by decide +kernel
theorem dX2_countDegrees_111 : decode cX2_countDegrees 111 = .ok (.iadd, 1) := by decide +kernel
theorem dX2_countDegrees_112 : decode cX2_countDegrees 112 = .ok (.laload, 1) := by decide +kernel
theorem dX2_countDegrees_113 : decode cX2_countDegrees 113 = .ok (.lstore_n 3, 1) := by decide +kernel
theorem dX2_countDegrees_114 : decode cX2_countDegrees 114 = .ok (.lload_n 3, 1) := by decide +kernel
theorem dX2_countDegrees_115 : decode cX2_countDegrees 115 = .ok (.lconst 0, 1) := by decide +kernel
theorem dX2_countDegrees_116 : decode cX2_countDegrees 116 = .ok (.lcmp, 1) := by decide +kernel
theorem dX2_countDegrees_117 : decode cX2_countDegrees 117 = .ok (.ifCond .eq 30, 3) := by decide +kernel
theorem dX2_countDegrees_120 : decode cX2_countDegrees 120 = .ok (.aload_n 0, 1) := by decide +kernel
theorem dX2_countDegrees_121 : decode cX2_countDegrees 121 = .ok (.getfield 37, 3) := by decide +kernel
theorem dX2_countDegrees_124 : decode cX2_countDegrees 124 = .ok (.iload_n 2, 1) := by decide +kernel
theorem dX2_countDegrees_125 : decode cX2_countDegrees 125 = .ok (.bipush 64, 2) := by decide +kernel
theorem dX2_countDegrees_127 : decode cX2_countDegrees 127 = .ok (.imul, 1) := by decide +kernel
theorem dX2_countDegrees_128 : decode cX2_countDegrees 128 = .ok (.lload_n 3, 1) := by decide +kernel
theorem dX2_countDegrees_129 : decode cX2_countDegrees 129 = .ok (.invokestatic 203, 3) := by decide +kernel
theorem dX2_countDegrees_132 : decode cX2_countDegrees 132 = .ok (.iadd, 1) := by decide +kernel
theorem dX2_countDegrees_133 : decode cX2_countDegrees 133 = .ok (.dup2, 1) := by decide +kernel
theorem dX2_countDegrees_134 : decode cX2_countDegrees 134 = .ok (.iaload, 1) := by decide +kernel
theorem dX2_countDegrees_135 : decode cX2_countDegrees 135 = .ok (.iconst 1, 1) := by decide +kernel
theorem dX2_countDegrees_136 : decode cX2_countDegrees 136 = .ok (.iadd, 1) := by decide +kernel
theorem dX2_countDegrees_137 : decode cX2_countDegrees 137 = .ok (.iastore, 1) := by decide +kernel
theorem dX2_countDegrees_138 : decode cX2_countDegrees 138 = .ok (.lload_n 3, 1) := by decide +kernel
theorem dX2_countDegrees_139 : decode cX2_countDegrees 139 = .ok (.lload_n 3, 1) := by decide +kernel
theorem dX2_countDegrees_140 : decode cX2_countDegrees 140 = .ok (.lconst 1, 1) := by decide +kernel
theorem dX2_countDegrees_141 : decode cX2_countDegrees 141 = .ok (.lsub, 1) := by decide +kernel
theorem dX2_countDegrees_142 : decode cX2_countDegrees 142 = .ok (.land, 1) := by decide +kernel
theorem dX2_countDegrees_143 : decode cX2_countDegrees 143 = .ok (.lstore_n 3, 1) := by decide +kernel
theorem dX2_countDegrees_144 : decode cX2_countDegrees 144 = .ok (.goto (-30), 3) := by decide +kernel
theorem dX2_countDegrees_147 : decode cX2_countDegrees 147 = .ok (.iinc 2 1, 3) := by decide +kernel
theorem dX2_countDegrees_150 : decode cX2_countDegrees 150 = .ok (.goto (-58), 3) := by decide +kernel
theorem dX2_countDegrees_153 : decode cX2_countDegrees 153 = .ok (.iinc 1 1, 3) := by decide +kernel
theorem dX2_countDegrees_156 : decode cX2_countDegrees 156 = .ok (.goto (-74), 3) := by decide +kernel
theorem dX2_countDegrees_159 : decode cX2_countDegrees 159 = .ok (.return_, 1) := by decide +kernel
theorem dX2_freeRegister_0 : decode cX2_freeRegister 0 = .ok (.iconst 0, 1) := by decide +kernel
theorem dX2_freeRegister_1 : decode cX2_freeRegister 1 = .ok (.istore_n 3, 1) := by decide +kernel
theorem dX2_freeRegister_2 : decode cX2_freeRegister 2 = .ok (.iconst 0, 1) := by decide +kernel
theorem dX2_freeRegister_3 : decode cX2_freeRegister 3 = .ok (.istore 4, 2) := by decide +kernel
theorem dX2_freeRegister_5 : decode cX2_freeRegister 5 = .ok (.iload 4, 2) := by decide +kernel
theorem dX2_freeRegister_7 : decode cX2_freeRegister 7 = .ok (.aload_n 0, 1) := by decide +kernel
theorem dX2_freeRegister_8 : decode cX2_freeRegister 8 = .ok (.getfield 65, 3) := by decide +kernel
theorem dX2_freeRegister_11 : decode cX2_freeRegister 11 = .ok (.if_icmp .ge 62, 3) := by decide +kernel
theorem dX2_freeRegister_14 : decode cX2_freeRegister 14 = .ok (.aload_n 0, 1) := by decide +kernel
theorem dX2_freeRegister_15 : decode cX2_freeRegister 15 = .ok (.getfield 31, 3) := by decide +kernel
theorem dX2_freeRegister_18 : decode cX2_freeRegister 18 = .ok (.iload_n 1, 1) := by decide +kernel
theorem dX2_freeRegister_19 : decode cX2_freeRegister 19 = .ok (.aload_n 0, 1) := by decide +kernel
theorem dX2_freeRegister_20 : decode cX2_freeRegister 20 = .ok (.getfield 65, 3) := by decide +kernel
theorem dX2_freeRegister_23 : decode cX2_freeRegister 23 = .ok (.imul, 1) := by decide +kernel
theorem dX2_freeRegister_24 : decode cX2_freeRegister 24 = .ok (.iload 4, 2) := by decide +kernel
theorem dX2_freeRegister_26 : decode cX2_freeRegister 26 = .ok (.iadd, 1) := by decide +kernel
theorem dX2_freeRegister_27 : decode cX2_freeRegister 27 = .ok (.laload, 1) := by decide +kernel
theorem dX2_freeRegister_28 : decode cX2_freeRegister 28 = .ok (.lstore 5, 2) := by decide +kernel
theorem dX2_freeRegister_30 : decode cX2_freeRegister 30 = .ok (.lload 5, 2) := by decide +kernel
theorem dX2_freeRegister_32 : decode cX2_freeRegister 32 = .ok (.lconst 0, 1) := by decide +kernel
theorem dX2_freeRegister_33 : decode cX2_freeRegister 33 = .ok (.lcmp, 1) := by decide +kernel
theorem dX2_freeRegister_34 : decode cX2_freeRegister 34 = .ok (.ifCond .eq 33, 3) := by decide +kernel
theorem dX2_freeRegister_37 : decode cX2_freeRegister 37 = .ok (.iload_n 3, 1) := by decide +kernel
theorem dX2_freeRegister_38 : decode cX2_freeRegister 38 = .ok (.aload_n 0, 1) := by decide +kernel
theorem dX2_freeRegister_39 : decode cX2_freeRegister 39 = .ok (.iload 4, 2) := by decide +kernel
theorem dX2_freeRegister_41 : decode cX2_freeRegister 41 = .ok (.bipush 64, 2) := by decide +kernel
theorem dX2_freeRegister_43 : decode cX2_freeRegister 43 = .ok (.imul, 1) := by decide +kernel
theorem dX2_freeRegister_44 : decode cX2_freeRegister 44 = .ok (.lload 5, 2) := by decide +kernel
theorem dX2_freeRegister_46 : decode cX2_freeRegister 46 = .ok (.invokestatic 203, 3) := by decide +kernel
theorem dX2_freeRegister_49 : decode cX2_freeRegister 49 = .ok (.iadd, 1) := by decide +kernel
theorem dX2_freeRegister_50 : decode cX2_freeRegister 50 = .ok (.invokevirtual 237, 3) := by decide +kernel
theorem dX2_freeRegister_53 : decode cX2_freeRegister 53 = .ok (.ior, 1) := by decide +kernel
theorem dX2_freeRegister_54 : decode cX2_freeRegister 54 = .ok (.istore_n 3, 1) := by decide +kernel
theorem dX2_freeRegister_55 : decode cX2_freeRegister 55 = .ok (.lload 5, 2) := by decide +kernel
theorem dX2_freeRegister_57 : decode cX2_freeRegister 57 = .ok (.lload 5, 2) := by decide +kernel
theorem dX2_freeRegister_59 : decode cX2_freeRegister 59 = .ok (.lconst 1, 1) := by decide +kernel
theorem dX2_freeRegister_60 : decode cX2_freeRegister 60 = .ok (.lsub, 1) := by decide +kernel
theorem dX2_freeRegister_61 : decode cX2_freeRegister 61 = .ok (.land, 1) := by decide +kernel
theorem dX2_freeRegister_62 : decode cX2_freeRegister 62 = .ok (.lstore 5, 2) := by decide +kernel
theorem dX2_freeRegister_64 : decode cX2_freeRegister 64 = .ok (.goto (-34), 3) := by decide +kernel
theorem dX2_freeRegister_67 : decode cX2_freeRegister 67 = .ok (.iinc 4 1, 3) := by decide +kernel
theorem dX2_freeRegister_70 : decode cX2_freeRegister 70 = .ok (.goto (-65), 3) := by decide +kernel
theorem dX2_freeRegister_73 : decode cX2_freeRegister 73 = .ok (.aload_n 0, 1) := by decide +kernel
theorem dX2_freeRegister_74 : decode cX2_freeRegister 74 = .ok (.getfield 34, 3) := by decide +kernel
theorem dX2_freeRegister_77 : decode cX2_freeRegister 77 = .ok (.iload_n 1, 1) := by decide +kernel
theorem dX2_freeRegister_78 : decode cX2_freeRegister 78 = .ok (.iaload, 1) := by decide +kernel
theorem dX2_freeRegister_79 : decode cX2_freeRegister 79 = .ok (.ifCond .lt 16, 3) := by decide +kernel
theorem dX2_freeRegister_82 : decode cX2_freeRegister 82 = .ok (.iload_n 3, 1) := by decide +kernel
theorem dX2_freeRegister_83 : decode cX2_freeRegister 83 = .ok (.aload_n 0, 1) := by decide +kernel
theorem dX2_freeRegister_84 : decode cX2_freeRegister 84 = .ok (.aload_n 0, 1) := by decide +kernel
theorem dX2_freeRegister_85 : decode cX2_freeRegister 85 = .ok (.getfield 34, 3) := by decide +kernel
theorem dX2_freeRegister_88 : decode cX2_freeRegister 88 = .ok (.iload_n 1, 1) := by decide +kernel
theorem dX2_freeRegister_89 : decode cX2_freeRegister 89 = .ok (.iaload, 1) := by decide +kernel
theorem dX2_freeRegister_90 : decode cX2_freeRegister 90 = .ok (.invokevirtual 237, 3) := by decide +kernel
theorem dX2_freeRegister_93 : decode cX2_freeRegister 93 = .ok (.ior, 1) := by decide +kernel
theorem dX2_freeRegister_94 : decode cX2_freeRegister 94 = .ok (.istore_n 3, 1) := by decide +kernel
theorem dX2_freeRegister_95 : decode cX2_freeRegister 95 = .ok (.iload_n 1, 1) := by decide +kernel
theorem dX2_freeRegister_96 : decode cX2_freeRegister 96 = .ok (.aload_n 0, 1) := by decide +kernel
theorem dX2_freeRegister_97 : decode cX2_freeRegister 97 = .ok (.getfield 58, 3) := by decide +kernel
theorem dX2_freeRegister_100 : decode cX2_freeRegister 100 = .ok (.if_icmp .ge 47, 3) := by decide +kernel
theorem dX2_freeRegister_103 : decode cX2_freeRegister 103 = .ok (.aload_n 0, 1) := by decide +kernel
theorem dX2_freeRegister_104 : decode cX2_freeRegister 104 = .ok (.getfield 58, 3) := by decide +kernel
theorem dX2_freeRegister_107 : decode cX2_freeRegister 107 = .ok (.istore 4, 2) := by decide +kernel
theorem dX2_freeRegister_109 : decode cX2_freeRegister 109 = .ok (.iload 4, 2) := by decide +kernel
theorem dX2_freeRegister_111 : decode cX2_freeRegister 111 = .ok (.aload_n 0, 1) := by decide +kernel
theorem dX2_freeRegister_112 : decode cX2_freeRegister 112 = .ok (.getfield 62, 3) := by decide +kernel
theorem dX2_freeRegister_115 : decode cX2_freeRegister 115 = .ok (.if_icmp .ge 32, 3) := by decide +kernel
theorem dX2_freeRegister_118 : decode cX2_freeRegister 118 = .ok (.aload_n 0, 1) := by decide +kernel
theorem dX2_freeRegister_119 : decode cX2_freeRegister 119 = .ok (.aload_n 0, 1) := by decide +kernel
theorem dX2_freeRegister_120 : decode cX2_freeRegister 120 = .ok (.getfield 31, 3) := by decide +kernel
theorem dX2_freeRegister_123 : decode cX2_freeRegister 123 = .ok (.iload 4, 2) := by decide +kernel
theorem dX2_freeRegister_125 : decode cX2_freeRegister 125 = .ok (.iload_n 1, 1) := by decide +kernel
theorem dX2_freeRegister_126 : decode cX2_freeRegister 126 = .ok (.invokevirtual 150, 3) := by decide +kernel
theorem dX2_freeRegister_129 : decode cX2_freeRegister 129 = .ok (.ifCond .eq 12, 3) := by decide +kernel
theorem dX2_freeRegister_132 : decode cX2_freeRegister 132 = .ok (.iload_n 3, 1) := by decide +kernel
theorem dX2_freeRegister_133 : decode cX2_freeRegister 133 = .ok (.aload_n 0, 1) := by decide +kernel
theorem dX2_freeRegister_134 : decode cX2_freeRegister 134 = .ok (.iload 4, 2) := by decide +kernel
theorem dX2_freeRegister_136 : decode cX2_freeRegister 136 = .ok (.invokevirtual 237, 3) := by decide +kernel
theorem dX2_freeRegister_139 : decode cX2_freeRegister 139 = .ok (.ior, 1) := by decide +kernel
theorem dX2_freeRegister_140 : decode cX2_freeRegister 140 = .ok (.istore_n 3, 1) := by decide +kernel
theorem dX2_freeRegister_141 : decode cX2_freeRegister 141 = .ok (.iinc 4 1, 3) := by decide +kernel
theorem dX2_freeRegister_144 : decode cX2_freeRegister 144 = .ok (.goto (-35), 3) := by decide +kernel
theorem dX2_freeRegister_147 : decode cX2_freeRegister 147 = .ok (.iconst 0, 1) := by decide +kernel
theorem dX2_freeRegister_148 : decode cX2_freeRegister 148 = .ok (.istore 4, 2) := by decide +kernel
theorem dX2_freeRegister_150 : decode cX2_freeRegister 150 = .ok (.iload 4, 2) := by decide +kernel
theorem dX2_freeRegister_152 : decode cX2_freeRegister 152 = .ok (.iload_n 2, 1) := by decide +kernel
theorem dX2_freeRegister_153 : decode cX2_freeRegister 153 = .ok (.if_icmp .ge 21, 3) := by decide +kernel
theorem dX2_freeRegister_156 : decode cX2_freeRegister 156 = .ok (.iload_n 3, 1) := by decide +kernel
theorem dX2_freeRegister_157 : decode cX2_freeRegister 157 = .ok (.iload 4, 2) := by decide +kernel
theorem dX2_freeRegister_159 : decode cX2_freeRegister 159 = .ok (.ishr, 1) := by decide +kernel
theorem dX2_freeRegister_160 : decode cX2_freeRegister 160 = .ok (.iconst 1, 1) := by decide +kernel
theorem dX2_freeRegister_161 : decode cX2_freeRegister 161 = .ok (.iand, 1) := by decide +kernel
theorem dX2_freeRegister_162 : decode cX2_freeRegister 162 = .ok (.ifCond .ne 6, 3) := by decide +kernel
theorem dX2_freeRegister_165 : decode cX2_freeRegister 165 = .ok (.iload 4, 2) := by decide +kernel
theorem dX2_freeRegister_167 : decode cX2_freeRegister 167 = .ok (.ireturn, 1) := by decide +kernel
theorem dX2_freeRegister_168 : decode cX2_freeRegister 168 = .ok (.iinc 4 1, 3) := by decide +kernel
theorem dX2_freeRegister_171 : decode cX2_freeRegister 171 = .ok (.goto (-21), 3) := by decide +kernel
theorem dX2_freeRegister_174 : decode cX2_freeRegister 174 = .ok (.iconst (-1), 1) := by decide +kernel
theorem dX2_freeRegister_175 : decode cX2_freeRegister 175 = .ok (.ireturn, 1) := by decide +kernel
theorem dX2_lowerLeft_0 : decode cX2_lowerLeft 0 = .ok (.aload_n 0, 1) := by decide +kernel
theorem dX2_lowerLeft_1 : decode cX2_lowerLeft 1 = .ok (.getfield 52, 3) := by decide +kernel
theorem dX2_lowerLeft_4 : decode cX2_lowerLeft 4 = .ok (.iload_n 1, 1) := by decide +kernel
theorem dX2_lowerLeft_5 : decode cX2_lowerLeft 5 = .ok (.iaload, 1) := by decide +kernel
theorem dX2_lowerLeft_6 : decode cX2_lowerLeft 6 = .ok (.iconst (-1), 1) := by decide +kernel
theorem dX2_lowerLeft_7 : decode cX2_lowerLeft 7 = .ok (.if_icmp .eq 13, 3) := by decide +kernel
theorem dX2_lowerLeft_10 : decode cX2_lowerLeft 10 = .ok (.aload_n 0, 1) := by decide +kernel
theorem dX2_lowerLeft_11 : decode cX2_lowerLeft 11 = .ok (.getfield 52, 3) := by decide +kernel
theorem dX2_lowerLeft_14 : decode cX2_lowerLeft 14 = .ok (.iload_n 1, 1) := by decide +kernel
theorem dX2_lowerLeft_15 : decode cX2_lowerLeft 15 = .ok (.dup2, 1) := by decide +kernel
theorem dX2_lowerLeft_16 : decode cX2_lowerLeft 16 = .ok (.iaload, 1) := by decide +kernel
theorem dX2_lowerLeft_17 : decode cX2_lowerLeft 17 = .ok (.iconst 1, 1) := by decide +kernel
theorem dX2_lowerLeft_18 : decode cX2_lowerLeft 18 = .ok (.isub, 1) := by decide +kernel
theorem dX2_lowerLeft_19 : decode cX2_lowerLeft 19 = .ok (.iastore, 1) := by decide +kernel
theorem dX2_lowerLeft_20 : decode cX2_lowerLeft 20 = .ok (.return_, 1) := by decide +kernel
theorem dX2_meet_0 : decode cX2_meet 0 = .ok (.iconst 0, 1) := by decide +kernel
theorem dX2_meet_1 : decode cX2_meet 1 = .ok (.istore_n 3, 1) := by decide +kernel
theorem dX2_meet_2 : decode cX2_meet 2 = .ok (.iload_n 3, 1) := by decide +kernel
theorem dX2_meet_3 : decode cX2_meet 3 = .ok (.aload_n 0, 1) := by decide +kernel
theorem dX2_meet_4 : decode cX2_meet 4 = .ok (.getfield 65, 3) := by decide +kernel
theorem dX2_meet_7 : decode cX2_meet 7 = .ok (.if_icmp .ge 53, 3) := by decide +kernel
theorem dX2_meet_10 : decode cX2_meet 10 = .ok (.aload_n 0, 1) := by decide +kernel
theorem dX2_meet_11 : decode cX2_meet 11 = .ok (.getfield 31, 3) := by decide +kernel
theorem dX2_meet_14 : decode cX2_meet 14 = .ok (.iload_n 1, 1) := by decide +kernel
theorem dX2_meet_15 : decode cX2_meet 15 = .ok (.aload_n 0, 1) := by decide +kernel
theorem dX2_meet_16 : decode cX2_meet 16 = .ok (.getfield 65, 3) := by decide +kernel
theorem dX2_meet_19 : decode cX2_meet 19 = .ok (.imul, 1) := by decide +kernel
theorem dX2_meet_20 : decode cX2_meet 20 = .ok (.iload_n 3, 1) := by decide +kernel
theorem dX2_meet_21 : decode cX2_meet 21 = .ok (.iadd, 1) := by decide +kernel
theorem dX2_meet_22 : decode cX2_meet 22 = .ok (.dup2, 1) := by decide +kernel
theorem dX2_meet_23 : decode cX2_meet 23 = .ok (.laload, 1) := by decide +kernel
theorem dX2_meet_24 : decode cX2_meet 24 = .ok (.aload_n 0, 1) := by decide +kernel
theorem dX2_meet_25 : decode cX2_meet 25 = .ok (.getfield 21, 3) := by decide +kernel
theorem dX2_meet_28 : decode cX2_meet 28 = .ok (.iload_n 3, 1) := by decide +kernel
theorem dX2_meet_29 : decode cX2_meet 29 = .ok (.laload, 1) := by decide +kernel
theorem dX2_meet_30 : decode cX2_meet 30 = .ok (.aload_n 0, 1) := by decide +kernel
theorem dX2_meet_31 : decode cX2_meet 31 = .ok (.iload_n 3, 1) := by decide +kernel
theorem dX2_meet_32 : decode cX2_meet 32 = .ok (.iload_n 1, 1) := by decide +kernel
theorem dX2_meet_33 : decode cX2_meet 33 = .ok (.invokevirtual 199, 3) := by decide +kernel
theorem dX2_meet_36 : decode cX2_meet 36 = .ok (.ldc2_w 175, 3) := by decide +kernel
theorem dX2_meet_39 : decode cX2_meet 39 = .ok (.lxor, 1) := by decide +kernel
theorem dX2_meet_40 : decode cX2_meet 40 = .ok (.land, 1) := by decide +kernel
theorem dX2_meet_41 : decode cX2_meet 41 = .ok (.aload_n 0, 1) := by decide +kernel
theorem dX2_meet_42 : decode cX2_meet 42 = .ok (.iload_n 3, 1) := by decide +kernel
theorem dX2_meet_43 : decode cX2_meet 43 = .ok (.iload_n 2, 1) := by decide +kernel
theorem dX2_meet_44 : decode cX2_meet 44 = .ok (.invokevirtual 199, 3) := by decide +kernel
theorem dX2_meet_47 : decode cX2_meet 47 = .ok (.ldc2_w 175, 3) := by decide +kernel
theorem dX2_meet_50 : decode cX2_meet 50 = .ok (.lxor, 1) := by decide +kernel
theorem dX2_meet_51 : decode cX2_meet 51 = .ok (.land, 1) := by decide +kernel
theorem dX2_meet_52 : decode cX2_meet 52 = .ok (.lor, 1) := by decide +kernel
theorem dX2_meet_53 : decode cX2_meet 53 = .ok (.lastore, 1) := by decide +kernel
theorem dX2_meet_54 : decode cX2_meet 54 = .ok (.iinc 3 1, 3) := by decide +kernel
theorem dX2_meet_57 : decode cX2_meet 57 = .ok (.goto (-55), 3) := by decide +kernel
theorem dX2_meet_60 : decode cX2_meet 60 = .ok (.iconst 0, 1) := by decide +kernel
theorem dX2_meet_61 : decode cX2_meet 61 = .ok (.istore_n 3, 1) := by decide +kernel
theorem dX2_meet_62 : decode cX2_meet 62 = .ok (.iload_n 3, 1) := by decide +kernel
theorem dX2_meet_63 : decode cX2_meet 63 = .ok (.aload_n 0, 1) := by decide +kernel
theorem dX2_meet_64 : decode cX2_meet 64 = .ok (.getfield 180, 3) := by decide +kernel
theorem dX2_meet_67 : decode cX2_meet 67 = .ok (.if_icmp .ge 67, 3) := by decide +kernel
theorem dX2_meet_70 : decode cX2_meet 70 = .ok (.aload_n 0, 1) := by decide +kernel
theorem dX2_meet_71 : decode cX2_meet 71 = .ok (.getfield 24, 3) := by decide +kernel
theorem dX2_meet_74 : decode cX2_meet 74 = .ok (.iload_n 3, 1) := by decide +kernel
theorem dX2_meet_75 : decode cX2_meet 75 = .ok (.iaload, 1) := by decide +kernel
theorem dX2_meet_76 : decode cX2_meet 76 = .ok (.istore 4, 2) := by decide +kernel
theorem dX2_meet_78 : decode cX2_meet 78 = .ok (.iload 4, 2) := by decide +kernel
theorem dX2_meet_80 : decode cX2_meet 80 = .ok (.iload_n 1, 1) := by decide +kernel
theorem dX2_meet_81 : decode cX2_meet 81 = .ok (.if_icmp .eq 47, 3) := by decide +kernel
theorem dX2_meet_84 : decode cX2_meet 84 = .ok (.iload 4, 2) := by decide +kernel
theorem dX2_meet_86 : decode cX2_meet 86 = .ok (.iload_n 2, 1) := by decide +kernel
theorem dX2_meet_87 : decode cX2_meet 87 = .ok (.if_icmp .eq 41, 3) := by decide +kernel
theorem dX2_meet_90 : decode cX2_meet 90 = .ok (.iload_n 1, 1) := by decide +kernel
theorem dX2_meet_91 : decode cX2_meet 91 = .ok (.aload_n 0, 1) := by decide +kernel
theorem dX2_meet_92 : decode cX2_meet 92 = .ok (.getfield 58, 3) := by decide +kernel
theorem dX2_meet_95 : decode cX2_meet 95 = .ok (.if_icmp .ge 17, 3) := by decide +kernel
theorem dX2_meet_98 : decode cX2_meet 98 = .ok (.aload_n 0, 1) := by decide +kernel
theorem dX2_meet_99 : decode cX2_meet 99 = .ok (.aload_n 0, 1) := by decide +kernel
theorem dX2_meet_100 : decode cX2_meet 100 = .ok (.getfield 31, 3) := by decide +kernel
theorem dX2_meet_103 : decode cX2_meet 103 = .ok (.iload 4, 2) := by decide +kernel
theorem dX2_meet_105 : decode cX2_meet 105 = .ok (.iload_n 1, 1) := by decide +kernel
theorem dX2_meet_106 : decode cX2_meet 106 = .ok (.invokevirtual 140, 3) := by decide +kernel
theorem dX2_meet_109 : decode cX2_meet 109 = .ok (.goto 19, 3) := by decide +kernel
theorem dX2_meet_112 : decode cX2_meet 112 = .ok (.aload_n 0, 1) := by decide +kernel
theorem dX2_meet_113 : decode cX2_meet 113 = .ok (.getfield 34, 3) := by decide +kernel
theorem dX2_meet_116 : decode cX2_meet 116 = .ok (.iload_n 1, 1) := by decide +kernel
theorem dX2_meet_117 : decode cX2_meet 117 = .ok (.iload 4, 2) := by decide +kernel
theorem dX2_meet_119 : decode cX2_meet 119 = .ok (.iastore, 1) := by decide +kernel
theorem dX2_meet_120 : decode cX2_meet 120 = .ok (.aload_n 0, 1) := by decide +kernel
theorem dX2_meet_121 : decode cX2_meet 121 = .ok (.getfield 34, 3) := by decide +kernel
theorem dX2_meet_124 : decode cX2_meet 124 = .ok (.iload 4, 2) := by decide +kernel
theorem dX2_meet_126 : decode cX2_meet 126 = .ok (.iload_n 1, 1) := by decide +kernel
theorem dX2_meet_127 : decode cX2_meet 127 = .ok (.iastore, 1) := by decide +kernel
theorem dX2_meet_128 : decode cX2_meet 128 = .ok (.iinc 3 1, 3) := by decide +kernel
theorem dX2_meet_131 : decode cX2_meet 131 = .ok (.goto (-69), 3) := by decide +kernel
theorem dX2_meet_134 : decode cX2_meet 134 = .ok (.return_, 1) := by decide +kernel
theorem dX2_mirror_0 : decode cX2_mirror 0 = .ok (.iconst 0, 1) := by decide +kernel
theorem dX2_mirror_1 : decode cX2_mirror 1 = .ok (.istore_n 1, 1) := by decide +kernel
theorem dX2_mirror_2 : decode cX2_mirror 2 = .ok (.iload_n 1, 1) := by decide +kernel
theorem dX2_mirror_3 : decode cX2_mirror 3 = .ok (.aload_n 0, 1) := by decide +kernel
theorem dX2_mirror_4 : decode cX2_mirror 4 = .ok (.getfield 58, 3) := by decide +kernel
theorem dX2_mirror_7 : decode cX2_mirror 7 = .ok (.if_icmp .ge 72, 3) := by decide +kernel
theorem dX2_mirror_10 : decode cX2_mirror 10 = .ok (.iconst 0, 1) := by decide +kernel
theorem dX2_mirror_11 : decode cX2_mirror 11 = .ok (.istore_n 2, 1) := by decide +kernel
theorem dX2_mirror_12 : decode cX2_mirror 12 = .ok (.iload_n 2, 1) := by decide +kernel
theorem dX2_mirror_13 : decode cX2_mirror 13 = .ok (.aload_n 0, 1) := by decide +kernel
theorem dX2_mirror_14 : decode cX2_mirror 14 = .ok (.getfield 65, 3) := by decide +kernel
theorem dX2_mirror_17 : decode cX2_mirror 17 = .ok (.if_icmp .ge 56, 3) := by decide +kernel
theorem dX2_mirror_20 : decode cX2_mirror 20 = .ok (.aload_n 0, 1) := by decide +kernel
theorem dX2_mirror_21 : decode cX2_mirror 21 = .ok (.getfield 31, 3) := by decide +kernel
theorem dX2_mirror_24 : decode cX2_mirror 24 = .ok (.iload_n 1, 1) := by decide +kernel
theorem dX2_mirror_25 : decode cX2_mirror 25 = .ok (.aload_n 0, 1) := by decide +kernel
theorem dX2_mirror_26 : decode cX2_mirror 26 = .ok (.getfield 65, 3) := by decide +kernel
theorem dX2_mirror_29 : decode cX2_mirror 29 = .ok (.imul, 1) := by decide +kernel
theorem dX2_mirror_30 : decode cX2_mirror 30 = .ok (.iload_n 2, 1) := by decide +kernel
theorem dX2_mirror_31 : decode cX2_mirror 31 = .ok (.iadd, 1) := by decide +kernel
theorem dX2_mirror_32 : decode cX2_mirror 32 = .ok (.laload, 1) := by decide +kernel
theorem dX2_mirror_33 : decode cX2_mirror 33 = .ok (.lstore_n 3, 1) := by decide +kernel
theorem dX2_mirror_34 : decode cX2_mirror 34 = .ok (.lload_n 3, 1) := by decide +kernel
theorem dX2_mirror_35 : decode cX2_mirror 35 = .ok (.lconst 0, 1) := by decide +kernel
theorem dX2_mirror_36 : decode cX2_mirror 36 = .ok (.lcmp, 1) := by decide +kernel
theorem dX2_mirror_37 : decode cX2_mirror 37 = .ok (.ifCond .eq 30, 3) := by decide +kernel
theorem dX2_mirror_40 : decode cX2_mirror 40 = .ok (.aload_n 0, 1) := by decide +kernel
theorem dX2_mirror_41 : decode cX2_mirror 41 = .ok (.aload_n 0, 1) := by decide +kernel
theorem dX2_mirror_42 : decode cX2_mirror 42 = .ok (.getfield 31, 3) := by decide +kernel
theorem dX2_mirror_45 : decode cX2_mirror 45 = .ok (.iload_n 2, 1) := by decide +kernel
theorem dX2_mirror_46 : decode cX2_mirror 46 = .ok (.bipush 64, 2) := by decide +kernel
theorem dX2_mirror_48 : decode cX2_mirror 48 = .ok (.imul, 1) := by decide +kernel
theorem dX2_mirror_49 : decode cX2_mirror 49 = .ok (.lload_n 3, 1) := by decide +kernel
theorem dX2_mirror_50 : decode cX2_mirror 50 = .ok (.invokestatic 203, 3) := by decide +kernel
theorem dX2_mirror_53 : decode cX2_mirror 53 = .ok (.iadd, 1) := by decide +kernel
theorem dX2_mirror_54 : decode cX2_mirror 54 = .ok (.iload_n 1, 1) := by decide +kernel
theorem dX2_mirror_55 : decode cX2_mirror 55 = .ok (.invokevirtual 140, 3) := by decide +kernel
theorem dX2_mirror_58 : decode cX2_mirror 58 = .ok (.lload_n 3, 1) := by decide +kernel
theorem dX2_mirror_59 : decode cX2_mirror 59 = .ok (.lload_n 3, 1) := by decide +kernel
theorem dX2_mirror_60 : decode cX2_mirror 60 = .ok (.lconst 1, 1) := by decide +kernel
theorem dX2_mirror_61 : decode cX2_mirror 61 = .ok (.lsub, 1) := by decide +kernel
theorem dX2_mirror_62 : decode cX2_mirror 62 = .ok (.land, 1) := by decide +kernel
theorem dX2_mirror_63 : decode cX2_mirror 63 = .ok (.lstore_n 3, 1) := by decide +kernel
theorem dX2_mirror_64 : decode cX2_mirror 64 = .ok (.goto (-30), 3) := by decide +kernel
theorem dX2_mirror_67 : decode cX2_mirror 67 = .ok (.iinc 2 1, 3) := by decide +kernel
theorem dX2_mirror_70 : decode cX2_mirror 70 = .ok (.goto (-58), 3) := by decide +kernel
theorem dX2_mirror_73 : decode cX2_mirror 73 = .ok (.iinc 1 1, 3) := by decide +kernel
theorem dX2_mirror_76 : decode cX2_mirror 76 = .ok (.goto (-74), 3) := by decide +kernel
theorem dX2_mirror_79 : decode cX2_mirror 79 = .ok (.return_, 1) := by decide +kernel
theorem dX2_nextToTake_0 : decode cX2_nextToTake 0 = .ok (.iconst (-1), 1) := by decide +kernel
theorem dX2_nextToTake_1 : decode cX2_nextToTake 1 = .ok (.istore_n 2, 1) := by decide +kernel
theorem dX2_nextToTake_2 : decode cX2_nextToTake 2 = .ok (.iconst 0, 1) := by decide +kernel
theorem dX2_nextToTake_3 : decode cX2_nextToTake 3 = .ok (.istore_n 3, 1) := by decide +kernel
theorem dX2_nextToTake_4 : decode cX2_nextToTake 4 = .ok (.iload_n 3, 1) := by decide +kernel
theorem dX2_nextToTake_5 : decode cX2_nextToTake 5 = .ok (.aload_n 0, 1) := by decide +kernel
theorem dX2_nextToTake_6 : decode cX2_nextToTake 6 = .ok (.getfield 62, 3) := by decide +kernel
theorem dX2_nextToTake_9 : decode cX2_nextToTake 9 = .ok (.if_icmp .ge 99, 3) := by decide +kernel
theorem dX2_nextToTake_12 : decode cX2_nextToTake 12 = .ok (.aload_n 0, 1) := by decide +kernel
theorem dX2_nextToTake_13 : decode cX2_nextToTake 13 = .ok (.getfield 52, 3) := by decide +kernel
theorem dX2_nextToTake_16 : decode cX2_nextToTake 16 = .ok (.iload_n 3, 1) := by decide +kernel
theorem dX2_nextToTake_17 : decode cX2_nextToTake 17 = .ok (.iaload, 1) := by decide +kernel
theorem dX2_nextToTake_18 : decode cX2_nextToTake 18 = .ok (.iconst (-1), 1) := by decide +kernel
theorem dX2_nextToTake_19 : decode cX2_nextToTake 19 = .ok (.if_icmp .eq 15, 3) := by decide +kernel
theorem dX2_nextToTake_22 : decode cX2_nextToTake 22 = .ok (.aload_n 0, 1) := by decide +kernel
theorem dX2_nextToTake_23 : decode cX2_nextToTake 23 = .ok (.getfield 52, 3) := by decide +kernel
theorem dX2_nextToTake_26 : decode cX2_nextToTake 26 = .ok (.iload_n 3, 1) := by decide +kernel
theorem dX2_nextToTake_27 : decode cX2_nextToTake 27 = .ok (.iaload, 1) := by decide +kernel
theorem dX2_nextToTake_28 : decode cX2_nextToTake 28 = .ok (.iload_n 1, 1) := by decide +kernel
theorem dX2_nextToTake_29 : decode cX2_nextToTake 29 = .ok (.if_icmp .ge 5, 3) := by decide +kernel
theorem dX2_nextToTake_32 : decode cX2_nextToTake 32 = .ok (.iload_n 3, 1) := by decide +kernel
theorem dX2_nextToTake_33 : decode cX2_nextToTake 33 = .ok (.ireturn, 1) := by decide +kernel
theorem dX2_nextToTake_34 : decode cX2_nextToTake 34 = .ok (.aload_n 0, 1) := by decide +kernel
theorem dX2_nextToTake_35 : decode cX2_nextToTake 35 = .ok (.getfield 52, 3) := by decide +kernel
theorem dX2_nextToTake_38 : decode cX2_nextToTake 38 = .ok (.iload_n 3, 1) := by decide +kernel
theorem dX2_nextToTake_39 : decode cX2_nextToTake 39 = .ok (.iaload, 1) := by decide +kernel
theorem dX2_nextToTake_40 : decode cX2_nextToTake 40 = .ok (.iconst (-1), 1) := by decide +kernel
theorem dX2_nextToTake_41 : decode cX2_nextToTake 41 = .ok (.if_icmp .eq 61, 3) := by decide +kernel
theorem dX2_nextToTake_44 : decode cX2_nextToTake 44 = .ok (.iload_n 3, 1) := by decide +kernel
theorem dX2_nextToTake_45 : decode cX2_nextToTake 45 = .ok (.aload_n 0, 1) := by decide +kernel
theorem dX2_nextToTake_46 : decode cX2_nextToTake 46 = .ok (.getfield 58, 3) := by decide +kernel
theorem dX2_nextToTake_49 : decode cX2_nextToTake 49 = .ok (.if_icmp .lt 15, 3) := by decide +kernel
theorem dX2_nextToTake_52 : decode cX2_nextToTake 52 = .ok (.iload_n 2, 1) := by decide +kernel
theorem dX2_nextToTake_53 : decode cX2_nextToTake 53 = .ok (.ifCond .lt 11, 3) := by decide +kernel
theorem dX2_nextToTake_56 : decode cX2_nextToTake 56 = .ok (.iload_n 2, 1) := by decide +kernel
theorem dX2_nextToTake_57 : decode cX2_nextToTake 57 = .ok (.aload_n 0, 1) := by decide +kernel
theorem dX2_nextToTake_58 : decode cX2_nextToTake 58 = .ok (.getfield 58, 3) := by decide +kernel
theorem dX2_nextToTake_61 : decode cX2_nextToTake 61 = .ok (.if_icmp .lt 41, 3) := by decide +kernel
theorem dX2_nextToTake_64 : decode cX2_nextToTake 64 = .ok (.iload_n 2, 1) := by decide +kernel
theorem dX2_nextToTake_65 : decode cX2_nextToTake 65 = .ok (.ifCond .lt 35, 3) := by decide +kernel
theorem dX2_nextToTake_68 : decode cX2_nextToTake 68 = .ok (.aload_n 0, 1) := by decide +kernel
theorem dX2_nextToTake_69 : decode cX2_nextToTake 69 = .ok (.getfield 40, 3) := by decide +kernel
theorem dX2_nextToTake_72 : decode cX2_nextToTake 72 = .ok (.iload_n 3, 1) := by decide +kernel
theorem dX2_nextToTake_73 : decode cX2_nextToTake 73 = .ok (.laload, 1) := by decide +kernel
theorem dX2_nextToTake_74 : decode cX2_nextToTake 74 = .ok (.aload_n 0, 1) := by decide +kernel
theorem dX2_nextToTake_75 : decode cX2_nextToTake 75 = .ok (.getfield 52, 3) := by decide +kernel
theorem dX2_nextToTake_78 : decode cX2_nextToTake 78 = .ok (.iload_n 2, 1) := by decide +kernel
theorem dX2_nextToTake_79 : decode cX2_nextToTake 79 = .ok (.iaload, 1) := by decide +kernel
theorem dX2_nextToTake_80 : decode cX2_nextToTake 80 = .ok (.i2l, 1) := by decide +kernel
theorem dX2_nextToTake_81 : decode cX2_nextToTake 81 = .ok (.lmul, 1) := by decide +kernel
theorem dX2_nextToTake_82 : decode cX2_nextToTake 82 = .ok (.aload_n 0, 1) := by decide +kernel
theorem dX2_nextToTake_83 : decode cX2_nextToTake 83 = .ok (.getfield 40, 3) := by decide +kernel
theorem dX2_nextToTake_86 : decode cX2_nextToTake 86 = .ok (.iload_n 2, 1) := by decide +kernel
theorem dX2_nextToTake_87 : decode cX2_nextToTake 87 = .ok (.laload, 1) := by decide +kernel
theorem dX2_nextToTake_88 : decode cX2_nextToTake 88 = .ok (.aload_n 0, 1) := by decide +kernel
theorem dX2_nextToTake_89 : decode cX2_nextToTake 89 = .ok (.getfield 52, 3) := by decide +kernel
theorem dX2_nextToTake_92 : decode cX2_nextToTake 92 = .ok (.iload_n 3, 1) := by decide +kernel
theorem dX2_nextToTake_93 : decode cX2_nextToTake 93 = .ok (.iaload, 1) := by decide +kernel
theorem dX2_nextToTake_94 : decode cX2_nextToTake 94 = .ok (.i2l, 1) := by decide +kernel
theorem dX2_nextToTake_95 : decode cX2_nextToTake 95 = .ok (.lmul, 1) := by decide +kernel
theorem dX2_nextToTake_96 : decode cX2_nextToTake 96 = .ok (.lcmp, 1) := by decide +kernel
theorem dX2_nextToTake_97 : decode cX2_nextToTake 97 = .ok (.ifCond .ge 5, 3) := by decide +kernel
theorem dX2_nextToTake_100 : decode cX2_nextToTake 100 = .ok (.iload_n 3, 1) := by decide +kernel
theorem dX2_nextToTake_101 : decode cX2_nextToTake 101 = .ok (.istore_n 2, 1) := by decide +kernel
theorem dX2_nextToTake_102 : decode cX2_nextToTake 102 = .ok (.iinc 3 1, 3) := by decide +kernel
theorem dX2_nextToTake_105 : decode cX2_nextToTake 105 = .ok (.goto (-101), 3) := by decide +kernel
theorem dX2_nextToTake_108 : decode cX2_nextToTake 108 = .ok (.iload_n 2, 1) := by decide +kernel
theorem dX2_nextToTake_109 : decode cX2_nextToTake 109 = .ok (.ireturn, 1) := by decide +kernel
theorem dX2_noteBlock_0 : decode cX2_noteBlock 0 = .ok (.aload_n 0, 1) := by decide +kernel
theorem dX2_noteBlock_1 : decode cX2_noteBlock 1 = .ok (.getfield 11, 3) := by decide +kernel
theorem dX2_noteBlock_4 : decode cX2_noteBlock 4 = .ok (.iload_n 2, 1) := by decide +kernel
theorem dX2_noteBlock_5 : decode cX2_noteBlock 5 = .ok (.aload_n 0, 1) := by decide +kernel
theorem dX2_noteBlock_6 : decode cX2_noteBlock 6 = .ok (.getfield 65, 3) := by decide +kernel
theorem dX2_noteBlock_9 : decode cX2_noteBlock 9 = .ok (.imul, 1) := by decide +kernel
theorem dX2_noteBlock_10 : decode cX2_noteBlock 10 = .ok (.iload_n 2, 1) := by decide +kernel
theorem dX2_noteBlock_11 : decode cX2_noteBlock 11 = .ok (.iconst 1, 1) := by decide +kernel
theorem dX2_noteBlock_12 : decode cX2_noteBlock 12 = .ok (.iadd, 1) := by decide +kernel
theorem dX2_noteBlock_13 : decode cX2_noteBlock 13 = .ok (.aload_n 0, 1) := by decide +kernel
theorem dX2_noteBlock_14 : decode cX2_noteBlock 14 = .ok (.getfield 65, 3) := by decide +kernel
theorem dX2_noteBlock_17 : decode cX2_noteBlock 17 = .ok (.imul, 1) := by decide +kernel
theorem dX2_noteBlock_18 : decode cX2_noteBlock 18 = .ok (.lconst 0, 1) := by decide +kernel
theorem dX2_noteBlock_19 : decode cX2_noteBlock 19 = .ok (.invokestatic 85, 3) := by decide +kernel
theorem dX2_noteBlock_22 : decode cX2_noteBlock 22 = .ok (.aload_n 0, 1) := by decide +kernel
theorem dX2_noteBlock_23 : decode cX2_noteBlock 23 = .ok (.getfield 15, 3) := by decide +kernel
theorem dX2_noteBlock_26 : decode cX2_noteBlock 26 = .ok (.iload_n 2, 1) := by decide +kernel
theorem dX2_noteBlock_27 : decode cX2_noteBlock 27 = .ok (.aload_n 0, 1) := by decide +kernel
theorem dX2_noteBlock_28 : decode cX2_noteBlock 28 = .ok (.getfield 65, 3) := by decide +kernel
theorem dX2_noteBlock_31 : decode cX2_noteBlock 31 = .ok (.imul, 1) := by decide +kernel
theorem dX2_noteBlock_32 : decode cX2_noteBlock 32 = .ok (.iload_n 2, 1) := by decide +kernel
theorem dX2_noteBlock_33 : decode cX2_noteBlock 33 = .ok (.iconst 1, 1) := by decide +kernel
theorem dX2_noteBlock_34 : decode cX2_noteBlock 34 = .ok (.iadd, 1) := by decide +kernel
theorem dX2_noteBlock_35 : decode cX2_noteBlock 35 = .ok (.aload_n 0, 1) := by decide +kernel
theorem dX2_noteBlock_36 : decode cX2_noteBlock 36 = .ok (.getfield 65, 3) := by decide +kernel
theorem dX2_noteBlock_39 : decode cX2_noteBlock 39 = .ok (.imul, 1) := by decide +kernel
theorem dX2_noteBlock_40 : decode cX2_noteBlock 40 = .ok (.lconst 0, 1) := by decide +kernel
theorem dX2_noteBlock_41 : decode cX2_noteBlock 41 = .ok (.invokestatic 85, 3) := by decide +kernel
theorem dX2_noteBlock_44 : decode cX2_noteBlock 44 = .ok (.aload_n 1, 1) := by decide +kernel
theorem dX2_noteBlock_45 : decode cX2_noteBlock 45 = .ok (.getfield 110, 3) := by decide +kernel
theorem dX2_noteBlock_48 : decode cX2_noteBlock 48 = .ok (.astore_n 3, 1) := by decide +kernel
theorem dX2_noteBlock_49 : decode cX2_noteBlock 49 = .ok (.aload_n 1, 1) := by decide +kernel
theorem dX2_noteBlock_50 : decode cX2_noteBlock 50 = .ok (.getfield 114, 3) := by decide +kernel
theorem dX2_noteBlock_53 : decode cX2_noteBlock 53 = .ok (.iload_n 2, 1) := by decide +kernel
theorem dX2_noteBlock_54 : decode cX2_noteBlock 54 = .ok (.iaload, 1) := by decide +kernel
theorem dX2_noteBlock_55 : decode cX2_noteBlock 55 = .ok (.istore 4, 2) := by decide +kernel
theorem dX2_noteBlock_57 : decode cX2_noteBlock 57 = .ok (.iload 4, 2) := by decide +kernel
theorem dX2_noteBlock_59 : decode cX2_noteBlock 59 = .ok (.ifCond .lt 105, 3) := by decide +kernel
theorem dX2_noteBlock_62 : decode cX2_noteBlock 62 = .ok (.aload_n 3, 1) := by decide +kernel
theorem dX2_noteBlock_63 : decode cX2_noteBlock 63 = .ok (.getfield 117, 3) := by decide +kernel
theorem dX2_noteBlock_66 : decode cX2_noteBlock 66 = .ok (.iload 4, 2) := by decide +kernel
theorem dX2_noteBlock_68 : decode cX2_noteBlock 68 = .ok (.iaload, 1) := by decide +kernel
theorem dX2_noteBlock_69 : decode cX2_noteBlock 69 = .ok (.invokestatic 122, 3) := by decide +kernel
theorem dX2_noteBlock_72 : decode cX2_noteBlock 72 = .ok (.ifCond .eq 15, 3) := by decide +kernel
theorem dX2_noteBlock_75 : decode cX2_noteBlock 75 = .ok (.aload_n 0, 1) := by decide +kernel
theorem dX2_noteBlock_76 : decode cX2_noteBlock 76 = .ok (.iload_n 2, 1) := by decide +kernel
theorem dX2_noteBlock_77 : decode cX2_noteBlock 77 = .ok (.aload_n 3, 1) := by decide +kernel
theorem dX2_noteBlock_78 : decode cX2_noteBlock 78 = .ok (.getfield 126, 3) := by decide +kernel
theorem dX2_noteBlock_81 : decode cX2_noteBlock 81 = .ok (.iload 4, 2) := by decide +kernel
theorem dX2_noteBlock_83 : decode cX2_noteBlock 83 = .ok (.iaload, 1) := by decide +kernel
theorem dX2_noteBlock_84 : decode cX2_noteBlock 84 = .ok (.invokevirtual 127, 3) := by decide +kernel
theorem dX2_noteBlock_87 : decode cX2_noteBlock 87 = .ok (.aload_n 3, 1) := by decide +kernel
theorem dX2_noteBlock_88 : decode cX2_noteBlock 88 = .ok (.getfield 117, 3) := by decide +kernel
theorem dX2_noteBlock_91 : decode cX2_noteBlock 91 = .ok (.iload 4, 2) := by decide +kernel
theorem dX2_noteBlock_93 : decode cX2_noteBlock 93 = .ok (.iaload, 1) := by decide +kernel
theorem dX2_noteBlock_94 : decode cX2_noteBlock 94 = .ok (.invokestatic 131, 3) := by decide +kernel
theorem dX2_noteBlock_97 : decode cX2_noteBlock 97 = .ok (.ifCond .eq 15, 3) := by decide +kernel
theorem dX2_noteBlock_100 : decode cX2_noteBlock 100 = .ok (.aload_n 0, 1) := by decide +kernel
theorem dX2_noteBlock_101 : decode cX2_noteBlock 101 = .ok (.iload_n 2, 1) := by decide +kernel
theorem dX2_noteBlock_102 : decode cX2_noteBlock 102 = .ok (.aload_n 3, 1) := by decide +kernel
theorem dX2_noteBlock_103 : decode cX2_noteBlock 103 = .ok (.getfield 134, 3) := by decide +kernel
theorem dX2_noteBlock_106 : decode cX2_noteBlock 106 = .ok (.iload 4, 2) := by decide +kernel
theorem dX2_noteBlock_108 : decode cX2_noteBlock 108 = .ok (.iaload, 1) := by decide +kernel
theorem dX2_noteBlock_109 : decode cX2_noteBlock 109 = .ok (.invokevirtual 127, 3) := by decide +kernel
theorem dX2_noteBlock_112 : decode cX2_noteBlock 112 = .ok (.aload_n 3, 1) := by decide +kernel
theorem dX2_noteBlock_113 : decode cX2_noteBlock 113 = .ok (.getfield 137, 3) := by decide +kernel
theorem dX2_noteBlock_116 : decode cX2_noteBlock 116 = .ok (.iload 4, 2) := by decide +kernel
theorem dX2_noteBlock_118 : decode cX2_noteBlock 118 = .ok (.iaload, 1) := by decide +kernel
theorem dX2_noteBlock_119 : decode cX2_noteBlock 119 = .ok (.ifCond .lt 33, 3) := by decide +kernel
theorem dX2_noteBlock_122 : decode cX2_noteBlock 122 = .ok (.aload_n 3, 1) := by decide +kernel
theorem dX2_noteBlock_123 : decode cX2_noteBlock 123 = .ok (.getfield 137, 3) := by decide +kernel
theorem dX2_noteBlock_126 : decode cX2_noteBlock 126 = .ok (.iload 4, 2) := by decide +kernel
theorem dX2_noteBlock_128 : decode cX2_noteBlock 128 = .ok (.iaload, 1) := by decide +kernel
theorem dX2_noteBlock_129 : decode cX2_noteBlock 129 = .ok (.aload_n 0, 1) := by decide +kernel
theorem dX2_noteBlock_130 : decode cX2_noteBlock 130 = .ok (.getfield 58, 3) := by decide +kernel
theorem dX2_noteBlock_133 : decode cX2_noteBlock 133 = .ok (.if_icmp .ge 19, 3) := by decide +kernel
theorem dX2_noteBlock_136 : decode cX2_noteBlock 136 = .ok (.aload_n 0, 1) := by decide +kernel
theorem dX2_noteBlock_137 : decode cX2_noteBlock 137 = .ok (.aload_n 0, 1) := by decide +kernel
theorem dX2_noteBlock_138 : decode cX2_noteBlock 138 = .ok (.getfield 15, 3) := by decide +kernel
theorem dX2_noteBlock_141 : decode cX2_noteBlock 141 = .ok (.iload_n 2, 1) := by decide +kernel
theorem dX2_noteBlock_142 : decode cX2_noteBlock 142 = .ok (.aload_n 3, 1) := by decide +kernel
theorem dX2_noteBlock_143 : decode cX2_noteBlock 143 = .ok (.getfield 137, 3) := by decide +kernel
theorem dX2_noteBlock_146 : decode cX2_noteBlock 146 = .ok (.iload 4, 2) := by decide +kernel
theorem dX2_noteBlock_148 : decode cX2_noteBlock 148 = .ok (.iaload, 1) := by decide +kernel
theorem dX2_noteBlock_149 : decode cX2_noteBlock 149 = .ok (.invokevirtual 140, 3) := by decide +kernel
theorem dX2_noteBlock_152 : decode cX2_noteBlock 152 = .ok (.aload_n 3, 1) := by decide +kernel
theorem dX2_noteBlock_153 : decode cX2_noteBlock 153 = .ok (.getfield 144, 3) := by decide +kernel
theorem dX2_noteBlock_156 : decode cX2_noteBlock 156 = .ok (.iload 4, 2) := by decide +kernel
theorem dX2_noteBlock_158 : decode cX2_noteBlock 158 = .ok (.iaload, 1) := by decide +kernel
theorem dX2_noteBlock_159 : decode cX2_noteBlock 159 = .ok (.istore 4, 2) := by decide +kernel
theorem dX2_noteBlock_161 : decode cX2_noteBlock 161 = .ok (.goto (-104), 3) := by decide +kernel
theorem dX2_noteBlock_164 : decode cX2_noteBlock 164 = .ok (.aload_n 1, 1) := by decide +kernel
theorem dX2_noteBlock_165 : decode cX2_noteBlock 165 = .ok (.getfield 147, 3) := by decide +kernel
theorem dX2_noteBlock_168 : decode cX2_noteBlock 168 = .ok (.iload_n 2, 1) := by decide +kernel
theorem dX2_noteBlock_169 : decode cX2_noteBlock 169 = .ok (.iaload, 1) := by decide +kernel
theorem dX2_noteBlock_170 : decode cX2_noteBlock 170 = .ok (.ifCond .lt 14, 3) := by decide +kernel
theorem dX2_noteBlock_173 : decode cX2_noteBlock 173 = .ok (.aload_n 0, 1) := by decide +kernel
theorem dX2_noteBlock_174 : decode cX2_noteBlock 174 = .ok (.iload_n 2, 1) := by decide +kernel
theorem dX2_noteBlock_175 : decode cX2_noteBlock 175 = .ok (.aload_n 1, 1) := by decide +kernel
theorem dX2_noteBlock_176 : decode cX2_noteBlock 176 = .ok (.getfield 147, 3) := by decide +kernel
theorem dX2_noteBlock_179 : decode cX2_noteBlock 179 = .ok (.iload_n 2, 1) := by decide +kernel
theorem dX2_noteBlock_180 : decode cX2_noteBlock 180 = .ok (.iaload, 1) := by decide +kernel
theorem dX2_noteBlock_181 : decode cX2_noteBlock 181 = .ok (.invokevirtual 127, 3) := by decide +kernel
theorem dX2_noteBlock_184 : decode cX2_noteBlock 184 = .ok (.return_, 1) := by decide +kernel
theorem dX2_noteUse_0 : decode cX2_noteUse 0 = .ok (.iload_n 2, 1) := by decide +kernel
theorem dX2_noteUse_1 : decode cX2_noteUse 1 = .ok (.aload_n 0, 1) := by decide +kernel
theorem dX2_noteUse_2 : decode cX2_noteUse 2 = .ok (.getfield 58, 3) := by decide +kernel
theorem dX2_noteUse_5 : decode cX2_noteUse 5 = .ok (.if_icmp .ge 26, 3) := by decide +kernel
theorem dX2_noteUse_8 : decode cX2_noteUse 8 = .ok (.aload_n 0, 1) := by decide +kernel
theorem dX2_noteUse_9 : decode cX2_noteUse 9 = .ok (.aload_n 0, 1) := by decide +kernel
theorem dX2_noteUse_10 : decode cX2_noteUse 10 = .ok (.getfield 15, 3) := by decide +kernel
theorem dX2_noteUse_13 : decode cX2_noteUse 13 = .ok (.iload_n 1, 1) := by decide +kernel
theorem dX2_noteUse_14 : decode cX2_noteUse 14 = .ok (.iload_n 2, 1) := by decide +kernel
theorem dX2_noteUse_15 : decode cX2_noteUse 15 = .ok (.invokevirtual 150, 3) := by decide +kernel
theorem dX2_noteUse_18 : decode cX2_noteUse 18 = .ok (.ifCond .ne 13, 3) := by decide +kernel
theorem dX2_noteUse_21 : decode cX2_noteUse 21 = .ok (.aload_n 0, 1) := by decide +kernel
theorem dX2_noteUse_22 : decode cX2_noteUse 22 = .ok (.aload_n 0, 1) := by decide +kernel
theorem dX2_noteUse_23 : decode cX2_noteUse 23 = .ok (.getfield 11, 3) := by decide +kernel
theorem dX2_noteUse_26 : decode cX2_noteUse 26 = .ok (.iload_n 1, 1) := by decide +kernel
theorem dX2_noteUse_27 : decode cX2_noteUse 27 = .ok (.iload_n 2, 1) := by decide +kernel
theorem dX2_noteUse_28 : decode cX2_noteUse 28 = .ok (.invokevirtual 140, 3) := by decide +kernel
theorem dX2_noteUse_31 : decode cX2_noteUse 31 = .ok (.return_, 1) := by decide +kernel
theorem dX2_registerBit_0 : decode cX2_registerBit 0 = .ok (.aload_n 0, 1) := by decide +kernel
theorem dX2_registerBit_1 : decode cX2_registerBit 1 = .ok (.getfield 49, 3) := by decide +kernel
theorem dX2_registerBit_4 : decode cX2_registerBit 4 = .ok (.iload_n 1, 1) := by decide +kernel
theorem dX2_registerBit_5 : decode cX2_registerBit 5 = .ok (.iaload, 1) := by decide +kernel
theorem dX2_registerBit_6 : decode cX2_registerBit 6 = .ok (.ifCond .ge 7, 3) := by decide +kernel
theorem dX2_registerBit_9 : decode cX2_registerBit 9 = .ok (.iconst 0, 1) := by decide +kernel
theorem dX2_registerBit_10 : decode cX2_registerBit 10 = .ok (.goto 11, 3) := by decide +kernel
theorem dX2_registerBit_13 : decode cX2_registerBit 13 = .ok (.iconst 1, 1) := by decide +kernel
theorem dX2_registerBit_14 : decode cX2_registerBit 14 = .ok (.aload_n 0, 1) := by decide +kernel
theorem dX2_registerBit_15 : decode cX2_registerBit 15 = .ok (.getfield 49, 3) := by decide +kernel
theorem dX2_registerBit_18 : decode cX2_registerBit 18 = .ok (.iload_n 1, 1) := by decide +kernel
theorem dX2_registerBit_19 : decode cX2_registerBit 19 = .ok (.iaload, 1) := by decide +kernel
theorem dX2_registerBit_20 : decode cX2_registerBit 20 = .ok (.ishl, 1) := by decide +kernel
theorem dX2_registerBit_21 : decode cX2_registerBit 21 = .ok (.ireturn, 1) := by decide +kernel
theorem dX2_takeAway_0 : decode cX2_takeAway 0 = .ok (.aload_n 0, 1) := by decide +kernel
theorem dX2_takeAway_1 : decode cX2_takeAway 1 = .ok (.getfield 52, 3) := by decide +kernel
theorem dX2_takeAway_4 : decode cX2_takeAway 4 = .ok (.iload_n 1, 1) := by decide +kernel
theorem dX2_takeAway_5 : decode cX2_takeAway 5 = .ok (.iconst (-1), 1) := by decide +kernel
theorem dX2_takeAway_6 : decode cX2_takeAway 6 = .ok (.iastore, 1) := by decide +kernel
theorem dX2_takeAway_7 : decode cX2_takeAway 7 = .ok (.iconst 0, 1) := by decide +kernel
theorem dX2_takeAway_8 : decode cX2_takeAway 8 = .ok (.istore_n 2, 1) := by decide +kernel
theorem dX2_takeAway_9 : decode cX2_takeAway 9 = .ok (.iload_n 2, 1) := by decide +kernel
theorem dX2_takeAway_10 : decode cX2_takeAway 10 = .ok (.aload_n 0, 1) := by decide +kernel
theorem dX2_takeAway_11 : decode cX2_takeAway 11 = .ok (.getfield 65, 3) := by decide +kernel
theorem dX2_takeAway_14 : decode cX2_takeAway 14 = .ok (.if_icmp .ge 51, 3) := by decide +kernel
theorem dX2_takeAway_17 : decode cX2_takeAway 17 = .ok (.aload_n 0, 1) := by decide +kernel
theorem dX2_takeAway_18 : decode cX2_takeAway 18 = .ok (.getfield 31, 3) := by decide +kernel
theorem dX2_takeAway_21 : decode cX2_takeAway 21 = .ok (.iload_n 1, 1) := by decide +kernel
theorem dX2_takeAway_22 : decode cX2_takeAway 22 = .ok (.aload_n 0, 1) := by decide +kernel
theorem dX2_takeAway_23 : decode cX2_takeAway 23 = .ok (.getfield 65, 3) := by decide +kernel
theorem dX2_takeAway_26 : decode cX2_takeAway 26 = .ok (.imul, 1) := by decide +kernel
theorem dX2_takeAway_27 : decode cX2_takeAway 27 = .ok (.iload_n 2, 1) := by decide +kernel
theorem dX2_takeAway_28 : decode cX2_takeAway 28 = .ok (.iadd, 1) := by decide +kernel
theorem dX2_takeAway_29 : decode cX2_takeAway 29 = .ok (.laload, 1) := by decide +kernel
theorem dX2_takeAway_30 : decode cX2_takeAway 30 = .ok (.lstore_n 3, 1) := by decide +kernel
theorem dX2_takeAway_31 : decode cX2_takeAway 31 = .ok (.lload_n 3, 1) := by decide +kernel
theorem dX2_takeAway_32 : decode cX2_takeAway 32 = .ok (.lconst 0, 1) := by decide +kernel
theorem dX2_takeAway_33 : decode cX2_takeAway 33 = .ok (.lcmp, 1) := by decide +kernel
theorem dX2_takeAway_34 : decode cX2_takeAway 34 = .ok (.ifCond .eq 25, 3) := by decide +kernel
theorem dX2_takeAway_37 : decode cX2_takeAway 37 = .ok (.aload_n 0, 1) := by decide +kernel
theorem dX2_takeAway_38 : decode cX2_takeAway 38 = .ok (.iload_n 2, 1) := by decide +kernel
theorem dX2_takeAway_39 : decode cX2_takeAway 39 = .ok (.bipush 64, 2) := by decide +kernel
theorem dX2_takeAway_41 : decode cX2_takeAway 41 = .ok (.imul, 1) := by decide +kernel
theorem dX2_takeAway_42 : decode cX2_takeAway 42 = .ok (.lload_n 3, 1) := by decide +kernel
theorem dX2_takeAway_43 : decode cX2_takeAway 43 = .ok (.invokestatic 203, 3) := by decide +kernel
theorem dX2_takeAway_46 : decode cX2_takeAway 46 = .ok (.iadd, 1) := by decide +kernel
theorem dX2_takeAway_47 : decode cX2_takeAway 47 = .ok (.invokevirtual 234, 3) := by decide +kernel
theorem dX2_takeAway_50 : decode cX2_takeAway 50 = .ok (.lload_n 3, 1) := by decide +kernel
theorem dX2_takeAway_51 : decode cX2_takeAway 51 = .ok (.lload_n 3, 1) := by decide +kernel
theorem dX2_takeAway_52 : decode cX2_takeAway 52 = .ok (.lconst 1, 1) := by decide +kernel
theorem dX2_takeAway_53 : decode cX2_takeAway 53 = .ok (.lsub, 1) := by decide +kernel
theorem dX2_takeAway_54 : decode cX2_takeAway 54 = .ok (.land, 1) := by decide +kernel
theorem dX2_takeAway_55 : decode cX2_takeAway 55 = .ok (.lstore_n 3, 1) := by decide +kernel
theorem dX2_takeAway_56 : decode cX2_takeAway 56 = .ok (.goto (-25), 3) := by decide +kernel
theorem dX2_takeAway_59 : decode cX2_takeAway 59 = .ok (.iinc 2 1, 3) := by decide +kernel
theorem dX2_takeAway_62 : decode cX2_takeAway 62 = .ok (.goto (-53), 3) := by decide +kernel
theorem dX2_takeAway_65 : decode cX2_takeAway 65 = .ok (.aload_n 0, 1) := by decide +kernel
theorem dX2_takeAway_66 : decode cX2_takeAway 66 = .ok (.getfield 34, 3) := by decide +kernel
theorem dX2_takeAway_69 : decode cX2_takeAway 69 = .ok (.iload_n 1, 1) := by decide +kernel
theorem dX2_takeAway_70 : decode cX2_takeAway 70 = .ok (.iaload, 1) := by decide +kernel
theorem dX2_takeAway_71 : decode cX2_takeAway 71 = .ok (.ifCond .lt 13, 3) := by decide +kernel
theorem dX2_takeAway_74 : decode cX2_takeAway 74 = .ok (.aload_n 0, 1) := by decide +kernel
theorem dX2_takeAway_75 : decode cX2_takeAway 75 = .ok (.aload_n 0, 1) := by decide +kernel
theorem dX2_takeAway_76 : decode cX2_takeAway 76 = .ok (.getfield 34, 3) := by decide +kernel
theorem dX2_takeAway_79 : decode cX2_takeAway 79 = .ok (.iload_n 1, 1) := by decide +kernel
theorem dX2_takeAway_80 : decode cX2_takeAway 80 = .ok (.iaload, 1) := by decide +kernel
theorem dX2_takeAway_81 : decode cX2_takeAway 81 = .ok (.invokevirtual 234, 3) := by decide +kernel
theorem dX2_takeAway_84 : decode cX2_takeAway 84 = .ok (.iload_n 1, 1) := by decide +kernel
theorem dX2_takeAway_85 : decode cX2_takeAway 85 = .ok (.aload_n 0, 1) := by decide +kernel
theorem dX2_takeAway_86 : decode cX2_takeAway 86 = .ok (.getfield 58, 3) := by decide +kernel
theorem dX2_takeAway_89 : decode cX2_takeAway 89 = .ok (.if_icmp .ge 40, 3) := by decide +kernel
theorem dX2_takeAway_92 : decode cX2_takeAway 92 = .ok (.aload_n 0, 1) := by decide +kernel
theorem dX2_takeAway_93 : decode cX2_takeAway 93 = .ok (.getfield 58, 3) := by decide +kernel
theorem dX2_takeAway_96 : decode cX2_takeAway 96 = .ok (.istore_n 2, 1) := by decide +kernel
theorem dX2_takeAway_97 : decode cX2_takeAway 97 = .ok (.iload_n 2, 1) := by decide +kernel
theorem dX2_takeAway_98 : decode cX2_takeAway 98 = .ok (.aload_n 0, 1) := by decide +kernel
theorem dX2_takeAway_99 : decode cX2_takeAway 99 = .ok (.getfield 62, 3) := by decide +kernel
theorem dX2_takeAway_102 : decode cX2_takeAway 102 = .ok (.if_icmp .ge 27, 3) := by decide +kernel
theorem dX2_takeAway_105 : decode cX2_takeAway 105 = .ok (.aload_n 0, 1) := by decide +kernel
theorem dX2_takeAway_106 : decode cX2_takeAway 106 = .ok (.aload_n 0, 1) := by decide +kernel
theorem dX2_takeAway_107 : decode cX2_takeAway 107 = .ok (.getfield 31, 3) := by decide +kernel
theorem dX2_takeAway_110 : decode cX2_takeAway 110 = .ok (.iload_n 2, 1) := by decide +kernel
theorem dX2_takeAway_111 : decode cX2_takeAway 111 = .ok (.iload_n 1, 1) := by decide +kernel
theorem dX2_takeAway_112 : decode cX2_takeAway 112 = .ok (.invokevirtual 150, 3) := by decide +kernel
theorem dX2_takeAway_115 : decode cX2_takeAway 115 = .ok (.ifCond .eq 8, 3) := by decide +kernel
theorem dX2_takeAway_118 : decode cX2_takeAway 118 = .ok (.aload_n 0, 1) := by decide +kernel
theorem dX2_takeAway_119 : decode cX2_takeAway 119 = .ok (.iload_n 2, 1) := by decide +kernel
theorem dX2_takeAway_120 : decode cX2_takeAway 120 = .ok (.invokevirtual 234, 3) := by decide +kernel
theorem dX2_takeAway_123 : decode cX2_takeAway 123 = .ok (.iinc 2 1, 3) := by decide +kernel
theorem dX2_takeAway_126 : decode cX2_takeAway 126 = .ok (.goto (-29), 3) := by decide +kernel
theorem dX2_takeAway_129 : decode cX2_takeAway 129 = .ok (.return_, 1) := by decide +kernel
theorem qw656 : Cond.code yX2_weigh cX2_weigh 8 (Option.none : Option Jvm.ClassFile.FieldType) ∈ gw := mq_9 (i := 74) rfl rfl
theorem qw657 : Cond.methodLink RX2 212 yX2_weigh ∈ gw := mq_9 (i := 71) rfl rfl
theorem qw658 : Cond.instanceMethod yX2_weigh ∈ gw := mq_9 (i := 73) rfl rfl
theorem qw659 : Cond.selects RX2 yX2_weigh yX2_weigh ∈ gw := mk_s (i := 59) rfl rfl
theorem qw660 : Cond.fieldLink RX2 52 "Gearbox$Graph" "left" "[I" ∈ gw := mq_3 (i := 43) rfl rfl
theorem qw661 : Cond.fieldLink RX2 49 "Gearbox$Graph" "register" "[I" ∈ gw := mq_3 (i := 41) rfl rfl
theorem qw662 : Cond.fieldLink RX2 55 "Gearbox$Graph" "order" "[I" ∈ gw := mq_3 (i := 44) rfl rfl
theorem qw663 : Cond.code yX2_nextToTake cX2_nextToTake 4 (Option.some Jvm.ClassFile.FieldType.int) ∈ gw := mq_9 (i := 79) rfl rfl
theorem qw664 : Cond.methodLink RX2 215 yX2_nextToTake ∈ gw := mq_9 (i := 76) rfl rfl
theorem qw665 : Cond.instanceMethod yX2_nextToTake ∈ gw := mq_9 (i := 78) rfl rfl
theorem qw666 : Cond.selects RX2 yX2_nextToTake yX2_nextToTake ∈ gw := mk_s (i := 60) rfl rfl
theorem qw667 : Cond.code yX2_lowerLeft cX2_lowerLeft 2 (Option.none : Option Jvm.ClassFile.FieldType) ∈ gw := mq_9 (i := 87) rfl rfl
theorem qw668 : Cond.methodLink RX2 234 yX2_lowerLeft ∈ gw := mq_9 (i := 84) rfl rfl
theorem qw669 : Cond.instanceMethod yX2_lowerLeft ∈ gw := mq_9 (i := 86) rfl rfl
theorem qw670 : Cond.selects RX2 yX2_lowerLeft yX2_lowerLeft ∈ gw := mk_s (i := 61) rfl rfl
theorem qw671 : Cond.fieldLink RX2 34 "Gearbox$Graph" "mate" "[I" ∈ gw := mq_3 (i := 34) rfl rfl
theorem qw672 : Cond.code yX2_takeAway cX2_takeAway 5 (Option.none : Option Jvm.ClassFile.FieldType) ∈ gw := mq_9 (i := 83) rfl rfl
theorem qw673 : Cond.methodLink RX2 219 yX2_takeAway ∈ gw := mq_9 (i := 80) rfl rfl
theorem qw674 : Cond.instanceMethod yX2_takeAway ∈ gw := mq_9 (i := 82) rfl rfl
theorem qw675 : Cond.selects RX2 yX2_takeAway yX2_takeAway ∈ gw := mk_s (i := 62) rfl rfl
theorem qw676 : Cond.code yX2_registerBit cX2_registerBit 2 (Option.some Jvm.ClassFile.FieldType.int) ∈ gw := mq_9 (i := 95) rfl rfl
theorem qw677 : Cond.methodLink RX2 237 yX2_registerBit ∈ gw := mq_9 (i := 92) rfl rfl
theorem qw678 : Cond.instanceMethod yX2_registerBit ∈ gw := mq_9 (i := 94) rfl rfl
theorem qw679 : Cond.selects RX2 yX2_registerBit yX2_registerBit ∈ gw := mk_s (i := 63) rfl rfl
theorem qw680 : Cond.code yX2_freeRegister cX2_freeRegister 7 (Option.some Jvm.ClassFile.FieldType.int) ∈ gw := mq_9 (i := 91) rfl rfl
theorem qw681 : Cond.methodLink RX2 222 yX2_freeRegister ∈ gw := mq_9 (i := 88) rfl rfl
theorem qw682 : Cond.instanceMethod yX2_freeRegister ∈ gw := mq_9 (i := 90) rfl rfl
theorem qw683 : Cond.selects RX2 yX2_freeRegister yX2_freeRegister ∈ gw := mk_s (i := 64) rfl rfl
theorem qw684 : Cond.methodLink RX2 207 yJ13_bitCount_95d88 ∈ gw := mq_9 (i := 47) rfl rfl
theorem qw686 : Cond.fieldLink RX2 11 "Gearbox$Graph" "uses" "[J" ∈ gw := mq_3 (i := 26) rfl rfl
theorem qw687 : Cond.code yX2_bitIn cX2_bitIn 3 (Option.some Jvm.ClassFile.FieldType.long) ∈ gw := mq_9 (i := 25) rfl rfl
theorem qw688 : Cond.methodLink RX2 199 yX2_bitIn ∈ gw := mq_9 (i := 22) rfl rfl
theorem qw689 : Cond.instanceMethod yX2_bitIn ∈ gw := mq_9 (i := 24) rfl rfl
theorem qw690 : Cond.selects RX2 yX2_bitIn yX2_bitIn ∈ gw := mk_s (i := 65) rfl rfl
theorem qw691 : Cond.constantLong RX2 175 (-1) ∈ gw := mq_8 (i := 239) rfl rfl
theorem qw699 : Cond.fieldLink RX2 15 "Gearbox$Graph" "givenIn" "[J" ∈ gw := mq_3 (i := 27) rfl rfl
theorem qw700 : Cond.code yX2_noteUse cX2_noteUse 3 (Option.none : Option Jvm.ClassFile.FieldType) ∈ gw := mq_8 (i := 218) rfl rfl
theorem qw701 : Cond.methodLink RX2 127 yX2_noteUse ∈ gw := mq_8 (i := 215) rfl rfl
theorem qw702 : Cond.instanceMethod yX2_noteUse ∈ gw := mq_8 (i := 217) rfl rfl
theorem qw703 : Cond.selects RX2 yX2_noteUse yX2_noteUse ∈ gw := mk_s (i := 67) rfl rfl
def fX2_nextToTake_J102 (kk4 : Int32 → Int32 → Option (Sum Int32 Int32)) (v3_4 : Int32) (v2_102 : Int32) : Option (Sum Int32 Int32) := (kk4 v2_102 (v3_4 + 1))
def fX2_nextToTake_J100 (kk4 : Int32 → Int32 → Option (Sum Int32 Int32)) (v3_4 : Int32) : Option (Sum Int32 Int32) := (fX2_nextToTake_J102 kk4 v3_4 v3_4)
def fX2_nextToTake_J64 (kk4 : Int32 → Int32 → Option (Sum Int32 Int32)) (p0n : Nat → Nat) (p0w : ST) (p0l : SL) (v2_4 : Int32) (v3_4 : Int32) : Option (Sum Int32 Int32) := (if v2_4 < 0 then (fX2_nextToTake_J100 kk4 v3_4) else (if ixb v3_4 (p0n 14) = true then (if ixb v2_4 (p0n 18) = true then (if ixb v2_4 (p0n 14) = true then (if ixb v3_4 (p0n 18) = true then (if 0 ≤ (lg_cmp ((p0l 14 (nn v3_4)) * (((p0w 18 (nn v2_4)) : Int32).toInt64)) ((p0l 14 (nn v2_4)) * (((p0w 18 (nn v3_4)) : Int32).toInt64))) then (fX2_nextToTake_J102 kk4 v3_4 v2_4) else (fX2_nextToTake_J100 kk4 v3_4)) else none) else none) else none) else none))
def fX2_nextToTake_J34 (kk4 : Int32 → Int32 → Option (Sum Int32 Int32)) (p0n : Nat → Nat) (p0w : ST) (p0l : SL) (v2_4 : Int32) (v3_4 : Int32) : Option (Sum Int32 Int32) := (if ixb v3_4 (p0n 18) = true then (if (p0w 18 (nn v3_4)) = (-1) then (fX2_nextToTake_J102 kk4 v3_4 v2_4) else (if v3_4 < (p0w 0 0) then (fX2_nextToTake_J64 kk4 p0n p0w p0l v2_4 v3_4) else (if v2_4 < 0 then (fX2_nextToTake_J64 kk4 p0n p0w p0l v2_4 v3_4) else (if v2_4 < (p0w 0 0) then (fX2_nextToTake_J102 kk4 v3_4 v2_4) else (fX2_nextToTake_J64 kk4 p0n p0w p0l v2_4 v3_4))))) else none)
def fX2_nextToTake_L4 (p0n : Nat → Nat) (p0w : ST) (p0l : SL) (p1 : Int32) : Nat → Int32 → Int32 → Option (Sum Int32 Int32)
  | 0 => fun _ _ => none
  | n_4 + 1 => fun v2_4 v3_4 => (if (p0w 0 1) ≤ v3_4 then some (Sum.inr v2_4) else (if ixb v3_4 (p0n 18) = true then (if (p0w 18 (nn v3_4)) = (-1) then (fX2_nextToTake_J34 (fX2_nextToTake_L4 p0n p0w p0l p1 n_4) p0n p0w p0l v2_4 v3_4) else (if ixb v3_4 (p0n 18) = true then (if p1 ≤ (p0w 18 (nn v3_4)) then (fX2_nextToTake_J34 (fX2_nextToTake_L4 p0n p0w p0l p1 n_4) p0n p0w p0l v2_4 v3_4) else some (Sum.inl v3_4)) else none)) else none))
def fX2_nextToTake (p0n : Nat → Nat) (p0w : ST) (p0l : SL) (p1 : Int32) : Option Int32 := ((fX2_nextToTake_L4 p0n p0w p0l p1 NF (-1) 0).bind fun (o4 : (Sum Int32 Int32)) => Sum.elim (fun r => some r) (fun (t4 : Int32) => some t4) o4)
set_option maxHeartbeats 16000000 in
set_option maxRecDepth 100000 in
theorem kX2_nextToTake {zs : Nat × Nat} (l : Launch) (dC : Nat → ClassId) (dI : Nat → Nat → Nat) (p0a : Nat → Nat) (p0k : Nat → ClassId) (p0n : Nat → Nat) (p0w : ST) (p0l : SL) (p1 : Int32) (sz : Nat) (o : Int32) (hrun : fX2_nextToTake p0n p0w p0l p1 = some o) : Met l yX2_nextToTake (wz yX2_nextToTake cX2_nextToTake 4 (Option.some Jvm.ClassFile.FieldType.int)) ({ frames := 0, cells := 0, slots := 0, locals := 0 } : Room) (va_Pc [.ref (p0a 0), .int p1] (PRE zs dC dI (oX2 (p0a 0) p0a p0k p0n p0w p0l) (tX2 p0k) sz)) (va_Qi (fun (r : Int32) (_ : Unit) => r = o) (fun _ t => POST dC dI (oX2 (p0a 0) p0a p0k p0n p0w p0l) (tX2 p0k) (va_A (oX2 (p0a 0) p0a p0k p0n p0w p0l) sz) t) (va_A (oX2 (p0a 0) p0a p0k p0n p0w p0l) sz)) 0 0 (va_A (oX2 (p0a 0) p0a p0k p0n p0w p0l) sz) := by
  refine Met.ofW (cc := cX2_nextToTake) (maxL := 4) (ret := (Option.some Jvm.ClassFile.FieldType.int)) (by decide) rfl ?_
  intro p e s m args below meth c s₁ B hml hv
  obtain ⟨rfl, hsz, hP, hK, hD0, hE⟩ := hv
  have hx := B.exec
  have hb := B.bytes
  have hr := B.returns
  have hts0 := atoms_spec (ws := wz yX2_nextToTake cX2_nextToTake 4 (Option.some Jvm.ClassFile.FieldType.int)) B.pre
  have hts : ∀ w ∈ gw, w.before _ s = true := fun w h => hts0 w (List.mem_cons_of_mem _ h)
  have hown : s.vm.findClass RX2 = some m.cls := findClass_of_methodNamed B.named
  have hlocks := B.notSynchronized
  subst hsz
  have hD := hD0.self (sz := s.heap.size)
  refine gQ9 ?_
  intro Q hQ
  generalize hAe : va_A (oX2 (p0a 0) p0a p0k p0n p0w p0l) s.heap.size = A at hD hE hQ
  have hA : ∀ q : Nat, s.heap.size ≤ q → A q := fun q h => by rw [← hAe]; exact Or.inr h
  have hS : va_S A s.heap s.heap [] := va_S.rf
  have hP : va_P (dC, dI) cls (oX2 (p0a 0) p0a p0k p0n p0w p0l) s.heap := hP
  have hl := lv_entry ([.ref (p0a 0), .int p1]) (n := 4) (Nat.le_of_ble_eq_true rfl)
  rw [lg_entry_eq]
  generalize (lg_sl ([.ref (p0a 0), .int p1]) ++ List.replicate (4 - (lg_sl ([.ref (p0a 0), .int p1])).length) Slot.unset).toArray = ls at hl ⊢
  have hl : lv_has ls 4 [(0, .ref (p0a 0)), (1, .int p1)] := hl
  obtain ⟨H, hHe⟩ : ∃ H, H = s.heap := ⟨_, rfl⟩
  obtain ⟨locs, hle⟩ : ∃ locs : List Loc, locs = [] := ⟨_, rfl⟩
  rw [← hHe] at hP
  have hS : va_S A s.heap H locs := by rw [hHe, hle]; exact hS
  show W p l e ({ frames := 0, cells := 0, slots := 0, locals := 0 } : Room) s m ([.ref (p0a 0), .int p1] : List Value).toArray below meth c s.heap [] 0 0 Q (F0 m 0 ls [])
  rw [← hle]
  refine wH9 hHe ?_
  unfold fX2_nextToTake at hrun
  refine lv_iconst (v := (-1)) hx hb dX2_nextToTake_0 (by decide) ?_
  refine lv_istore_n (lv' := [(2, .int (-1)), (0, .ref (p0a 0)), (1, .int p1)]) hx hb dX2_nextToTake_1 rfl hl (by decide) rfl (fun ls hl => ?_)
  refine lv_iconst (v := 0) hx hb dX2_nextToTake_2 (by decide) ?_
  refine lv_istore_n (lv' := [(3, .int 0), (2, .int (-1)), (0, .ref (p0a 0)), (1, .int p1)]) hx hb dX2_nextToTake_3 rfl hl (by decide) rfl (fun ls hl => ?_)
  have L4 : ∀ (n_4 : Nat) (v2_4 : Int32) (v3_4 : Int32) (o4 : (Sum Int32 Int32)) (H : Heap) (locs : List Loc) (ls : Array Slot), (fX2_nextToTake_L4 p0n p0w p0l p1 n_4) v2_4 v3_4 = some o4 → va_P (dC, dI) cls (oX2 (p0a 0) p0a p0k p0n p0w p0l) H → va_D A (oX2 (p0a 0) p0a p0k p0n p0w p0l) → va_S A s.heap H locs → lv_has ls 4 [(0, .ref (p0a 0)), (1, .int p1), (2, .int v2_4), (3, .int v3_4)] → (∀ r, o4 = Sum.inl r → r = o) → (∀ (t4 : Int32), o4 = Sum.inr t4 → ∀ (H : Heap) (locs : List Loc) (ls : Array Slot), va_P (dC, dI) cls (oX2 (p0a 0) p0a p0k p0n p0w p0l) H → va_D A (oX2 (p0a 0) p0a p0k p0n p0w p0l) → va_S A s.heap H locs → lv_has ls 4 [(2, .int t4)] → W p l e ({ frames := 0, cells := 0, slots := 0, locals := 0 } : Room) s m ([.ref (p0a 0), .int p1] : List Value).toArray below meth c H locs 0 0 Q (F0 m 108 ls [])) → W p l e ({ frames := 0, cells := 0, slots := 0, locals := 0 } : Room) s m ([.ref (p0a 0), .int p1] : List Value).toArray below meth c H locs 0 0 Q (F0 m 4 ls []) := by
    intro n_4
    induction n_4 with
    | zero => intro v2_4 v3_4 o4 H locs ls hrun; exact (no9 rfl hrun).elim
    | succ n_4 IH4 =>
      intro v2_4 v3_4 o4 H locs ls hrun hP hD hS hl hr4 hk4
      unfold fX2_nextToTake_L4 at hrun
      refine lv_iload_n hx hb dX2_nextToTake_4 rfl (lv_at hl 3 rfl) ?_
      refine lv_aload_n hx hb dX2_nextToTake_5 rfl (lv_at hl 0 rfl) ?_
      refine va_get (D := (dC, dI)) (ci := 9) (v := .int (p0w 0 1)) (C := RX2) (T := TX2) (N := 19) hx hb hts i_X2 hown hK hP 0 rfl rfl 1 (by decide) (hts _ qw606) (fun _ h9 => h9) rfl dX2_nextToTake_6 ?_
      rcases br9 hrun with ⟨hc1, hrun⟩ | ⟨hc1, hrun⟩
      · refine lv_icmp_ge (tgt := 108) hx hb dX2_nextToTake_9 (by decide) (fun _ => ?_) (fun c => absurd hc1 c)
        obtain rfl := (Option.some.inj hrun)
        exact hk4 _ rfl _ _ _ hP hD hS (lv_sub hl [2] rfl)
      · refine lv_icmp_ge (tgt := 108) hx hb dX2_nextToTake_9 (by decide) (fun c => absurd c hc1) (fun _ => ?_)
        refine lv_aload_n hx hb dX2_nextToTake_12 rfl (lv_at hl 0 rfl) ?_
        refine va_get (D := (dC, dI)) (ci := 9) (v := .ref (p0a 18)) (C := RX2) (T := TX2) (N := 19) hx hb hts i_X2 hown hK hP 0 rfl rfl 17 (by decide) (hts _ qw660) (fun _ h9 => h9) rfl dX2_nextToTake_13 ?_
        refine lv_iload_n hx hb dX2_nextToTake_16 rfl (lv_at hl 3 rfl) ?_
        obtain ⟨hq2, hrun⟩ := chk9 hrun
        refine va_iald hx hb hK hP 14 13 rfl rfl (ixb_in hq2) dX2_nextToTake_17 ?_
        refine lv_iconst (v := (-1)) hx hb dX2_nextToTake_18 (by decide) ?_
        have J34 : ∀ (H : Heap) (locs : List Loc) (ls : Array Slot), (fX2_nextToTake_J34 (fX2_nextToTake_L4 p0n p0w p0l p1 n_4) p0n p0w p0l v2_4 v3_4) = some o4 → va_P (dC, dI) cls (oX2 (p0a 0) p0a p0k p0n p0w p0l) H → va_D A (oX2 (p0a 0) p0a p0k p0n p0w p0l) → va_S A s.heap H locs → lv_has ls 4 [(0, .ref (p0a 0)), (1, .int p1), (2, .int v2_4), (3, .int v3_4)] → W p l e ({ frames := 0, cells := 0, slots := 0, locals := 0 } : Room) s m ([.ref (p0a 0), .int p1] : List Value).toArray below meth c H locs 0 0 Q (F0 m 34 ls []) := by
          intro  H locs ls hrun hP hD hS hl
          unfold fX2_nextToTake_J34 at hrun
          refine lv_aload_n hx hb dX2_nextToTake_34 rfl (lv_at hl 0 rfl) ?_
          refine va_get (D := (dC, dI)) (ci := 9) (v := .ref (p0a 18)) (C := RX2) (T := TX2) (N := 19) hx hb hts i_X2 hown hK hP 0 rfl rfl 17 (by decide) (hts _ qw660) (fun _ h9 => h9) rfl dX2_nextToTake_35 ?_
          refine lv_iload_n hx hb dX2_nextToTake_38 rfl (lv_at hl 3 rfl) ?_
          obtain ⟨hq3, hrun⟩ := chk9 hrun
          refine va_iald hx hb hK hP 14 13 rfl rfl (ixb_in hq3) dX2_nextToTake_39 ?_
          refine lv_iconst (v := (-1)) hx hb dX2_nextToTake_40 (by decide) ?_
          have J102 : ∀ (v2_102 : Int32) (H : Heap) (locs : List Loc) (ls : Array Slot), (fX2_nextToTake_J102 (fX2_nextToTake_L4 p0n p0w p0l p1 n_4) v3_4 v2_102) = some o4 → va_P (dC, dI) cls (oX2 (p0a 0) p0a p0k p0n p0w p0l) H → va_D A (oX2 (p0a 0) p0a p0k p0n p0w p0l) → va_S A s.heap H locs → lv_has ls 4 [(0, .ref (p0a 0)), (1, .int p1), (2, .int v2_102), (3, .int v3_4)] → W p l e ({ frames := 0, cells := 0, slots := 0, locals := 0 } : Room) s m ([.ref (p0a 0), .int p1] : List Value).toArray below meth c H locs 0 0 Q (F0 m 102 ls []) := by
            intro v2_102 H locs ls hrun hP hD hS hl
            unfold fX2_nextToTake_J102 at hrun
            refine lv_iinc (v := (v3_4 + 1)) (lv' := [(3, .int (v3_4 + 1)), (0, .ref (p0a 0)), (1, .int p1), (2, .int v2_102)]) hx hb dX2_nextToTake_102 hl (k := 3) rfl rfl (by decide) rfl (fun ls hl => ?_)
            refine lv_goto (tgt := 4) hx hb dX2_nextToTake_105 (by decide) ?_
            exact IH4 v2_102 (v3_4 + 1) o4 _ _ _ hrun hP hD hS (lv_sub hl [1, 2, 3, 0] rfl) hr4 hk4
          rcases br9 hrun with ⟨hc4, hrun⟩ | ⟨hc4, hrun⟩
          · refine lv_icmp_eq (tgt := 102) hx hb dX2_nextToTake_41 (by decide) (fun _ => ?_) (fun c => absurd hc4 c)
            exact J102 v2_4 _ _ _ hrun hP hD hS (lv_sub hl [0, 1, 2, 3] rfl)
          · refine lv_icmp_eq (tgt := 102) hx hb dX2_nextToTake_41 (by decide) (fun c => absurd c hc4) (fun _ => ?_)
            refine lv_iload_n hx hb dX2_nextToTake_44 rfl (lv_at hl 3 rfl) ?_
            refine lv_aload_n hx hb dX2_nextToTake_45 rfl (lv_at hl 0 rfl) ?_
            refine va_get (D := (dC, dI)) (ci := 9) (v := .int (p0w 0 0)) (C := RX2) (T := TX2) (N := 19) hx hb hts i_X2 hown hK hP 0 rfl rfl 0 (by decide) (hts _ qw588) (fun _ h9 => h9) rfl dX2_nextToTake_46 ?_
            have J64 : ∀ (H : Heap) (locs : List Loc) (ls : Array Slot), (fX2_nextToTake_J64 (fX2_nextToTake_L4 p0n p0w p0l p1 n_4) p0n p0w p0l v2_4 v3_4) = some o4 → va_P (dC, dI) cls (oX2 (p0a 0) p0a p0k p0n p0w p0l) H → va_D A (oX2 (p0a 0) p0a p0k p0n p0w p0l) → va_S A s.heap H locs → lv_has ls 4 [(0, .ref (p0a 0)), (1, .int p1), (2, .int v2_4), (3, .int v3_4)] → W p l e ({ frames := 0, cells := 0, slots := 0, locals := 0 } : Room) s m ([.ref (p0a 0), .int p1] : List Value).toArray below meth c H locs 0 0 Q (F0 m 64 ls []) := by
              intro  H locs ls hrun hP hD hS hl
              unfold fX2_nextToTake_J64 at hrun
              refine lv_iload_n hx hb dX2_nextToTake_64 rfl (lv_at hl 2 rfl) ?_
              have J100 : ∀ (H : Heap) (locs : List Loc) (ls : Array Slot), (fX2_nextToTake_J100 (fX2_nextToTake_L4 p0n p0w p0l p1 n_4) v3_4) = some o4 → va_P (dC, dI) cls (oX2 (p0a 0) p0a p0k p0n p0w p0l) H → va_D A (oX2 (p0a 0) p0a p0k p0n p0w p0l) → va_S A s.heap H locs → lv_has ls 4 [(0, .ref (p0a 0)), (1, .int p1), (3, .int v3_4)] → W p l e ({ frames := 0, cells := 0, slots := 0, locals := 0 } : Room) s m ([.ref (p0a 0), .int p1] : List Value).toArray below meth c H locs 0 0 Q (F0 m 100 ls []) := by
                intro  H locs ls hrun hP hD hS hl
                unfold fX2_nextToTake_J100 at hrun
                refine lv_iload_n hx hb dX2_nextToTake_100 rfl (lv_at hl 2 rfl) ?_
                refine lv_istore_n (lv' := [(2, .int v3_4), (0, .ref (p0a 0)), (1, .int p1), (3, .int v3_4)]) hx hb dX2_nextToTake_101 rfl hl (by decide) rfl (fun ls hl => ?_)
                exact J102 v3_4 _ _ _ hrun hP hD hS (lv_sub hl [1, 2, 0, 3] rfl)
              rcases br9 hrun with ⟨hc5, hrun⟩ | ⟨hc5, hrun⟩
              · refine lv_if_lt (tgt := 100) hx hb dX2_nextToTake_65 (by decide) (fun _ => ?_) (fun c => absurd hc5 c)
                exact J100 _ _ _ hrun hP hD hS (lv_sub hl [0, 1, 3] rfl)
              · refine lv_if_lt (tgt := 100) hx hb dX2_nextToTake_65 (by decide) (fun c => absurd c hc5) (fun _ => ?_)
                refine lv_aload_n hx hb dX2_nextToTake_68 rfl (lv_at hl 0 rfl) ?_
                refine va_get (D := (dC, dI)) (ci := 9) (v := .ref (p0a 14)) (C := RX2) (T := TX2) (N := 19) hx hb hts i_X2 hown hK hP 0 rfl rfl 13 (by decide) (hts _ qw638) (fun _ h9 => h9) rfl dX2_nextToTake_69 ?_
                refine lv_iload_n hx hb dX2_nextToTake_72 rfl (lv_at hl 3 rfl) ?_
                obtain ⟨hq6, hrun⟩ := chk9 hrun
                refine va_lald hx hb hK hP 10 9 rfl rfl (ixb_in hq6) dX2_nextToTake_73 ?_
                refine lv_aload_n hx hb dX2_nextToTake_74 rfl (lv_at hl 0 rfl) ?_
                refine va_get (D := (dC, dI)) (ci := 9) (v := .ref (p0a 18)) (C := RX2) (T := TX2) (N := 19) hx hb hts i_X2 hown hK hP 0 rfl rfl 17 (by decide) (hts _ qw660) (fun _ h9 => h9) rfl dX2_nextToTake_75 ?_
                refine lv_iload_n hx hb dX2_nextToTake_78 rfl (lv_at hl 2 rfl) ?_
                obtain ⟨hq7, hrun⟩ := chk9 hrun
                refine va_iald hx hb hK hP 14 13 rfl rfl (ixb_in hq7) dX2_nextToTake_79 ?_
                refine lv_i2l (v := (((p0w 18 (nn v2_4)) : Int32).toInt64)) hx hb dX2_nextToTake_80 rfl ?_
                refine lv_lmul hx hb dX2_nextToTake_81 ?_
                refine lv_aload_n hx hb dX2_nextToTake_82 rfl (lv_at hl 0 rfl) ?_
                refine va_get (D := (dC, dI)) (ci := 9) (v := .ref (p0a 14)) (C := RX2) (T := TX2) (N := 19) hx hb hts i_X2 hown hK hP 0 rfl rfl 13 (by decide) (hts _ qw638) (fun _ h9 => h9) rfl dX2_nextToTake_83 ?_
                refine lv_iload_n hx hb dX2_nextToTake_86 rfl (lv_at hl 2 rfl) ?_
                obtain ⟨hq8, hrun⟩ := chk9 hrun
                refine va_lald hx hb hK hP 10 9 rfl rfl (ixb_in hq8) dX2_nextToTake_87 ?_
                refine lv_aload_n hx hb dX2_nextToTake_88 rfl (lv_at hl 0 rfl) ?_
                refine va_get (D := (dC, dI)) (ci := 9) (v := .ref (p0a 18)) (C := RX2) (T := TX2) (N := 19) hx hb hts i_X2 hown hK hP 0 rfl rfl 17 (by decide) (hts _ qw660) (fun _ h9 => h9) rfl dX2_nextToTake_89 ?_
                refine lv_iload_n hx hb dX2_nextToTake_92 rfl (lv_at hl 3 rfl) ?_
                obtain ⟨hq9, hrun⟩ := chk9 hrun
                refine va_iald hx hb hK hP 14 13 rfl rfl (ixb_in hq9) dX2_nextToTake_93 ?_
                refine lv_i2l (v := (((p0w 18 (nn v3_4)) : Int32).toInt64)) hx hb dX2_nextToTake_94 rfl ?_
                refine lv_lmul hx hb dX2_nextToTake_95 ?_
                refine W.lcmp hx hb dX2_nextToTake_96 ?_
                rcases br9 hrun with ⟨hc10, hrun⟩ | ⟨hc10, hrun⟩
                · refine lv_if_ge (tgt := 102) hx hb dX2_nextToTake_97 (by decide) (fun _ => ?_) (fun c => absurd hc10 c)
                  exact J102 v2_4 _ _ _ hrun hP hD hS (lv_sub hl [0, 1, 2, 3] rfl)
                · refine lv_if_ge (tgt := 102) hx hb dX2_nextToTake_97 (by decide) (fun c => absurd c hc10) (fun _ => ?_)
                  exact J100 _ _ _ hrun hP hD hS (lv_sub hl [0, 1, 3] rfl)
            rcases br9 hrun with ⟨hc11, hrun⟩ | ⟨hc11, hrun⟩
            · refine lv_icmp_lt (tgt := 64) hx hb dX2_nextToTake_49 (by decide) (fun _ => ?_) (fun c => absurd hc11 c)
              exact J64 _ _ _ hrun hP hD hS (lv_sub hl [0, 1, 2, 3] rfl)
            · refine lv_icmp_lt (tgt := 64) hx hb dX2_nextToTake_49 (by decide) (fun c => absurd c hc11) (fun _ => ?_)
              refine lv_iload_n hx hb dX2_nextToTake_52 rfl (lv_at hl 2 rfl) ?_
              rcases br9 hrun with ⟨hc12, hrun⟩ | ⟨hc12, hrun⟩
              · refine lv_if_lt (tgt := 64) hx hb dX2_nextToTake_53 (by decide) (fun _ => ?_) (fun c => absurd hc12 c)
                exact J64 _ _ _ hrun hP hD hS (lv_sub hl [0, 1, 2, 3] rfl)
              · refine lv_if_lt (tgt := 64) hx hb dX2_nextToTake_53 (by decide) (fun c => absurd c hc12) (fun _ => ?_)
                refine lv_iload_n hx hb dX2_nextToTake_56 rfl (lv_at hl 2 rfl) ?_
                refine lv_aload_n hx hb dX2_nextToTake_57 rfl (lv_at hl 0 rfl) ?_
                refine va_get (D := (dC, dI)) (ci := 9) (v := .int (p0w 0 0)) (C := RX2) (T := TX2) (N := 19) hx hb hts i_X2 hown hK hP 0 rfl rfl 0 (by decide) (hts _ qw588) (fun _ h9 => h9) rfl dX2_nextToTake_58 ?_
                rcases br9 hrun with ⟨hc13, hrun⟩ | ⟨hc13, hrun⟩
                · refine lv_icmp_lt (tgt := 102) hx hb dX2_nextToTake_61 (by decide) (fun _ => ?_) (fun c => absurd hc13 c)
                  exact J102 v2_4 _ _ _ hrun hP hD hS (lv_sub hl [0, 1, 2, 3] rfl)
                · refine lv_icmp_lt (tgt := 102) hx hb dX2_nextToTake_61 (by decide) (fun c => absurd c hc13) (fun _ => ?_)
                  exact J64 _ _ _ hrun hP hD hS (lv_sub hl [0, 1, 2, 3] rfl)
        rcases br9 hrun with ⟨hc14, hrun⟩ | ⟨hc14, hrun⟩
        · refine lv_icmp_eq (tgt := 34) hx hb dX2_nextToTake_19 (by decide) (fun _ => ?_) (fun c => absurd hc14 c)
          exact J34 _ _ _ hrun hP hD hS (lv_sub hl [0, 1, 2, 3] rfl)
        · refine lv_icmp_eq (tgt := 34) hx hb dX2_nextToTake_19 (by decide) (fun c => absurd c hc14) (fun _ => ?_)
          refine lv_aload_n hx hb dX2_nextToTake_22 rfl (lv_at hl 0 rfl) ?_
          refine va_get (D := (dC, dI)) (ci := 9) (v := .ref (p0a 18)) (C := RX2) (T := TX2) (N := 19) hx hb hts i_X2 hown hK hP 0 rfl rfl 17 (by decide) (hts _ qw660) (fun _ h9 => h9) rfl dX2_nextToTake_23 ?_
          refine lv_iload_n hx hb dX2_nextToTake_26 rfl (lv_at hl 3 rfl) ?_
          obtain ⟨hq15, hrun⟩ := chk9 hrun
          refine va_iald hx hb hK hP 14 13 rfl rfl (ixb_in hq15) dX2_nextToTake_27 ?_
          refine lv_iload_n hx hb dX2_nextToTake_28 rfl (lv_at hl 1 rfl) ?_
          rcases br9 hrun with ⟨hc16, hrun⟩ | ⟨hc16, hrun⟩
          · refine lv_icmp_ge (tgt := 34) hx hb dX2_nextToTake_29 (by decide) (fun _ => ?_) (fun c => absurd hc16 c)
            exact J34 _ _ _ hrun hP hD hS (lv_sub hl [0, 1, 2, 3] rfl)
          · refine lv_icmp_ge (tgt := 34) hx hb dX2_nextToTake_29 (by decide) (fun c => absurd c hc16) (fun _ => ?_)
            refine lv_iload_n hx hb dX2_nextToTake_32 rfl (lv_at hl 3 rfl) ?_
            have ho9 : v3_4 = o := hr4 _ (Option.some.inj hrun).symm
            have hP9 : va_P (dC, dI) cls (oX2 (p0a 0) p0a p0k p0n p0w p0l) H := by first | exact hP | (rw [← ho9]; exact hP)
            have hD9 : va_D A (oX2 (p0a 0) p0a p0k p0n p0w p0l) := by first | exact hD | (rw [← ho9]; exact hD)
            subst hQ
            exact W.iret (v := v3_4) hx hb hr (fun t ht hW => ⟨⟨v3_4, (), rfl, (by rw [← ho9]), ⟨by rw [ht]; exact hP9, va_K.moved hW.alike hK, hD9⟩⟩, hS.F ht⟩) hS.2.2 dX2_nextToTake_33
  obtain ⟨o4, hc4, hrun⟩ := bnd9 hrun
  refine L4 NF (-1) 0 o4 _ _ _ hc4 hP hD hS (lv_sub hl [2, 3, 1, 0] rfl) (fun r e9 => by subst e9; exact Option.some.inj hrun) ?_
  intro t4 e9
  subst e9
  replace hrun := el9 hrun
  intro H locs ls hP hD hS hl
  have hl := hl
  refine lv_iload_n hx hb dX2_nextToTake_108 rfl (lv_at hl 0 rfl) ?_
  have ho9 : t4 = o := Option.some.inj hrun
  have hP9 : va_P (dC, dI) cls (oX2 (p0a 0) p0a p0k p0n p0w p0l) H := by first | exact hP | (rw [← ho9]; exact hP)
  have hD9 : va_D A (oX2 (p0a 0) p0a p0k p0n p0w p0l) := by first | exact hD | (rw [← ho9]; exact hD)
  subst hQ
  exact W.iret (v := t4) hx hb hr (fun t ht hW => ⟨⟨t4, (), rfl, (by rw [← ho9]), ⟨by rw [ht]; exact hP9, va_K.moved hW.alike hK, hD9⟩⟩, hS.F ht⟩) hS.2.2 dX2_nextToTake_109
def fX2_lowerLeft_J20 (p0w_20 : ST) : Option ST := some p0w_20
def fX2_lowerLeft (p0n : Nat → Nat) (p0w : ST) (p1 : Int32) : Option ST := (if ixb p1 (p0n 18) = true then (if (p0w 18 (nn p1)) = (-1) then (fX2_lowerLeft_J20 p0w) else (if ixb p1 (p0n 18) = true then (if ixb p1 (p0n 18) = true then (lt9 (upw p0w 18 (nn p1) ((p0w 18 (nn p1)) - 1)) fun (w5 : ST) => (fX2_lowerLeft_J20 w5)) else none) else none)) else none)
set_option maxHeartbeats 16000000 in
set_option maxRecDepth 100000 in
theorem kX2_lowerLeft {zs : Nat × Nat} (l : Launch) (dC : Nat → ClassId) (dI : Nat → Nat → Nat) (p0a : Nat → Nat) (p0k : Nat → ClassId) (p0n : Nat → Nat) (p0w : ST) (p0l : SL) (p1 : Int32) (sz : Nat) (o : ST) (hrun : fX2_lowerLeft p0n p0w p1 = some o) : Met l yX2_lowerLeft (wz yX2_lowerLeft cX2_lowerLeft 2 (Option.none : Option Jvm.ClassFile.FieldType)) ({ frames := 0, cells := 0, slots := 0, locals := 0 } : Room) (va_Pc [.ref (p0a 0), .int p1] (PRE zs dC dI (oX2 (p0a 0) p0a p0k p0n p0w p0l) (tX2 p0k) sz)) (va_Qv (fun (_ : Unit) => True) (fun _ t => POST dC dI (oX2 (p0a 0) p0a p0k p0n o p0l) (tX2 p0k) (va_A (oX2 (p0a 0) p0a p0k p0n p0w p0l) sz) t) (va_A (oX2 (p0a 0) p0a p0k p0n p0w p0l) sz)) 0 0 (va_A (oX2 (p0a 0) p0a p0k p0n p0w p0l) sz) := by
  refine Met.ofW (cc := cX2_lowerLeft) (maxL := 2) (ret := (Option.none : Option Jvm.ClassFile.FieldType)) (by decide) rfl ?_
  intro p e s m args below meth c s₁ B hml hv
  obtain ⟨rfl, hsz, hP, hK, hD0, hE⟩ := hv
  have hx := B.exec
  have hb := B.bytes
  have hr := B.returns
  have hts0 := atoms_spec (ws := wz yX2_lowerLeft cX2_lowerLeft 2 (Option.none : Option Jvm.ClassFile.FieldType)) B.pre
  have hts : ∀ w ∈ gw, w.before _ s = true := fun w h => hts0 w (List.mem_cons_of_mem _ h)
  have hown : s.vm.findClass RX2 = some m.cls := findClass_of_methodNamed B.named
  have hlocks := B.notSynchronized
  subst hsz
  have hD := hD0.self (sz := s.heap.size)
  refine gQ9 ?_
  intro Q hQ
  generalize hAe : va_A (oX2 (p0a 0) p0a p0k p0n p0w p0l) s.heap.size = A at hD hE hQ
  have hA : ∀ q : Nat, s.heap.size ≤ q → A q := fun q h => by rw [← hAe]; exact Or.inr h
  have hS : va_S A s.heap s.heap [] := va_S.rf
  have hP : va_P (dC, dI) cls (oX2 (p0a 0) p0a p0k p0n p0w p0l) s.heap := hP
  have hl := lv_entry ([.ref (p0a 0), .int p1]) (n := 2) (Nat.le_of_ble_eq_true rfl)
  rw [lg_entry_eq]
  generalize (lg_sl ([.ref (p0a 0), .int p1]) ++ List.replicate (2 - (lg_sl ([.ref (p0a 0), .int p1])).length) Slot.unset).toArray = ls at hl ⊢
  have hl : lv_has ls 2 [(0, .ref (p0a 0)), (1, .int p1)] := hl
  obtain ⟨H, hHe⟩ : ∃ H, H = s.heap := ⟨_, rfl⟩
  obtain ⟨locs, hle⟩ : ∃ locs : List Loc, locs = [] := ⟨_, rfl⟩
  rw [← hHe] at hP
  have hS : va_S A s.heap H locs := by rw [hHe, hle]; exact hS
  show W p l e ({ frames := 0, cells := 0, slots := 0, locals := 0 } : Room) s m ([.ref (p0a 0), .int p1] : List Value).toArray below meth c s.heap [] 0 0 Q (F0 m 0 ls [])
  rw [← hle]
  refine wH9 hHe ?_
  unfold fX2_lowerLeft at hrun
  refine lv_aload_n hx hb dX2_lowerLeft_0 rfl (lv_at hl 0 rfl) ?_
  refine va_get (D := (dC, dI)) (ci := 9) (v := .ref (p0a 18)) (C := RX2) (T := TX2) (N := 19) hx hb hts i_X2 hown hK hP 0 rfl rfl 17 (by decide) (hts _ qw660) (fun _ h9 => h9) rfl dX2_lowerLeft_1 ?_
  refine lv_iload_n hx hb dX2_lowerLeft_4 rfl (lv_at hl 1 rfl) ?_
  obtain ⟨hq1, hrun⟩ := chk9 hrun
  refine va_iald hx hb hK hP 14 13 rfl rfl (ixb_in hq1) dX2_lowerLeft_5 ?_
  refine lv_iconst (v := (-1)) hx hb dX2_lowerLeft_6 (by decide) ?_
  have J20 : ∀ (p0w_20 : ST) (H : Heap) (locs : List Loc) (ls : Array Slot), (fX2_lowerLeft_J20 p0w_20) = some o → va_P (dC, dI) cls (oX2 (p0a 0) p0a p0k p0n p0w_20 p0l) H → va_D A (oX2 (p0a 0) p0a p0k p0n p0w_20 p0l) → va_S A s.heap H locs → lv_has ls 2 [] → W p l e ({ frames := 0, cells := 0, slots := 0, locals := 0 } : Room) s m ([.ref (p0a 0), .int p1] : List Value).toArray below meth c H locs 0 0 Q (F0 m 20 ls []) := by
    intro p0w_20 H locs ls hrun hP hD hS hl
    unfold fX2_lowerLeft_J20 at hrun
    have ho9 : p0w_20 = o := Option.some.inj hrun
    have hP9 : va_P (dC, dI) cls (oX2 (p0a 0) p0a p0k p0n o p0l) H := by first | exact hP | (rw [← ho9]; exact hP)
    have hD9 : va_D A (oX2 (p0a 0) p0a p0k p0n o p0l) := by first | exact hD | (rw [← ho9]; exact hD)
    subst hQ
    exact W.vret hx hb hr (fun t ht hW => ⟨⟨(), rfl, trivial, ⟨by rw [ht]; exact hP9, va_K.moved hW.alike hK, hD9⟩⟩, hS.F ht⟩) hS.2.2 dX2_lowerLeft_20
  rcases br9 hrun with ⟨hc2, hrun⟩ | ⟨hc2, hrun⟩
  · refine lv_icmp_eq (tgt := 20) hx hb dX2_lowerLeft_7 (by decide) (fun _ => ?_) (fun c => absurd hc2 c)
    exact J20 p0w _ _ _ hrun hP hD hS (lv_sub hl [] rfl)
  · refine lv_icmp_eq (tgt := 20) hx hb dX2_lowerLeft_7 (by decide) (fun c => absurd c hc2) (fun _ => ?_)
    refine lv_aload_n hx hb dX2_lowerLeft_10 rfl (lv_at hl 0 rfl) ?_
    refine va_get (D := (dC, dI)) (ci := 9) (v := .ref (p0a 18)) (C := RX2) (T := TX2) (N := 19) hx hb hts i_X2 hown hK hP 0 rfl rfl 17 (by decide) (hts _ qw660) (fun _ h9 => h9) rfl dX2_lowerLeft_11 ?_
    refine lv_iload_n hx hb dX2_lowerLeft_14 rfl (lv_at hl 1 rfl) ?_
    refine lv_dup2_11 hx hb dX2_lowerLeft_15 rfl rfl ?_
    obtain ⟨hq3, hrun⟩ := chk9 hrun
    refine va_iald hx hb hK hP 14 13 rfl rfl (ixb_in hq3) dX2_lowerLeft_16 ?_
    refine lv_iconst (v := 1) hx hb dX2_lowerLeft_17 (by decide) ?_
    refine lv_isub hx hb dX2_lowerLeft_18 ?_
    obtain ⟨hq4, hrun⟩ := chk9 hrun
    refine va_iast hx hb hK hP hD hS 14 13 rfl rfl (ixb_in hq4) dX2_lowerLeft_19 (fun H locs hP hD hS => ?_)
    have hP : va_P (dC, dI) cls (oX2 (p0a 0) p0a p0k p0n (upw p0w 18 (nn p1) ((p0w 18 (nn p1)) - 1)) p0l) H := hP
    have hD : va_D A (oX2 (p0a 0) p0a p0k p0n (upw p0w 18 (nn p1) ((p0w 18 (nn p1)) - 1)) p0l) := hD
    obtain ⟨w5, ew5, hrun⟩ := let9 hrun
    rw [← ew5] at hP hD
    exact J20 w5 _ _ _ hrun hP hD hS (lv_sub hl [] rfl)
def fX2_takeAway_L31 (p0n : Nat → Nat) (v2_9 : Int32) : Nat → Int64 → ST → Option ST
  | 0 => fun _ _ => none
  | n_31 + 1 => fun v3_31 p0w_31 => (if (lg_cmp v3_31 (0 : Int64)) = 0 then some p0w_31 else ((fX11_lowest v3_31).bind fun (o_6 : Int32) => ((fX2_lowerLeft p0n p0w_31 ((v2_9 * 64) + o_6)).bind fun (o_8 : ST) => ((fX2_takeAway_L31 p0n v2_9 n_31) (v3_31 &&& (v3_31 - (1 : Int64))) o_8))))
def fX2_takeAway_L9 (p0n : Nat → Nat) (p0l : SL) (p1 : Int32) : Nat → Int32 → ST → Option ST
  | 0 => fun _ _ => none
  | n_9 + 1 => fun v2_9 p0w_9 => (if (p0w_9 0 2) ≤ v2_9 then some p0w_9 else (if ixb ((p1 * (p0w_9 0 2)) + v2_9) (p0n 11) = true then ((fX2_takeAway_L31 p0n v2_9 NF (p0l 11 (nn ((p1 * (p0w_9 0 2)) + v2_9))) p0w_9).bind fun (o31 : ST) => ((fX2_takeAway_L9 p0n p0l p1 n_9) (v2_9 + 1) o31)) else none))
def fX2_takeAway_J129 (p0w_129 : ST) : Option ST := some p0w_129
def fX2_takeAway_J123 (kk97 : Int32 → ST → Option ST) (v2_97 : Int32) (p0w_123 : ST) : Option ST := (kk97 (v2_97 + 1) p0w_123)
def fX2_takeAway_L97 (p0n : Nat → Nat) (p0l : SL) (p1 : Int32) : Nat → Int32 → ST → Option ST
  | 0 => fun _ _ => none
  | n_97 + 1 => fun v2_97 p0w_97 => (if (p0w_97 0 1) ≤ v2_97 then some p0w_97 else ((fX2_isIn p0w_97 (p0n 11) (p0l 11) v2_97 p1).bind fun (o_12 : Int32) => (if o_12 = 0 then (fX2_takeAway_J123 (fX2_takeAway_L97 p0n p0l p1 n_97) v2_97 p0w_97) else ((fX2_lowerLeft p0n p0w_97 v2_97).bind fun (o_15 : ST) => (fX2_takeAway_J123 (fX2_takeAway_L97 p0n p0l p1 n_97) v2_97 o_15)))))
def fX2_takeAway_J84 (p0n : Nat → Nat) (p0l : SL) (p1 : Int32) (p0w_84 : ST) : Option ST := (if (p0w_84 0 0) ≤ p1 then (fX2_takeAway_J129 p0w_84) else ((fX2_takeAway_L97 p0n p0l p1 NF (p0w_84 0 0) p0w_84).bind fun (o97 : ST) => (fX2_takeAway_J129 o97)))
def fX2_takeAway (p0n : Nat → Nat) (p0w : ST) (p0l : SL) (p1 : Int32) : Option ST := (if ixb p1 (p0n 18) = true then (lt9 (upw p0w 18 (nn p1) (-1)) fun (w2 : ST) => ((fX2_takeAway_L9 p0n p0l p1 NF 0 w2).bind fun (o9 : ST) => (if ixb p1 (p0n 12) = true then (if (o9 12 (nn p1)) < 0 then (fX2_takeAway_J84 p0n p0l p1 o9) else (if ixb p1 (p0n 12) = true then ((fX2_lowerLeft p0n o9 (o9 12 (nn p1))).bind fun (o_18 : ST) => (fX2_takeAway_J84 p0n p0l p1 o_18)) else none)) else none))) else none)
set_option maxHeartbeats 16000000 in
set_option maxRecDepth 100000 in
theorem kX2_takeAway {zs : Nat × Nat} (l : Launch) (dC : Nat → ClassId) (dI : Nat → Nat → Nat) (p0a : Nat → Nat) (p0k : Nat → ClassId) (p0n : Nat → Nat) (p0w : ST) (p0l : SL) (p1 : Int32) (sz : Nat) (o : ST) (hrun : fX2_takeAway p0n p0w p0l p1 = some o) : Met l yX2_takeAway (wz yX2_takeAway cX2_takeAway 5 (Option.none : Option Jvm.ClassFile.FieldType)) ({ frames := 2, cells := 0, slots := 0, locals := 45 } : Room) (va_Pc [.ref (p0a 0), .int p1] (PRE zs dC dI (oX2 (p0a 0) p0a p0k p0n p0w p0l) (tX2 p0k) sz)) (va_Qv (fun (_ : Unit) => True) (fun _ t => POST dC dI (oX2 (p0a 0) p0a p0k p0n o p0l) (tX2 p0k) (va_A (oX2 (p0a 0) p0a p0k p0n p0w p0l) sz) t) (va_A (oX2 (p0a 0) p0a p0k p0n p0w p0l) sz)) 0 0 (va_A (oX2 (p0a 0) p0a p0k p0n p0w p0l) sz) := by
  refine Met.ofW (cc := cX2_takeAway) (maxL := 5) (ret := (Option.none : Option Jvm.ClassFile.FieldType)) (by decide) rfl ?_
  intro p e s m args below meth c s₁ B hml hv
  obtain ⟨rfl, hsz, hP, hK, hD0, hE⟩ := hv
  have hx := B.exec
  have hb := B.bytes
  have hr := B.returns
  have hts0 := atoms_spec (ws := wz yX2_takeAway cX2_takeAway 5 (Option.none : Option Jvm.ClassFile.FieldType)) B.pre
  have hts : ∀ w ∈ gw, w.before _ s = true := fun w h => hts0 w (List.mem_cons_of_mem _ h)
  have hown : s.vm.findClass RX2 = some m.cls := findClass_of_methodNamed B.named
  have hlocks := B.notSynchronized
  subst hsz
  have hD := hD0.self (sz := s.heap.size)
  refine gQ9 ?_
  intro Q hQ
  generalize hAe : va_A (oX2 (p0a 0) p0a p0k p0n p0w p0l) s.heap.size = A at hD hE hQ
  have hA : ∀ q : Nat, s.heap.size ≤ q → A q := fun q h => by rw [← hAe]; exact Or.inr h
  have hS : va_S A s.heap s.heap [] := va_S.rf
  have hP : va_P (dC, dI) cls (oX2 (p0a 0) p0a p0k p0n p0w p0l) s.heap := hP
  have hl := lv_entry ([.ref (p0a 0), .int p1]) (n := 5) (Nat.le_of_ble_eq_true rfl)
  rw [lg_entry_eq]
  generalize (lg_sl ([.ref (p0a 0), .int p1]) ++ List.replicate (5 - (lg_sl ([.ref (p0a 0), .int p1])).length) Slot.unset).toArray = ls at hl ⊢
  have hl : lv_has ls 5 [(0, .ref (p0a 0)), (1, .int p1)] := hl
  obtain ⟨H, hHe⟩ : ∃ H, H = s.heap := ⟨_, rfl⟩
  obtain ⟨locs, hle⟩ : ∃ locs : List Loc, locs = [] := ⟨_, rfl⟩
  rw [← hHe] at hP
  have hS : va_S A s.heap H locs := by rw [hHe, hle]; exact hS
  show W p l e ({ frames := 2, cells := 0, slots := 0, locals := 45 } : Room) s m ([.ref (p0a 0), .int p1] : List Value).toArray below meth c s.heap [] 0 0 Q (F0 m 0 ls [])
  rw [← hle]
  refine wH9 hHe ?_
  unfold fX2_takeAway at hrun
  refine lv_aload_n hx hb dX2_takeAway_0 rfl (lv_at hl 0 rfl) ?_
  refine va_get (D := (dC, dI)) (ci := 9) (v := .ref (p0a 18)) (C := RX2) (T := TX2) (N := 19) hx hb hts i_X2 hown hK hP 0 rfl rfl 17 (by decide) (hts _ qw660) (fun _ h9 => h9) rfl dX2_takeAway_1 ?_
  refine lv_iload_n hx hb dX2_takeAway_4 rfl (lv_at hl 1 rfl) ?_
  refine lv_iconst (v := (-1)) hx hb dX2_takeAway_5 (by decide) ?_
  obtain ⟨hq1, hrun⟩ := chk9 hrun
  refine va_iast hx hb hK hP hD hS 14 13 rfl rfl (ixb_in hq1) dX2_takeAway_6 (fun H locs hP hD hS => ?_)
  have hP : va_P (dC, dI) cls (oX2 (p0a 0) p0a p0k p0n (upw p0w 18 (nn p1) (-1)) p0l) H := hP
  have hD : va_D A (oX2 (p0a 0) p0a p0k p0n (upw p0w 18 (nn p1) (-1)) p0l) := hD
  obtain ⟨w2, ew2, hrun⟩ := let9 hrun
  rw [← ew2] at hP hD
  refine lv_iconst (v := 0) hx hb dX2_takeAway_7 (by decide) ?_
  refine lv_istore_n (lv' := [(2, .int 0), (0, .ref (p0a 0)), (1, .int p1)]) hx hb dX2_takeAway_8 rfl hl (by decide) rfl (fun ls hl => ?_)
  have L9 : ∀ (n_9 : Nat) (v2_9 : Int32) (p0w_9 : ST) (o9 : ST) (H : Heap) (locs : List Loc) (ls : Array Slot), (fX2_takeAway_L9 p0n p0l p1 n_9) v2_9 p0w_9 = some o9 → va_P (dC, dI) cls (oX2 (p0a 0) p0a p0k p0n p0w_9 p0l) H → va_D A (oX2 (p0a 0) p0a p0k p0n p0w_9 p0l) → va_S A s.heap H locs → lv_has ls 5 [(0, .ref (p0a 0)), (1, .int p1), (2, .int v2_9)] → (∀ (H : Heap) (locs : List Loc) (ls : Array Slot), va_P (dC, dI) cls (oX2 (p0a 0) p0a p0k p0n o9 p0l) H → va_D A (oX2 (p0a 0) p0a p0k p0n o9 p0l) → va_S A s.heap H locs → lv_has ls 5 [(0, .ref (p0a 0)), (1, .int p1)] → W p l e ({ frames := 2, cells := 0, slots := 0, locals := 45 } : Room) s m ([.ref (p0a 0), .int p1] : List Value).toArray below meth c H locs 0 0 Q (F0 m 65 ls [])) → W p l e ({ frames := 2, cells := 0, slots := 0, locals := 45 } : Room) s m ([.ref (p0a 0), .int p1] : List Value).toArray below meth c H locs 0 0 Q (F0 m 9 ls []) := by
    intro n_9
    induction n_9 with
    | zero => intro v2_9 p0w_9 o9 H locs ls hrun; exact (no9 rfl hrun).elim
    | succ n_9 IH9 =>
      intro v2_9 p0w_9 o9 H locs ls hrun hP hD hS hl hk9
      unfold fX2_takeAway_L9 at hrun
      refine lv_iload_n hx hb dX2_takeAway_9 rfl (lv_at hl 2 rfl) ?_
      refine lv_aload_n hx hb dX2_takeAway_10 rfl (lv_at hl 0 rfl) ?_
      refine va_get (D := (dC, dI)) (ci := 9) (v := .int (p0w_9 0 2)) (C := RX2) (T := TX2) (N := 19) hx hb hts i_X2 hown hK hP 0 rfl rfl 2 (by decide) (hts _ qw590) (fun _ h9 => h9) rfl dX2_takeAway_11 ?_
      rcases br9 hrun with ⟨hc3, hrun⟩ | ⟨hc3, hrun⟩
      · refine lv_icmp_ge (tgt := 65) hx hb dX2_takeAway_14 (by decide) (fun _ => ?_) (fun c => absurd hc3 c)
        obtain rfl := (Option.some.inj hrun)
        exact hk9 _ _ _ hP hD hS (lv_sub hl [0, 1] rfl)
      · refine lv_icmp_ge (tgt := 65) hx hb dX2_takeAway_14 (by decide) (fun c => absurd c hc3) (fun _ => ?_)
        refine lv_aload_n hx hb dX2_takeAway_17 rfl (lv_at hl 0 rfl) ?_
        refine va_get (D := (dC, dI)) (ci := 9) (v := .ref (p0a 11)) (C := RX2) (T := TX2) (N := 19) hx hb hts i_X2 hown hK hP 0 rfl rfl 10 (by decide) (hts _ qw589) (fun _ h9 => h9) rfl dX2_takeAway_18 ?_
        refine lv_iload_n hx hb dX2_takeAway_21 rfl (lv_at hl 1 rfl) ?_
        refine lv_aload_n hx hb dX2_takeAway_22 rfl (lv_at hl 0 rfl) ?_
        refine va_get (D := (dC, dI)) (ci := 9) (v := .int (p0w_9 0 2)) (C := RX2) (T := TX2) (N := 19) hx hb hts i_X2 hown hK hP 0 rfl rfl 2 (by decide) (hts _ qw590) (fun _ h9 => h9) rfl dX2_takeAway_23 ?_
        refine lv_imul hx hb dX2_takeAway_26 ?_
        refine lv_iload_n hx hb dX2_takeAway_27 rfl (lv_at hl 2 rfl) ?_
        refine lv_iadd hx hb dX2_takeAway_28 ?_
        obtain ⟨hq4, hrun⟩ := chk9 hrun
        refine va_lald hx hb hK hP 7 6 rfl rfl (ixb_in hq4) dX2_takeAway_29 ?_
        refine lv_lstore_n (lv' := [(3, .long (p0l 11 (nn ((p1 * (p0w_9 0 2)) + v2_9)))), (0, .ref (p0a 0)), (1, .int p1), (2, .int v2_9)]) hx hb dX2_takeAway_30 rfl hl (by decide) rfl (fun ls hl => ?_)
        have L31 : ∀ (n_31 : Nat) (v3_31 : Int64) (p0w_31 : ST) (o31 : ST) (H : Heap) (locs : List Loc) (ls : Array Slot), (fX2_takeAway_L31 p0n v2_9 n_31) v3_31 p0w_31 = some o31 → va_P (dC, dI) cls (oX2 (p0a 0) p0a p0k p0n p0w_31 p0l) H → va_D A (oX2 (p0a 0) p0a p0k p0n p0w_31 p0l) → va_S A s.heap H locs → lv_has ls 5 [(0, .ref (p0a 0)), (1, .int p1), (2, .int v2_9), (3, .long v3_31)] → (∀ (H : Heap) (locs : List Loc) (ls : Array Slot), va_P (dC, dI) cls (oX2 (p0a 0) p0a p0k p0n o31 p0l) H → va_D A (oX2 (p0a 0) p0a p0k p0n o31 p0l) → va_S A s.heap H locs → lv_has ls 5 [(0, .ref (p0a 0)), (1, .int p1), (2, .int v2_9)] → W p l e ({ frames := 2, cells := 0, slots := 0, locals := 45 } : Room) s m ([.ref (p0a 0), .int p1] : List Value).toArray below meth c H locs 0 0 Q (F0 m 59 ls [])) → W p l e ({ frames := 2, cells := 0, slots := 0, locals := 45 } : Room) s m ([.ref (p0a 0), .int p1] : List Value).toArray below meth c H locs 0 0 Q (F0 m 31 ls []) := by
          intro n_31
          induction n_31 with
          | zero => intro v3_31 p0w_31 o31 H locs ls hrun; exact (no9 rfl hrun).elim
          | succ n_31 IH31 =>
            intro v3_31 p0w_31 o31 H locs ls hrun hP hD hS hl hk31
            unfold fX2_takeAway_L31 at hrun
            refine lv_lload_n hx hb dX2_takeAway_31 rfl (lv_at hl 3 rfl) ?_
            refine lv_lconst (v := 0) hx hb dX2_takeAway_32 (by decide) ?_
            refine W.lcmp hx hb dX2_takeAway_33 ?_
            rcases br9 hrun with ⟨hc5, hrun⟩ | ⟨hc5, hrun⟩
            · refine lv_if_eq (tgt := 59) hx hb dX2_takeAway_34 (by decide) (fun _ => ?_) (fun c => absurd hc5 c)
              obtain rfl := (Option.some.inj hrun)
              exact hk31 _ _ _ hP hD hS (lv_sub hl [0, 1, 2] rfl)
            · refine lv_if_eq (tgt := 59) hx hb dX2_takeAway_34 (by decide) (fun c => absurd c hc5) (fun _ => ?_)
              refine lv_aload_n hx hb dX2_takeAway_37 rfl (lv_at hl 0 rfl) ?_
              refine lv_iload_n hx hb dX2_takeAway_38 rfl (lv_at hl 2 rfl) ?_
              refine lv_bipush (v := 64) hx hb dX2_takeAway_39 (by decide) ?_
              refine lv_imul hx hb dX2_takeAway_41 ?_
              refine lv_lload_n hx hb dX2_takeAway_42 rfl (lv_at hl 3 rfl) ?_
              obtain ⟨o_6, hc_6, hrun⟩ := bnd9 hrun
              have hPc := hP.sub (ws' := ([] : va_W)) [] rfl
              have hDc := hD.sub (ws' := ([] : va_W)) [] (by decide) rfl
              have hKc := hK.sub (tys' := ([] : List (ClassId × FieldType))) [] rfl
              have hFc := va_free (wc := ([] : va_W)) hD hS hA [] rfl
              refine va_calli (va_runSN (As := [.long v3_31]) (rest := [.int (v2_9 * 64), .ref (p0a 0)]) ⟨hx, hb, hml, hown, hts⟩ (kX11_lowest l dC dI (p0 := v3_31) (sz := _) (o := o_6) (hrun := hc_6)) ⟨(va_cnB 1 hts (gi_z qw604) rfl rfl rfl (hE.nw (List.mem_append_right _ (tbl_9 (i := 34) rfl)) rfl) (hts _ qw159) (by decide +kernel) ⟨Nat.le_of_ble_eq_true rfl, Nat.le_of_ble_eq_true rfl⟩), (hts _ qw605), trivial⟩ ⟨PRE.blind, PRE.of hE hS hFc hPc hKc hDc⟩ rfl rfl hl.1 rfl (lv_room (Nat.le_of_ble_eq_true rfl)) dX2_takeAway_43 ⟨Nat.le_of_ble_eq_true rfl, Nat.le_of_ble_eq_true rfl⟩) hS (fun q _ h => hFc q h) hFc (fun r7 u t H locs ht hvm hw hB hz1 hk1 hS => ?_)
              obtain ⟨hP, hD, hK⟩ := JOIN (wr := (oX2 (p0a 0) p0a p0k p0n p0w_31 p0l)) hP hD hK [] [0, 1, 2, 3, 4, 5, 6, 7, 8, 9, 10, 11, 12, 13, 14, 15] [0, 1, 2, 3, 4, 5, 6, 7, 8, 9, 10, 11, 12, 13, 14] rfl rfl (by decide) (by decide) rfl hk1 hFc ht hvm hB
              have hP : va_P (dC, dI) cls (oX2 (p0a 0) p0a p0k p0n p0w_31 p0l) H := hP.sub [0, 1, 2, 3, 4, 5, 6, 7, 8, 9, 10, 11, 12, 13, 14, 15] rfl
              have hD : va_D A (oX2 (p0a 0) p0a p0k p0n p0w_31 p0l) := hD.sub [0, 1, 2, 3, 4, 5, 6, 7, 8, 9, 10, 11, 12, 13, 14, 15] (by decide) rfl
              have hK : va_K (dC, dI) cls (tX2 p0k) s := hK.sub [0, 1, 2, 3, 4, 5, 6, 7, 8, 9, 10, 11, 12, 13, 14] rfl
              obtain rfl : o_6 = r7 := hw.symm
              refine lv_iadd hx hb dX2_takeAway_46 ?_
              obtain ⟨o_8, hc_8, hrun⟩ := bnd9 hrun
              have hPc := hP.sub (ws' := (oX2 (p0a 0) p0a p0k p0n p0w_31 p0l)) [0, 1, 2, 3, 4, 5, 6, 7, 8, 9, 10, 11, 12, 13, 14, 15] rfl
              have hDc := hD.sub (ws' := (oX2 (p0a 0) p0a p0k p0n p0w_31 p0l)) [0, 1, 2, 3, 4, 5, 6, 7, 8, 9, 10, 11, 12, 13, 14, 15] (by decide) rfl
              have hKc := hK.sub (tys' := (tX2 p0k)) [0, 1, 2, 3, 4, 5, 6, 7, 8, 9, 10, 11, 12, 13, 14] rfl
              have hFc := va_free (wc := (oX2 (p0a 0) p0a p0k p0n p0w_31 p0l)) hD hS hA [0, 1, 2, 3, 4, 5, 6, 7, 8, 9, 10, 11, 12, 13, 14, 15] rfl
              refine va_callv (va_runV (As := [.int ((v2_9 * 64) + o_6)]) (rest := []) ⟨hx, hb, hml, hown, hts⟩ (kX2_lowerLeft l dC dI (p0a := (st0 (p0a 0) p0a)) (p0k := p0k) (p0n := p0n) (p0w := p0w_31) (p0l := p0l) (p1 := ((v2_9 * 64) + o_6)) (sz := _) (o := o_8) (hrun := hc_8)) (cwV 1 hts (gi_V qw668 qw669 qw670 qw595 (gi_z qw667)) rfl rfl rfl (by decide +kernel) ⟨Nat.le_of_ble_eq_true rfl, Nat.le_of_ble_eq_true rfl⟩) ⟨PRE.blind, va_recv hKc hPc (ci := 9) (q0 := 0) rfl rfl, PRE.of hE hS hFc hPc hKc hDc⟩ rfl rfl hl.1 rfl (lv_room (Nat.le_of_ble_eq_true rfl)) dX2_takeAway_47 ⟨Nat.le_of_ble_eq_true rfl, Nat.le_of_ble_eq_true rfl⟩) hS (fun q _ h => hFc q h) hFc (fun u t H locs ht hvm hw hB hz1 hk1 hS => ?_)
              obtain ⟨hP, hD, hK⟩ := JOIN (wr := ([] : va_W)) hP hD hK [0, 1, 2, 3, 4, 5, 6, 7, 8, 9, 10, 11, 12, 13, 14, 15] [] [] rfl rfl (by decide) (by decide) rfl hk1 hFc ht hvm hB
              have hP : va_P (dC, dI) cls (oX2 (p0a 0) p0a p0k p0n o_8 p0l) H := hP.sub [0, 1, 2, 3, 4, 5, 6, 7, 8, 9, 10, 11, 12, 13, 14, 15] rfl
              have hD : va_D A (oX2 (p0a 0) p0a p0k p0n o_8 p0l) := hD.sub [0, 1, 2, 3, 4, 5, 6, 7, 8, 9, 10, 11, 12, 13, 14, 15] (by decide) rfl
              have hK : va_K (dC, dI) cls (tX2 p0k) s := hK.sub [0, 1, 2, 3, 4, 5, 6, 7, 8, 9, 10, 11, 12, 13, 14] rfl
              refine lv_lload_n hx hb dX2_takeAway_50 rfl (lv_at hl 3 rfl) ?_
              refine lv_lload_n hx hb dX2_takeAway_51 rfl (lv_at hl 3 rfl) ?_
              refine lv_lconst (v := 1) hx hb dX2_takeAway_52 (by decide) ?_
              refine lv_lsub hx hb dX2_takeAway_53 ?_
              refine lv_land hx hb dX2_takeAway_54 ?_
              refine lv_lstore_n (lv' := [(3, .long (v3_31 &&& (v3_31 - (1 : Int64)))), (0, .ref (p0a 0)), (1, .int p1), (2, .int v2_9)]) hx hb dX2_takeAway_55 rfl hl (by decide) rfl (fun ls hl => ?_)
              refine lv_goto (tgt := 31) hx hb dX2_takeAway_56 (by decide) ?_
              exact IH31 (v3_31 &&& (v3_31 - (1 : Int64))) o_8 o31 _ _ _ hrun hP hD hS (lv_sub hl [1, 2, 3, 0] rfl) hk31
        obtain ⟨o31, hc31, hrun⟩ := bnd9 hrun
        refine L31 NF (p0l 11 (nn ((p1 * (p0w_9 0 2)) + v2_9))) p0w_9 o31 _ _ _ hc31 hP hD hS (lv_sub hl [1, 2, 3, 0] rfl) ?_
        intro H locs ls hP hD hS hl
        have hl := hl
        refine lv_iinc (v := (v2_9 + 1)) (lv' := [(2, .int (v2_9 + 1)), (0, .ref (p0a 0)), (1, .int p1)]) hx hb dX2_takeAway_59 hl (k := 2) rfl rfl (by decide) rfl (fun ls hl => ?_)
        refine lv_goto (tgt := 9) hx hb dX2_takeAway_62 (by decide) ?_
        exact IH9 (v2_9 + 1) o31 o9 _ _ _ hrun hP hD hS (lv_sub hl [1, 2, 0] rfl) hk9
  obtain ⟨o9, hc9, hrun⟩ := bnd9 hrun
  refine L9 NF 0 w2 o9 _ _ _ hc9 hP hD hS (lv_sub hl [1, 2, 0] rfl) ?_
  intro H locs ls hP hD hS hl
  have hl := hl
  refine lv_aload_n hx hb dX2_takeAway_65 rfl (lv_at hl 0 rfl) ?_
  refine va_get (D := (dC, dI)) (ci := 9) (v := .ref (p0a 12)) (C := RX2) (T := TX2) (N := 19) hx hb hts i_X2 hown hK hP 0 rfl rfl 11 (by decide) (hts _ qw671) (fun _ h9 => h9) rfl dX2_takeAway_66 ?_
  refine lv_iload_n hx hb dX2_takeAway_69 rfl (lv_at hl 1 rfl) ?_
  obtain ⟨hq9, hrun⟩ := chk9 hrun
  refine va_iald hx hb hK hP 8 7 rfl rfl (ixb_in hq9) dX2_takeAway_70 ?_
  have J84 : ∀ (p0w_84 : ST) (H : Heap) (locs : List Loc) (ls : Array Slot), (fX2_takeAway_J84 p0n p0l p1 p0w_84) = some o → va_P (dC, dI) cls (oX2 (p0a 0) p0a p0k p0n p0w_84 p0l) H → va_D A (oX2 (p0a 0) p0a p0k p0n p0w_84 p0l) → va_S A s.heap H locs → lv_has ls 5 [(0, .ref (p0a 0)), (1, .int p1)] → W p l e ({ frames := 2, cells := 0, slots := 0, locals := 45 } : Room) s m ([.ref (p0a 0), .int p1] : List Value).toArray below meth c H locs 0 0 Q (F0 m 84 ls []) := by
    intro p0w_84 H locs ls hrun hP hD hS hl
    unfold fX2_takeAway_J84 at hrun
    refine lv_iload_n hx hb dX2_takeAway_84 rfl (lv_at hl 1 rfl) ?_
    refine lv_aload_n hx hb dX2_takeAway_85 rfl (lv_at hl 0 rfl) ?_
    refine va_get (D := (dC, dI)) (ci := 9) (v := .int (p0w_84 0 0)) (C := RX2) (T := TX2) (N := 19) hx hb hts i_X2 hown hK hP 0 rfl rfl 0 (by decide) (hts _ qw588) (fun _ h9 => h9) rfl dX2_takeAway_86 ?_
    have J129 : ∀ (p0w_129 : ST) (H : Heap) (locs : List Loc) (ls : Array Slot), (fX2_takeAway_J129 p0w_129) = some o → va_P (dC, dI) cls (oX2 (p0a 0) p0a p0k p0n p0w_129 p0l) H → va_D A (oX2 (p0a 0) p0a p0k p0n p0w_129 p0l) → va_S A s.heap H locs → lv_has ls 5 [] → W p l e ({ frames := 2, cells := 0, slots := 0, locals := 45 } : Room) s m ([.ref (p0a 0), .int p1] : List Value).toArray below meth c H locs 0 0 Q (F0 m 129 ls []) := by
      intro p0w_129 H locs ls hrun hP hD hS hl
      unfold fX2_takeAway_J129 at hrun
      have ho9 : p0w_129 = o := Option.some.inj hrun
      have hP9 : va_P (dC, dI) cls (oX2 (p0a 0) p0a p0k p0n o p0l) H := by first | exact hP | (rw [← ho9]; exact hP)
      have hD9 : va_D A (oX2 (p0a 0) p0a p0k p0n o p0l) := by first | exact hD | (rw [← ho9]; exact hD)
      subst hQ
      exact W.vret hx hb hr (fun t ht hW => ⟨⟨(), rfl, trivial, ⟨by rw [ht]; exact hP9, va_K.moved hW.alike hK, hD9⟩⟩, hS.F ht⟩) hS.2.2 dX2_takeAway_129
    rcases br9 hrun with ⟨hc10, hrun⟩ | ⟨hc10, hrun⟩
    · refine lv_icmp_ge (tgt := 129) hx hb dX2_takeAway_89 (by decide) (fun _ => ?_) (fun c => absurd hc10 c)
      exact J129 p0w_84 _ _ _ hrun hP hD hS (lv_sub hl [] rfl)
    · refine lv_icmp_ge (tgt := 129) hx hb dX2_takeAway_89 (by decide) (fun c => absurd c hc10) (fun _ => ?_)
      refine lv_aload_n hx hb dX2_takeAway_92 rfl (lv_at hl 0 rfl) ?_
      refine va_get (D := (dC, dI)) (ci := 9) (v := .int (p0w_84 0 0)) (C := RX2) (T := TX2) (N := 19) hx hb hts i_X2 hown hK hP 0 rfl rfl 0 (by decide) (hts _ qw588) (fun _ h9 => h9) rfl dX2_takeAway_93 ?_
      refine lv_istore_n (lv' := [(2, .int (p0w_84 0 0)), (0, .ref (p0a 0)), (1, .int p1)]) hx hb dX2_takeAway_96 rfl hl (by decide) rfl (fun ls hl => ?_)
      have L97 : ∀ (n_97 : Nat) (v2_97 : Int32) (p0w_97 : ST) (o97 : ST) (H : Heap) (locs : List Loc) (ls : Array Slot), (fX2_takeAway_L97 p0n p0l p1 n_97) v2_97 p0w_97 = some o97 → va_P (dC, dI) cls (oX2 (p0a 0) p0a p0k p0n p0w_97 p0l) H → va_D A (oX2 (p0a 0) p0a p0k p0n p0w_97 p0l) → va_S A s.heap H locs → lv_has ls 5 [(0, .ref (p0a 0)), (1, .int p1), (2, .int v2_97)] → (∀ (H : Heap) (locs : List Loc) (ls : Array Slot), va_P (dC, dI) cls (oX2 (p0a 0) p0a p0k p0n o97 p0l) H → va_D A (oX2 (p0a 0) p0a p0k p0n o97 p0l) → va_S A s.heap H locs → lv_has ls 5 [] → W p l e ({ frames := 2, cells := 0, slots := 0, locals := 45 } : Room) s m ([.ref (p0a 0), .int p1] : List Value).toArray below meth c H locs 0 0 Q (F0 m 129 ls [])) → W p l e ({ frames := 2, cells := 0, slots := 0, locals := 45 } : Room) s m ([.ref (p0a 0), .int p1] : List Value).toArray below meth c H locs 0 0 Q (F0 m 97 ls []) := by
        intro n_97
        induction n_97 with
        | zero => intro v2_97 p0w_97 o97 H locs ls hrun; exact (no9 rfl hrun).elim
        | succ n_97 IH97 =>
          intro v2_97 p0w_97 o97 H locs ls hrun hP hD hS hl hk97
          unfold fX2_takeAway_L97 at hrun
          refine lv_iload_n hx hb dX2_takeAway_97 rfl (lv_at hl 2 rfl) ?_
          refine lv_aload_n hx hb dX2_takeAway_98 rfl (lv_at hl 0 rfl) ?_
          refine va_get (D := (dC, dI)) (ci := 9) (v := .int (p0w_97 0 1)) (C := RX2) (T := TX2) (N := 19) hx hb hts i_X2 hown hK hP 0 rfl rfl 1 (by decide) (hts _ qw606) (fun _ h9 => h9) rfl dX2_takeAway_99 ?_
          rcases br9 hrun with ⟨hc11, hrun⟩ | ⟨hc11, hrun⟩
          · refine lv_icmp_ge (tgt := 129) hx hb dX2_takeAway_102 (by decide) (fun _ => ?_) (fun c => absurd hc11 c)
            obtain rfl := (Option.some.inj hrun)
            exact hk97 _ _ _ hP hD hS (lv_sub hl [] rfl)
          · refine lv_icmp_ge (tgt := 129) hx hb dX2_takeAway_102 (by decide) (fun c => absurd c hc11) (fun _ => ?_)
            refine lv_aload_n hx hb dX2_takeAway_105 rfl (lv_at hl 0 rfl) ?_
            refine lv_aload_n hx hb dX2_takeAway_106 rfl (lv_at hl 0 rfl) ?_
            refine va_get (D := (dC, dI)) (ci := 9) (v := .ref (p0a 11)) (C := RX2) (T := TX2) (N := 19) hx hb hts i_X2 hown hK hP 0 rfl rfl 10 (by decide) (hts _ qw589) (fun _ h9 => h9) rfl dX2_takeAway_107 ?_
            refine lv_iload_n hx hb dX2_takeAway_110 rfl (lv_at hl 2 rfl) ?_
            refine lv_iload_n hx hb dX2_takeAway_111 rfl (lv_at hl 1 rfl) ?_
            obtain ⟨o_12, hc_12, hrun⟩ := bnd9 hrun
            have hPc := hP.sub (ws' := ((oX2 (p0a 0) p0a p0k p0n p0w_97 p0l) ++ [((p0a 11), .inl ((p0k 11), (p0n 11), .inr (.inl (p0l 11))))])) [0, 1, 2, 3, 4, 5, 6, 7, 8, 9, 10, 11, 12, 13, 14, 15, 7] rfl
            have hDc := hD.sub (ws' := ((oX2 (p0a 0) p0a p0k p0n p0w_97 p0l) ++ [((p0a 11), .inl ((p0k 11), (p0n 11), .inr (.inl (p0l 11))))])) [0, 1, 2, 3, 4, 5, 6, 7, 8, 9, 10, 11, 12, 13, 14, 15, 7] (by decide) rfl
            have hKc := hK.sub (tys' := ((tX2 p0k) ++ [((p0k 11), .long)])) [0, 1, 2, 3, 4, 5, 6, 7, 8, 9, 10, 11, 12, 13, 14, 6] rfl
            have hFc := va_free (wc := ((oX2 (p0a 0) p0a p0k p0n p0w_97 p0l) ++ [((p0a 11), .inl ((p0k 11), (p0n 11), .inr (.inl (p0l 11))))])) hD hS hA [0, 1, 2, 3, 4, 5, 6, 7, 8, 9, 10, 11, 12, 13, 14, 15, 7] rfl
            refine va_calli (va_runV (As := [.ref (p0a 11), .int v2_97, .int p1]) (rest := []) ⟨hx, hb, hml, hown, hts⟩ (kX2_isIn l dC dI (p0a := (st0 (p0a 0) p0a)) (p0k := p0k) (p0n := p0n) (p0w := p0w_97) (p0l := p0l) (p1a := (p0a 11)) (p1k := (p0k 11)) (p1n := (p0n 11)) (p1f := (p0l 11)) (p2 := v2_97) (p3 := p1) (sz := _) (o := o_12) (hrun := hc_12)) (cwV 3 hts (gi_V qw592 qw593 qw594 qw595 (gi_z qw591)) rfl rfl rfl (by decide +kernel) ⟨Nat.le_of_ble_eq_true rfl, Nat.le_of_ble_eq_true rfl⟩) ⟨PRE.blind, va_recv hKc hPc (ci := 9) (q0 := 0) rfl rfl, PRE.of hE hS hFc hPc hKc hDc⟩ rfl rfl hl.1 rfl (lv_room (Nat.le_of_ble_eq_true rfl)) dX2_takeAway_112 ⟨Nat.le_of_ble_eq_true rfl, Nat.le_of_ble_eq_true rfl⟩) hS (fun q _ h => hFc q h) hFc (fun r13 u t H locs ht hvm hw hB hz1 hk1 hS => ?_)
            obtain ⟨hP, hD, hK⟩ := JOIN (wr := ([] : va_W)) hP hD hK [0, 1, 2, 3, 4, 5, 6, 7, 8, 9, 10, 11, 12, 13, 14, 15, 7] [] [] rfl rfl (by decide) (by decide) rfl hk1 hFc ht hvm hB
            have hP : va_P (dC, dI) cls (oX2 (p0a 0) p0a p0k p0n p0w_97 p0l) H := hP.sub [0, 1, 2, 3, 4, 5, 6, 7, 8, 9, 10, 11, 12, 13, 14, 15] rfl
            have hD : va_D A (oX2 (p0a 0) p0a p0k p0n p0w_97 p0l) := hD.sub [0, 1, 2, 3, 4, 5, 6, 7, 8, 9, 10, 11, 12, 13, 14, 15] (by decide) rfl
            have hK : va_K (dC, dI) cls (tX2 p0k) s := hK.sub [0, 1, 2, 3, 4, 5, 6, 7, 8, 9, 10, 11, 12, 13, 14] rfl
            obtain rfl : o_12 = r13 := hw.symm
            have J123 : ∀ (p0w_123 : ST) (H : Heap) (locs : List Loc) (ls : Array Slot), (fX2_takeAway_J123 (fX2_takeAway_L97 p0n p0l p1 n_97) v2_97 p0w_123) = some o97 → va_P (dC, dI) cls (oX2 (p0a 0) p0a p0k p0n p0w_123 p0l) H → va_D A (oX2 (p0a 0) p0a p0k p0n p0w_123 p0l) → va_S A s.heap H locs → lv_has ls 5 [(0, .ref (p0a 0)), (1, .int p1), (2, .int v2_97)] → W p l e ({ frames := 2, cells := 0, slots := 0, locals := 45 } : Room) s m ([.ref (p0a 0), .int p1] : List Value).toArray below meth c H locs 0 0 Q (F0 m 123 ls []) := by
              intro p0w_123 H locs ls hrun hP hD hS hl
              unfold fX2_takeAway_J123 at hrun
              refine lv_iinc (v := (v2_97 + 1)) (lv' := [(2, .int (v2_97 + 1)), (0, .ref (p0a 0)), (1, .int p1)]) hx hb dX2_takeAway_123 hl (k := 2) rfl rfl (by decide) rfl (fun ls hl => ?_)
              refine lv_goto (tgt := 97) hx hb dX2_takeAway_126 (by decide) ?_
              exact IH97 (v2_97 + 1) p0w_123 o97 _ _ _ hrun hP hD hS (lv_sub hl [1, 2, 0] rfl) hk97
            rcases br9 hrun with ⟨hc14, hrun⟩ | ⟨hc14, hrun⟩
            · refine lv_if_eq (tgt := 123) hx hb dX2_takeAway_115 (by decide) (fun _ => ?_) (fun c => absurd hc14 c)
              exact J123 p0w_97 _ _ _ hrun hP hD hS (lv_sub hl [0, 1, 2] rfl)
            · refine lv_if_eq (tgt := 123) hx hb dX2_takeAway_115 (by decide) (fun c => absurd c hc14) (fun _ => ?_)
              refine lv_aload_n hx hb dX2_takeAway_118 rfl (lv_at hl 0 rfl) ?_
              refine lv_iload_n hx hb dX2_takeAway_119 rfl (lv_at hl 2 rfl) ?_
              obtain ⟨o_15, hc_15, hrun⟩ := bnd9 hrun
              have hPc := hP.sub (ws' := (oX2 (p0a 0) p0a p0k p0n p0w_97 p0l)) [0, 1, 2, 3, 4, 5, 6, 7, 8, 9, 10, 11, 12, 13, 14, 15] rfl
              have hDc := hD.sub (ws' := (oX2 (p0a 0) p0a p0k p0n p0w_97 p0l)) [0, 1, 2, 3, 4, 5, 6, 7, 8, 9, 10, 11, 12, 13, 14, 15] (by decide) rfl
              have hKc := hK.sub (tys' := (tX2 p0k)) [0, 1, 2, 3, 4, 5, 6, 7, 8, 9, 10, 11, 12, 13, 14] rfl
              have hFc := va_free (wc := (oX2 (p0a 0) p0a p0k p0n p0w_97 p0l)) hD hS hA [0, 1, 2, 3, 4, 5, 6, 7, 8, 9, 10, 11, 12, 13, 14, 15] rfl
              refine va_callv (va_runV (As := [.int v2_97]) (rest := []) ⟨hx, hb, hml, hown, hts⟩ (kX2_lowerLeft l dC dI (p0a := (st0 (p0a 0) p0a)) (p0k := p0k) (p0n := p0n) (p0w := p0w_97) (p0l := p0l) (p1 := v2_97) (sz := _) (o := o_15) (hrun := hc_15)) (cwV 1 hts (gi_V qw668 qw669 qw670 qw595 (gi_z qw667)) rfl rfl rfl (by decide +kernel) ⟨Nat.le_of_ble_eq_true rfl, Nat.le_of_ble_eq_true rfl⟩) ⟨PRE.blind, va_recv hKc hPc (ci := 9) (q0 := 0) rfl rfl, PRE.of hE hS hFc hPc hKc hDc⟩ rfl rfl hl.1 rfl (lv_room (Nat.le_of_ble_eq_true rfl)) dX2_takeAway_120 ⟨Nat.le_of_ble_eq_true rfl, Nat.le_of_ble_eq_true rfl⟩) hS (fun q _ h => hFc q h) hFc (fun u t H locs ht hvm hw hB hz1 hk1 hS => ?_)
              obtain ⟨hP, hD, hK⟩ := JOIN (wr := ([] : va_W)) hP hD hK [0, 1, 2, 3, 4, 5, 6, 7, 8, 9, 10, 11, 12, 13, 14, 15] [] [] rfl rfl (by decide) (by decide) rfl hk1 hFc ht hvm hB
              have hP : va_P (dC, dI) cls (oX2 (p0a 0) p0a p0k p0n o_15 p0l) H := hP.sub [0, 1, 2, 3, 4, 5, 6, 7, 8, 9, 10, 11, 12, 13, 14, 15] rfl
              have hD : va_D A (oX2 (p0a 0) p0a p0k p0n o_15 p0l) := hD.sub [0, 1, 2, 3, 4, 5, 6, 7, 8, 9, 10, 11, 12, 13, 14, 15] (by decide) rfl
              have hK : va_K (dC, dI) cls (tX2 p0k) s := hK.sub [0, 1, 2, 3, 4, 5, 6, 7, 8, 9, 10, 11, 12, 13, 14] rfl
              exact J123 o_15 _ _ _ hrun hP hD hS (lv_sub hl [0, 1, 2] rfl)
      obtain ⟨o97, hc97, hrun⟩ := bnd9 hrun
      refine L97 NF (p0w_84 0 0) p0w_84 o97 _ _ _ hc97 hP hD hS (lv_sub hl [1, 2, 0] rfl) ?_
      intro H locs ls hP hD hS hl
      have hl := hl
      exact J129 o97 _ _ _ hrun hP hD hS (lv_sub hl [] rfl)
  rcases br9 hrun with ⟨hc16, hrun⟩ | ⟨hc16, hrun⟩
  · refine lv_if_lt (tgt := 84) hx hb dX2_takeAway_71 (by decide) (fun _ => ?_) (fun c => absurd hc16 c)
    exact J84 o9 _ _ _ hrun hP hD hS (lv_sub hl [0, 1] rfl)
  · refine lv_if_lt (tgt := 84) hx hb dX2_takeAway_71 (by decide) (fun c => absurd c hc16) (fun _ => ?_)
    refine lv_aload_n hx hb dX2_takeAway_74 rfl (lv_at hl 0 rfl) ?_
    refine lv_aload_n hx hb dX2_takeAway_75 rfl (lv_at hl 0 rfl) ?_
    refine va_get (D := (dC, dI)) (ci := 9) (v := .ref (p0a 12)) (C := RX2) (T := TX2) (N := 19) hx hb hts i_X2 hown hK hP 0 rfl rfl 11 (by decide) (hts _ qw671) (fun _ h9 => h9) rfl dX2_takeAway_76 ?_
    refine lv_iload_n hx hb dX2_takeAway_79 rfl (lv_at hl 1 rfl) ?_
    obtain ⟨hq17, hrun⟩ := chk9 hrun
    refine va_iald hx hb hK hP 8 7 rfl rfl (ixb_in hq17) dX2_takeAway_80 ?_
    obtain ⟨o_18, hc_18, hrun⟩ := bnd9 hrun
    have hPc := hP.sub (ws' := (oX2 (p0a 0) p0a p0k p0n o9 p0l)) [0, 1, 2, 3, 4, 5, 6, 7, 8, 9, 10, 11, 12, 13, 14, 15] rfl
    have hDc := hD.sub (ws' := (oX2 (p0a 0) p0a p0k p0n o9 p0l)) [0, 1, 2, 3, 4, 5, 6, 7, 8, 9, 10, 11, 12, 13, 14, 15] (by decide) rfl
    have hKc := hK.sub (tys' := (tX2 p0k)) [0, 1, 2, 3, 4, 5, 6, 7, 8, 9, 10, 11, 12, 13, 14] rfl
    have hFc := va_free (wc := (oX2 (p0a 0) p0a p0k p0n o9 p0l)) hD hS hA [0, 1, 2, 3, 4, 5, 6, 7, 8, 9, 10, 11, 12, 13, 14, 15] rfl
    refine va_callv (va_runV (As := [.int (o9 12 (nn p1))]) (rest := []) ⟨hx, hb, hml, hown, hts⟩ (kX2_lowerLeft l dC dI (p0a := (st0 (p0a 0) p0a)) (p0k := p0k) (p0n := p0n) (p0w := o9) (p0l := p0l) (p1 := (o9 12 (nn p1))) (sz := _) (o := o_18) (hrun := hc_18)) (cwV 1 hts (gi_V qw668 qw669 qw670 qw595 (gi_z qw667)) rfl rfl rfl (by decide +kernel) ⟨Nat.le_of_ble_eq_true rfl, Nat.le_of_ble_eq_true rfl⟩) ⟨PRE.blind, va_recv hKc hPc (ci := 9) (q0 := 0) rfl rfl, PRE.of hE hS hFc hPc hKc hDc⟩ rfl rfl hl.1 rfl (lv_room (Nat.le_of_ble_eq_true rfl)) dX2_takeAway_81 ⟨Nat.le_of_ble_eq_true rfl, Nat.le_of_ble_eq_true rfl⟩) hS (fun q _ h => hFc q h) hFc (fun u t H locs ht hvm hw hB hz1 hk1 hS => ?_)
    obtain ⟨hP, hD, hK⟩ := JOIN (wr := ([] : va_W)) hP hD hK [0, 1, 2, 3, 4, 5, 6, 7, 8, 9, 10, 11, 12, 13, 14, 15] [] [] rfl rfl (by decide) (by decide) rfl hk1 hFc ht hvm hB
    have hP : va_P (dC, dI) cls (oX2 (p0a 0) p0a p0k p0n o_18 p0l) H := hP.sub [0, 1, 2, 3, 4, 5, 6, 7, 8, 9, 10, 11, 12, 13, 14, 15] rfl
    have hD : va_D A (oX2 (p0a 0) p0a p0k p0n o_18 p0l) := hD.sub [0, 1, 2, 3, 4, 5, 6, 7, 8, 9, 10, 11, 12, 13, 14, 15] (by decide) rfl
    have hK : va_K (dC, dI) cls (tX2 p0k) s := hK.sub [0, 1, 2, 3, 4, 5, 6, 7, 8, 9, 10, 11, 12, 13, 14] rfl
    exact J84 o_18 _ _ _ hrun hP hD hS (lv_sub hl [0, 1] rfl)
def fX2_registerBit_J21 (y0_21 : Int32) : Option Int32 := some y0_21
def fX2_registerBit (p0n : Nat → Nat) (p0w : ST) (p1 : Int32) : Option Int32 := (if ixb p1 (p0n 17) = true then (if 0 ≤ (p0w 17 (nn p1)) then (if ixb p1 (p0n 17) = true then (fX2_registerBit_J21 (1 <<< ((p0w 17 (nn p1)) &&& 31))) else none) else (fX2_registerBit_J21 0)) else none)
set_option maxHeartbeats 16000000 in
set_option maxRecDepth 100000 in
theorem kX2_registerBit {zs : Nat × Nat} (l : Launch) (dC : Nat → ClassId) (dI : Nat → Nat → Nat) (p0a : Nat → Nat) (p0k : Nat → ClassId) (p0n : Nat → Nat) (p0w : ST) (p0l : SL) (p1 : Int32) (sz : Nat) (o : Int32) (hrun : fX2_registerBit p0n p0w p1 = some o) : Met l yX2_registerBit (wz yX2_registerBit cX2_registerBit 2 (Option.some Jvm.ClassFile.FieldType.int)) ({ frames := 0, cells := 0, slots := 0, locals := 0 } : Room) (va_Pc [.ref (p0a 0), .int p1] (PRE zs dC dI (oX2 (p0a 0) p0a p0k p0n p0w p0l) (tX2 p0k) sz)) (va_Qi (fun (r : Int32) (_ : Unit) => r = o) (fun _ t => POST dC dI (oX2 (p0a 0) p0a p0k p0n p0w p0l) (tX2 p0k) (va_A (oX2 (p0a 0) p0a p0k p0n p0w p0l) sz) t) (va_A (oX2 (p0a 0) p0a p0k p0n p0w p0l) sz)) 0 0 (va_A (oX2 (p0a 0) p0a p0k p0n p0w p0l) sz) := by
  refine Met.ofW (cc := cX2_registerBit) (maxL := 2) (ret := (Option.some Jvm.ClassFile.FieldType.int)) (by decide) rfl ?_
  intro p e s m args below meth c s₁ B hml hv
  obtain ⟨rfl, hsz, hP, hK, hD0, hE⟩ := hv
  have hx := B.exec
  have hb := B.bytes
  have hr := B.returns
  have hts0 := atoms_spec (ws := wz yX2_registerBit cX2_registerBit 2 (Option.some Jvm.ClassFile.FieldType.int)) B.pre
  have hts : ∀ w ∈ gw, w.before _ s = true := fun w h => hts0 w (List.mem_cons_of_mem _ h)
  have hown : s.vm.findClass RX2 = some m.cls := findClass_of_methodNamed B.named
  have hlocks := B.notSynchronized
  subst hsz
  have hD := hD0.self (sz := s.heap.size)
  refine gQ9 ?_
  intro Q hQ
  generalize hAe : va_A (oX2 (p0a 0) p0a p0k p0n p0w p0l) s.heap.size = A at hD hE hQ
  have hA : ∀ q : Nat, s.heap.size ≤ q → A q := fun q h => by rw [← hAe]; exact Or.inr h
  have hS : va_S A s.heap s.heap [] := va_S.rf
  have hP : va_P (dC, dI) cls (oX2 (p0a 0) p0a p0k p0n p0w p0l) s.heap := hP
  have hl := lv_entry ([.ref (p0a 0), .int p1]) (n := 2) (Nat.le_of_ble_eq_true rfl)
  rw [lg_entry_eq]
  generalize (lg_sl ([.ref (p0a 0), .int p1]) ++ List.replicate (2 - (lg_sl ([.ref (p0a 0), .int p1])).length) Slot.unset).toArray = ls at hl ⊢
  have hl : lv_has ls 2 [(0, .ref (p0a 0)), (1, .int p1)] := hl
  obtain ⟨H, hHe⟩ : ∃ H, H = s.heap := ⟨_, rfl⟩
  obtain ⟨locs, hle⟩ : ∃ locs : List Loc, locs = [] := ⟨_, rfl⟩
  rw [← hHe] at hP
  have hS : va_S A s.heap H locs := by rw [hHe, hle]; exact hS
  show W p l e ({ frames := 0, cells := 0, slots := 0, locals := 0 } : Room) s m ([.ref (p0a 0), .int p1] : List Value).toArray below meth c s.heap [] 0 0 Q (F0 m 0 ls [])
  rw [← hle]
  refine wH9 hHe ?_
  unfold fX2_registerBit at hrun
  refine lv_aload_n hx hb dX2_registerBit_0 rfl (lv_at hl 0 rfl) ?_
  refine va_get (D := (dC, dI)) (ci := 9) (v := .ref (p0a 17)) (C := RX2) (T := TX2) (N := 19) hx hb hts i_X2 hown hK hP 0 rfl rfl 16 (by decide) (hts _ qw661) (fun _ h9 => h9) rfl dX2_registerBit_1 ?_
  refine lv_iload_n hx hb dX2_registerBit_4 rfl (lv_at hl 1 rfl) ?_
  obtain ⟨hq1, hrun⟩ := chk9 hrun
  refine va_iald hx hb hK hP 13 12 rfl rfl (ixb_in hq1) dX2_registerBit_5 ?_
  have J21 : ∀ (y0_21 : Int32) (H : Heap) (locs : List Loc) (ls : Array Slot), (fX2_registerBit_J21 y0_21) = some o → va_P (dC, dI) cls (oX2 (p0a 0) p0a p0k p0n p0w p0l) H → va_D A (oX2 (p0a 0) p0a p0k p0n p0w p0l) → va_S A s.heap H locs → lv_has ls 2 [] → W p l e ({ frames := 0, cells := 0, slots := 0, locals := 0 } : Room) s m ([.ref (p0a 0), .int p1] : List Value).toArray below meth c H locs 0 0 Q (F0 m 21 ls [.int y0_21]) := by
    intro y0_21 H locs ls hrun hP hD hS hl
    unfold fX2_registerBit_J21 at hrun
    have ho9 : y0_21 = o := Option.some.inj hrun
    have hP9 : va_P (dC, dI) cls (oX2 (p0a 0) p0a p0k p0n p0w p0l) H := by first | exact hP | (rw [← ho9]; exact hP)
    have hD9 : va_D A (oX2 (p0a 0) p0a p0k p0n p0w p0l) := by first | exact hD | (rw [← ho9]; exact hD)
    subst hQ
    exact W.iret (v := y0_21) hx hb hr (fun t ht hW => ⟨⟨y0_21, (), rfl, (by rw [← ho9]), ⟨by rw [ht]; exact hP9, va_K.moved hW.alike hK, hD9⟩⟩, hS.F ht⟩) hS.2.2 dX2_registerBit_21
  rcases br9 hrun with ⟨hc2, hrun⟩ | ⟨hc2, hrun⟩
  · refine lv_if_ge (tgt := 13) hx hb dX2_registerBit_6 (by decide) (fun _ => ?_) (fun c => absurd hc2 c)
    refine lv_iconst (v := 1) hx hb dX2_registerBit_13 (by decide) ?_
    refine lv_aload_n hx hb dX2_registerBit_14 rfl (lv_at hl 0 rfl) ?_
    refine va_get (D := (dC, dI)) (ci := 9) (v := .ref (p0a 17)) (C := RX2) (T := TX2) (N := 19) hx hb hts i_X2 hown hK hP 0 rfl rfl 16 (by decide) (hts _ qw661) (fun _ h9 => h9) rfl dX2_registerBit_15 ?_
    refine lv_iload_n hx hb dX2_registerBit_18 rfl (lv_at hl 1 rfl) ?_
    obtain ⟨hq3, hrun⟩ := chk9 hrun
    refine va_iald hx hb hK hP 13 12 rfl rfl (ixb_in hq3) dX2_registerBit_19 ?_
    refine lv_ishl hx hb dX2_registerBit_20 ?_
    exact J21 (1 <<< ((p0w 17 (nn p1)) &&& 31)) _ _ _ hrun hP hD hS (lv_sub hl [] rfl)
  · refine lv_if_ge (tgt := 13) hx hb dX2_registerBit_6 (by decide) (fun c => absurd c hc2) (fun _ => ?_)
    refine lv_iconst (v := 0) hx hb dX2_registerBit_9 (by decide) ?_
    refine lv_goto (tgt := 21) hx hb dX2_registerBit_10 (by decide) ?_
    exact J21 0 _ _ _ hrun hP hD hS (lv_sub hl [] rfl)
def fX2_freeRegister_L30 (p0n : Nat → Nat) (p0w : ST) (v4_5 : Int32) : Nat → Int32 → Int64 → Option Int32
  | 0 => fun _ _ => none
  | n_30 + 1 => fun v3_30 v5_30 => (if (lg_cmp v5_30 (0 : Int64)) = 0 then some v3_30 else ((fX11_lowest v5_30).bind fun (o_4 : Int32) => ((fX2_registerBit p0n p0w ((v4_5 * 64) + o_4)).bind fun (o_6 : Int32) => ((fX2_freeRegister_L30 p0n p0w v4_5 n_30) (v3_30 ||| o_6) (v5_30 &&& (v5_30 - (1 : Int64)))))))
def fX2_freeRegister_L5 (p0n : Nat → Nat) (p0w : ST) (p0l : SL) (p1 : Int32) : Nat → Int32 → Int32 → Option Int32
  | 0 => fun _ _ => none
  | n_5 + 1 => fun v3_5 v4_5 => (if (p0w 0 2) ≤ v4_5 then some v3_5 else (if ixb ((p1 * (p0w 0 2)) + v4_5) (p0n 11) = true then ((fX2_freeRegister_L30 p0n p0w v4_5 NF v3_5 (p0l 11 (nn ((p1 * (p0w 0 2)) + v4_5)))).bind fun (o30 : Int32) => ((fX2_freeRegister_L5 p0n p0w p0l p1 n_5) o30 (v4_5 + 1))) else none))
def fX2_freeRegister_L150 (p2 : Int32) (v3_147 : Int32) : Nat → Int32 → Option (Sum Int32 Unit)
  | 0 => fun _ => none
  | n_150 + 1 => fun v4_150 => (if p2 ≤ v4_150 then some (Sum.inr ()) else (if ((v3_147 >>> (v4_150 &&& 31)) &&& 1) = 0 then some (Sum.inl v4_150) else ((fX2_freeRegister_L150 p2 v3_147 n_150) (v4_150 + 1))))
def fX2_freeRegister_J147 (p2 : Int32) (v3_147 : Int32) : Option Int32 := ((fX2_freeRegister_L150 p2 v3_147 NF 0).bind fun (o150 : (Sum Int32 Unit)) => Sum.elim (fun r => some r) (fun (t150 : Unit) => some (-1)) o150)
def fX2_freeRegister_J141 (kk109 : Int32 → Int32 → Option Int32) (v4_109 : Int32) (v3_141 : Int32) : Option Int32 := (kk109 v3_141 (v4_109 + 1))
def fX2_freeRegister_L109 (p0n : Nat → Nat) (p0w : ST) (p0l : SL) (p1 : Int32) : Nat → Int32 → Int32 → Option Int32
  | 0 => fun _ _ => none
  | n_109 + 1 => fun v3_109 v4_109 => (if (p0w 0 1) ≤ v4_109 then some v3_109 else ((fX2_isIn p0w (p0n 11) (p0l 11) v4_109 p1).bind fun (o_13 : Int32) => (if o_13 = 0 then (fX2_freeRegister_J141 (fX2_freeRegister_L109 p0n p0w p0l p1 n_109) v4_109 v3_109) else ((fX2_registerBit p0n p0w v4_109).bind fun (o_16 : Int32) => (fX2_freeRegister_J141 (fX2_freeRegister_L109 p0n p0w p0l p1 n_109) v4_109 (v3_109 ||| o_16))))))
def fX2_freeRegister_J95 (p0n : Nat → Nat) (p0w : ST) (p0l : SL) (p1 : Int32) (p2 : Int32) (v3_95 : Int32) : Option Int32 := (if (p0w 0 0) ≤ p1 then (fX2_freeRegister_J147 p2 v3_95) else ((fX2_freeRegister_L109 p0n p0w p0l p1 NF v3_95 (p0w 0 0)).bind fun (o109 : Int32) => (fX2_freeRegister_J147 p2 o109)))
def fX2_freeRegister (p0n : Nat → Nat) (p0w : ST) (p0l : SL) (p1 : Int32) (p2 : Int32) : Option Int32 := ((fX2_freeRegister_L5 p0n p0w p0l p1 NF 0 0).bind fun (o5 : Int32) => (if ixb p1 (p0n 12) = true then (if (p0w 12 (nn p1)) < 0 then (fX2_freeRegister_J95 p0n p0w p0l p1 p2 o5) else (if ixb p1 (p0n 12) = true then ((fX2_registerBit p0n p0w (p0w 12 (nn p1))).bind fun (o_20 : Int32) => (fX2_freeRegister_J95 p0n p0w p0l p1 p2 (o5 ||| o_20))) else none)) else none))
set_option maxHeartbeats 16000000 in
set_option maxRecDepth 100000 in
theorem kX2_freeRegister {zs : Nat × Nat} (l : Launch) (dC : Nat → ClassId) (dI : Nat → Nat → Nat) (p0a : Nat → Nat) (p0k : Nat → ClassId) (p0n : Nat → Nat) (p0w : ST) (p0l : SL) (p1 : Int32) (p2 : Int32) (sz : Nat) (o : Int32) (hrun : fX2_freeRegister p0n p0w p0l p1 p2 = some o) : Met l yX2_freeRegister (wz yX2_freeRegister cX2_freeRegister 7 (Option.some Jvm.ClassFile.FieldType.int)) ({ frames := 2, cells := 0, slots := 0, locals := 45 } : Room) (va_Pc [.ref (p0a 0), .int p1, .int p2] (PRE zs dC dI (oX2 (p0a 0) p0a p0k p0n p0w p0l) (tX2 p0k) sz)) (va_Qi (fun (r : Int32) (_ : Unit) => r = o) (fun _ t => POST dC dI (oX2 (p0a 0) p0a p0k p0n p0w p0l) (tX2 p0k) (va_A (oX2 (p0a 0) p0a p0k p0n p0w p0l) sz) t) (va_A (oX2 (p0a 0) p0a p0k p0n p0w p0l) sz)) 0 0 (va_A (oX2 (p0a 0) p0a p0k p0n p0w p0l) sz) := by
  refine Met.ofW (cc := cX2_freeRegister) (maxL := 7) (ret := (Option.some Jvm.ClassFile.FieldType.int)) (by decide) rfl ?_
  intro p e s m args below meth c s₁ B hml hv
  obtain ⟨rfl, hsz, hP, hK, hD0, hE⟩ := hv
  have hx := B.exec
  have hb := B.bytes
  have hr := B.returns
  have hts0 := atoms_spec (ws := wz yX2_freeRegister cX2_freeRegister 7 (Option.some Jvm.ClassFile.FieldType.int)) B.pre
  have hts : ∀ w ∈ gw, w.before _ s = true := fun w h => hts0 w (List.mem_cons_of_mem _ h)
  have hown : s.vm.findClass RX2 = some m.cls := findClass_of_methodNamed B.named
  have hlocks := B.notSynchronized
  subst hsz
  have hD := hD0.self (sz := s.heap.size)
  refine gQ9 ?_
  intro Q hQ
  generalize hAe : va_A (oX2 (p0a 0) p0a p0k p0n p0w p0l) s.heap.size = A at hD hE hQ
  have hA : ∀ q : Nat, s.heap.size ≤ q → A q := fun q h => by rw [← hAe]; exact Or.inr h
  have hS : va_S A s.heap s.heap [] := va_S.rf
  have hP : va_P (dC, dI) cls (oX2 (p0a 0) p0a p0k p0n p0w p0l) s.heap := hP
  have hl := lv_entry ([.ref (p0a 0), .int p1, .int p2]) (n := 7) (Nat.le_of_ble_eq_true rfl)
  rw [lg_entry_eq]
  generalize (lg_sl ([.ref (p0a 0), .int p1, .int p2]) ++ List.replicate (7 - (lg_sl ([.ref (p0a 0), .int p1, .int p2])).length) Slot.unset).toArray = ls at hl ⊢
  have hl : lv_has ls 7 [(0, .ref (p0a 0)), (1, .int p1), (2, .int p2)] := hl
  obtain ⟨H, hHe⟩ : ∃ H, H = s.heap := ⟨_, rfl⟩
  obtain ⟨locs, hle⟩ : ∃ locs : List Loc, locs = [] := ⟨_, rfl⟩
  rw [← hHe] at hP
  have hS : va_S A s.heap H locs := by rw [hHe, hle]; exact hS
  show W p l e ({ frames := 2, cells := 0, slots := 0, locals := 45 } : Room) s m ([.ref (p0a 0), .int p1, .int p2] : List Value).toArray below meth c s.heap [] 0 0 Q (F0 m 0 ls [])
  rw [← hle]
  refine wH9 hHe ?_
  unfold fX2_freeRegister at hrun
  refine lv_iconst (v := 0) hx hb dX2_freeRegister_0 (by decide) ?_
  refine lv_istore_n (lv' := [(3, .int 0), (0, .ref (p0a 0)), (1, .int p1), (2, .int p2)]) hx hb dX2_freeRegister_1 rfl hl (by decide) rfl (fun ls hl => ?_)
  refine lv_iconst (v := 0) hx hb dX2_freeRegister_2 (by decide) ?_
  refine lv_istore (lv' := [(4, .int 0), (3, .int 0), (0, .ref (p0a 0)), (1, .int p1), (2, .int p2)]) hx hb dX2_freeRegister_3 hl (by decide) rfl (fun ls hl => ?_)
  have L5 : ∀ (n_5 : Nat) (v3_5 : Int32) (v4_5 : Int32) (o5 : Int32) (H : Heap) (locs : List Loc) (ls : Array Slot), (fX2_freeRegister_L5 p0n p0w p0l p1 n_5) v3_5 v4_5 = some o5 → va_P (dC, dI) cls (oX2 (p0a 0) p0a p0k p0n p0w p0l) H → va_D A (oX2 (p0a 0) p0a p0k p0n p0w p0l) → va_S A s.heap H locs → lv_has ls 7 [(0, .ref (p0a 0)), (1, .int p1), (2, .int p2), (3, .int v3_5), (4, .int v4_5)] → (∀ (H : Heap) (locs : List Loc) (ls : Array Slot), va_P (dC, dI) cls (oX2 (p0a 0) p0a p0k p0n p0w p0l) H → va_D A (oX2 (p0a 0) p0a p0k p0n p0w p0l) → va_S A s.heap H locs → lv_has ls 7 [(0, .ref (p0a 0)), (1, .int p1), (2, .int p2), (3, .int o5)] → W p l e ({ frames := 2, cells := 0, slots := 0, locals := 45 } : Room) s m ([.ref (p0a 0), .int p1, .int p2] : List Value).toArray below meth c H locs 0 0 Q (F0 m 73 ls [])) → W p l e ({ frames := 2, cells := 0, slots := 0, locals := 45 } : Room) s m ([.ref (p0a 0), .int p1, .int p2] : List Value).toArray below meth c H locs 0 0 Q (F0 m 5 ls []) := by
    intro n_5
    induction n_5 with
    | zero => intro v3_5 v4_5 o5 H locs ls hrun; exact (no9 rfl hrun).elim
    | succ n_5 IH5 =>
      intro v3_5 v4_5 o5 H locs ls hrun hP hD hS hl hk5
      unfold fX2_freeRegister_L5 at hrun
      refine lv_iload hx hb dX2_freeRegister_5 (lv_at hl 4 rfl) ?_
      refine lv_aload_n hx hb dX2_freeRegister_7 rfl (lv_at hl 0 rfl) ?_
      refine va_get (D := (dC, dI)) (ci := 9) (v := .int (p0w 0 2)) (C := RX2) (T := TX2) (N := 19) hx hb hts i_X2 hown hK hP 0 rfl rfl 2 (by decide) (hts _ qw590) (fun _ h9 => h9) rfl dX2_freeRegister_8 ?_
      rcases br9 hrun with ⟨hc1, hrun⟩ | ⟨hc1, hrun⟩
      · refine lv_icmp_ge (tgt := 73) hx hb dX2_freeRegister_11 (by decide) (fun _ => ?_) (fun c => absurd hc1 c)
        obtain rfl := (Option.some.inj hrun)
        exact hk5 _ _ _ hP hD hS (lv_sub hl [0, 1, 2, 3] rfl)
      · refine lv_icmp_ge (tgt := 73) hx hb dX2_freeRegister_11 (by decide) (fun c => absurd c hc1) (fun _ => ?_)
        refine lv_aload_n hx hb dX2_freeRegister_14 rfl (lv_at hl 0 rfl) ?_
        refine va_get (D := (dC, dI)) (ci := 9) (v := .ref (p0a 11)) (C := RX2) (T := TX2) (N := 19) hx hb hts i_X2 hown hK hP 0 rfl rfl 10 (by decide) (hts _ qw589) (fun _ h9 => h9) rfl dX2_freeRegister_15 ?_
        refine lv_iload_n hx hb dX2_freeRegister_18 rfl (lv_at hl 1 rfl) ?_
        refine lv_aload_n hx hb dX2_freeRegister_19 rfl (lv_at hl 0 rfl) ?_
        refine va_get (D := (dC, dI)) (ci := 9) (v := .int (p0w 0 2)) (C := RX2) (T := TX2) (N := 19) hx hb hts i_X2 hown hK hP 0 rfl rfl 2 (by decide) (hts _ qw590) (fun _ h9 => h9) rfl dX2_freeRegister_20 ?_
        refine lv_imul hx hb dX2_freeRegister_23 ?_
        refine lv_iload hx hb dX2_freeRegister_24 (lv_at hl 4 rfl) ?_
        refine lv_iadd hx hb dX2_freeRegister_26 ?_
        obtain ⟨hq2, hrun⟩ := chk9 hrun
        refine va_lald hx hb hK hP 7 6 rfl rfl (ixb_in hq2) dX2_freeRegister_27 ?_
        refine lv_lstore (lv' := [(5, .long (p0l 11 (nn ((p1 * (p0w 0 2)) + v4_5)))), (0, .ref (p0a 0)), (1, .int p1), (2, .int p2), (3, .int v3_5), (4, .int v4_5)]) hx hb dX2_freeRegister_28 hl (by decide) rfl (fun ls hl => ?_)
        have L30 : ∀ (n_30 : Nat) (v3_30 : Int32) (v5_30 : Int64) (o30 : Int32) (H : Heap) (locs : List Loc) (ls : Array Slot), (fX2_freeRegister_L30 p0n p0w v4_5 n_30) v3_30 v5_30 = some o30 → va_P (dC, dI) cls (oX2 (p0a 0) p0a p0k p0n p0w p0l) H → va_D A (oX2 (p0a 0) p0a p0k p0n p0w p0l) → va_S A s.heap H locs → lv_has ls 7 [(0, .ref (p0a 0)), (1, .int p1), (2, .int p2), (3, .int v3_30), (4, .int v4_5), (5, .long v5_30)] → (∀ (H : Heap) (locs : List Loc) (ls : Array Slot), va_P (dC, dI) cls (oX2 (p0a 0) p0a p0k p0n p0w p0l) H → va_D A (oX2 (p0a 0) p0a p0k p0n p0w p0l) → va_S A s.heap H locs → lv_has ls 7 [(0, .ref (p0a 0)), (1, .int p1), (2, .int p2), (3, .int o30), (4, .int v4_5)] → W p l e ({ frames := 2, cells := 0, slots := 0, locals := 45 } : Room) s m ([.ref (p0a 0), .int p1, .int p2] : List Value).toArray below meth c H locs 0 0 Q (F0 m 67 ls [])) → W p l e ({ frames := 2, cells := 0, slots := 0, locals := 45 } : Room) s m ([.ref (p0a 0), .int p1, .int p2] : List Value).toArray below meth c H locs 0 0 Q (F0 m 30 ls []) := by
          intro n_30
          induction n_30 with
          | zero => intro v3_30 v5_30 o30 H locs ls hrun; exact (no9 rfl hrun).elim
          | succ n_30 IH30 =>
            intro v3_30 v5_30 o30 H locs ls hrun hP hD hS hl hk30
            unfold fX2_freeRegister_L30 at hrun
            refine lv_lload hx hb dX2_freeRegister_30 (lv_at hl 5 rfl) ?_
            refine lv_lconst (v := 0) hx hb dX2_freeRegister_32 (by decide) ?_
            refine W.lcmp hx hb dX2_freeRegister_33 ?_
            rcases br9 hrun with ⟨hc3, hrun⟩ | ⟨hc3, hrun⟩
            · refine lv_if_eq (tgt := 67) hx hb dX2_freeRegister_34 (by decide) (fun _ => ?_) (fun c => absurd hc3 c)
              obtain rfl := (Option.some.inj hrun)
              exact hk30 _ _ _ hP hD hS (lv_sub hl [0, 1, 2, 3, 4] rfl)
            · refine lv_if_eq (tgt := 67) hx hb dX2_freeRegister_34 (by decide) (fun c => absurd c hc3) (fun _ => ?_)
              refine lv_iload_n hx hb dX2_freeRegister_37 rfl (lv_at hl 3 rfl) ?_
              refine lv_aload_n hx hb dX2_freeRegister_38 rfl (lv_at hl 0 rfl) ?_
              refine lv_iload hx hb dX2_freeRegister_39 (lv_at hl 4 rfl) ?_
              refine lv_bipush (v := 64) hx hb dX2_freeRegister_41 (by decide) ?_
              refine lv_imul hx hb dX2_freeRegister_43 ?_
              refine lv_lload hx hb dX2_freeRegister_44 (lv_at hl 5 rfl) ?_
              obtain ⟨o_4, hc_4, hrun⟩ := bnd9 hrun
              have hPc := hP.sub (ws' := ([] : va_W)) [] rfl
              have hDc := hD.sub (ws' := ([] : va_W)) [] (by decide) rfl
              have hKc := hK.sub (tys' := ([] : List (ClassId × FieldType))) [] rfl
              have hFc := va_free (wc := ([] : va_W)) hD hS hA [] rfl
              refine va_calli (va_runSN (As := [.long v5_30]) (rest := [.int (v4_5 * 64), .ref (p0a 0), .int v3_30]) ⟨hx, hb, hml, hown, hts⟩ (kX11_lowest l dC dI (p0 := v5_30) (sz := _) (o := o_4) (hrun := hc_4)) ⟨(va_cnB 1 hts (gi_z qw604) rfl rfl rfl (hE.nw (List.mem_append_right _ (tbl_9 (i := 34) rfl)) rfl) (hts _ qw159) (by decide +kernel) ⟨Nat.le_of_ble_eq_true rfl, Nat.le_of_ble_eq_true rfl⟩), (hts _ qw605), trivial⟩ ⟨PRE.blind, PRE.of hE hS hFc hPc hKc hDc⟩ rfl rfl hl.1 rfl (lv_room (Nat.le_of_ble_eq_true rfl)) dX2_freeRegister_46 ⟨Nat.le_of_ble_eq_true rfl, Nat.le_of_ble_eq_true rfl⟩) hS (fun q _ h => hFc q h) hFc (fun r5 u t H locs ht hvm hw hB hz1 hk1 hS => ?_)
              obtain ⟨hP, hD, hK⟩ := JOIN (wr := (oX2 (p0a 0) p0a p0k p0n p0w p0l)) hP hD hK [] [0, 1, 2, 3, 4, 5, 6, 7, 8, 9, 10, 11, 12, 13, 14, 15] [0, 1, 2, 3, 4, 5, 6, 7, 8, 9, 10, 11, 12, 13, 14] rfl rfl (by decide) (by decide) rfl hk1 hFc ht hvm hB
              have hP : va_P (dC, dI) cls (oX2 (p0a 0) p0a p0k p0n p0w p0l) H := hP.sub [0, 1, 2, 3, 4, 5, 6, 7, 8, 9, 10, 11, 12, 13, 14, 15] rfl
              have hD : va_D A (oX2 (p0a 0) p0a p0k p0n p0w p0l) := hD.sub [0, 1, 2, 3, 4, 5, 6, 7, 8, 9, 10, 11, 12, 13, 14, 15] (by decide) rfl
              have hK : va_K (dC, dI) cls (tX2 p0k) s := hK.sub [0, 1, 2, 3, 4, 5, 6, 7, 8, 9, 10, 11, 12, 13, 14] rfl
              obtain rfl : o_4 = r5 := hw.symm
              refine lv_iadd hx hb dX2_freeRegister_49 ?_
              obtain ⟨o_6, hc_6, hrun⟩ := bnd9 hrun
              have hPc := hP.sub (ws' := (oX2 (p0a 0) p0a p0k p0n p0w p0l)) [0, 1, 2, 3, 4, 5, 6, 7, 8, 9, 10, 11, 12, 13, 14, 15] rfl
              have hDc := hD.sub (ws' := (oX2 (p0a 0) p0a p0k p0n p0w p0l)) [0, 1, 2, 3, 4, 5, 6, 7, 8, 9, 10, 11, 12, 13, 14, 15] (by decide) rfl
              have hKc := hK.sub (tys' := (tX2 p0k)) [0, 1, 2, 3, 4, 5, 6, 7, 8, 9, 10, 11, 12, 13, 14] rfl
              have hFc := va_free (wc := (oX2 (p0a 0) p0a p0k p0n p0w p0l)) hD hS hA [0, 1, 2, 3, 4, 5, 6, 7, 8, 9, 10, 11, 12, 13, 14, 15] rfl
              refine va_calli (va_runV (As := [.int ((v4_5 * 64) + o_4)]) (rest := [.int v3_30]) ⟨hx, hb, hml, hown, hts⟩ (kX2_registerBit l dC dI (p0a := (st0 (p0a 0) p0a)) (p0k := p0k) (p0n := p0n) (p0w := p0w) (p0l := p0l) (p1 := ((v4_5 * 64) + o_4)) (sz := _) (o := o_6) (hrun := hc_6)) (cwV 1 hts (gi_V qw677 qw678 qw679 qw595 (gi_z qw676)) rfl rfl rfl (by decide +kernel) ⟨Nat.le_of_ble_eq_true rfl, Nat.le_of_ble_eq_true rfl⟩) ⟨PRE.blind, va_recv hKc hPc (ci := 9) (q0 := 0) rfl rfl, PRE.of hE hS hFc hPc hKc hDc⟩ rfl rfl hl.1 rfl (lv_room (Nat.le_of_ble_eq_true rfl)) dX2_freeRegister_50 ⟨Nat.le_of_ble_eq_true rfl, Nat.le_of_ble_eq_true rfl⟩) hS (fun q _ h => hFc q h) hFc (fun r7 u t H locs ht hvm hw hB hz1 hk1 hS => ?_)
              obtain ⟨hP, hD, hK⟩ := JOIN (wr := ([] : va_W)) hP hD hK [0, 1, 2, 3, 4, 5, 6, 7, 8, 9, 10, 11, 12, 13, 14, 15] [] [] rfl rfl (by decide) (by decide) rfl hk1 hFc ht hvm hB
              have hP : va_P (dC, dI) cls (oX2 (p0a 0) p0a p0k p0n p0w p0l) H := hP.sub [0, 1, 2, 3, 4, 5, 6, 7, 8, 9, 10, 11, 12, 13, 14, 15] rfl
              have hD : va_D A (oX2 (p0a 0) p0a p0k p0n p0w p0l) := hD.sub [0, 1, 2, 3, 4, 5, 6, 7, 8, 9, 10, 11, 12, 13, 14, 15] (by decide) rfl
              have hK : va_K (dC, dI) cls (tX2 p0k) s := hK.sub [0, 1, 2, 3, 4, 5, 6, 7, 8, 9, 10, 11, 12, 13, 14] rfl
              obtain rfl : o_6 = r7 := hw.symm
              refine lv_ior hx hb dX2_freeRegister_53 ?_
              refine lv_istore_n (lv' := [(3, .int (v3_30 ||| o_6)), (0, .ref (p0a 0)), (1, .int p1), (2, .int p2), (4, .int v4_5), (5, .long v5_30)]) hx hb dX2_freeRegister_54 rfl hl (by decide) rfl (fun ls hl => ?_)
              refine lv_lload hx hb dX2_freeRegister_55 (lv_at hl 5 rfl) ?_
              refine lv_lload hx hb dX2_freeRegister_57 (lv_at hl 5 rfl) ?_
              refine lv_lconst (v := 1) hx hb dX2_freeRegister_59 (by decide) ?_
              refine lv_lsub hx hb dX2_freeRegister_60 ?_
              refine lv_land hx hb dX2_freeRegister_61 ?_
              refine lv_lstore (lv' := [(5, .long (v5_30 &&& (v5_30 - (1 : Int64)))), (3, .int (v3_30 ||| o_6)), (0, .ref (p0a 0)), (1, .int p1), (2, .int p2), (4, .int v4_5)]) hx hb dX2_freeRegister_62 hl (by decide) rfl (fun ls hl => ?_)
              refine lv_goto (tgt := 30) hx hb dX2_freeRegister_64 (by decide) ?_
              exact IH30 (v3_30 ||| o_6) (v5_30 &&& (v5_30 - (1 : Int64))) o30 _ _ _ hrun hP hD hS (lv_sub hl [2, 3, 4, 1, 5, 0] rfl) hk30
        obtain ⟨o30, hc30, hrun⟩ := bnd9 hrun
        refine L30 NF v3_5 (p0l 11 (nn ((p1 * (p0w 0 2)) + v4_5))) o30 _ _ _ hc30 hP hD hS (lv_sub hl [1, 2, 3, 4, 5, 0] rfl) ?_
        intro H locs ls hP hD hS hl
        have hl := hl
        refine lv_iinc (v := (v4_5 + 1)) (lv' := [(4, .int (v4_5 + 1)), (0, .ref (p0a 0)), (1, .int p1), (2, .int p2), (3, .int o30)]) hx hb dX2_freeRegister_67 hl (k := 4) rfl rfl (by decide) rfl (fun ls hl => ?_)
        refine lv_goto (tgt := 5) hx hb dX2_freeRegister_70 (by decide) ?_
        exact IH5 o30 (v4_5 + 1) o5 _ _ _ hrun hP hD hS (lv_sub hl [1, 2, 3, 4, 0] rfl) hk5
  obtain ⟨o5, hc5, hrun⟩ := bnd9 hrun
  refine L5 NF 0 0 o5 _ _ _ hc5 hP hD hS (lv_sub hl [2, 3, 4, 1, 0] rfl) ?_
  intro H locs ls hP hD hS hl
  have hl := hl
  refine lv_aload_n hx hb dX2_freeRegister_73 rfl (lv_at hl 0 rfl) ?_
  refine va_get (D := (dC, dI)) (ci := 9) (v := .ref (p0a 12)) (C := RX2) (T := TX2) (N := 19) hx hb hts i_X2 hown hK hP 0 rfl rfl 11 (by decide) (hts _ qw671) (fun _ h9 => h9) rfl dX2_freeRegister_74 ?_
  refine lv_iload_n hx hb dX2_freeRegister_77 rfl (lv_at hl 1 rfl) ?_
  obtain ⟨hq8, hrun⟩ := chk9 hrun
  refine va_iald hx hb hK hP 8 7 rfl rfl (ixb_in hq8) dX2_freeRegister_78 ?_
  have J95 : ∀ (v3_95 : Int32) (H : Heap) (locs : List Loc) (ls : Array Slot), (fX2_freeRegister_J95 p0n p0w p0l p1 p2 v3_95) = some o → va_P (dC, dI) cls (oX2 (p0a 0) p0a p0k p0n p0w p0l) H → va_D A (oX2 (p0a 0) p0a p0k p0n p0w p0l) → va_S A s.heap H locs → lv_has ls 7 [(0, .ref (p0a 0)), (1, .int p1), (2, .int p2), (3, .int v3_95)] → W p l e ({ frames := 2, cells := 0, slots := 0, locals := 45 } : Room) s m ([.ref (p0a 0), .int p1, .int p2] : List Value).toArray below meth c H locs 0 0 Q (F0 m 95 ls []) := by
    intro v3_95 H locs ls hrun hP hD hS hl
    unfold fX2_freeRegister_J95 at hrun
    refine lv_iload_n hx hb dX2_freeRegister_95 rfl (lv_at hl 1 rfl) ?_
    refine lv_aload_n hx hb dX2_freeRegister_96 rfl (lv_at hl 0 rfl) ?_
    refine va_get (D := (dC, dI)) (ci := 9) (v := .int (p0w 0 0)) (C := RX2) (T := TX2) (N := 19) hx hb hts i_X2 hown hK hP 0 rfl rfl 0 (by decide) (hts _ qw588) (fun _ h9 => h9) rfl dX2_freeRegister_97 ?_
    have J147 : ∀ (v3_147 : Int32) (H : Heap) (locs : List Loc) (ls : Array Slot), (fX2_freeRegister_J147 p2 v3_147) = some o → va_P (dC, dI) cls (oX2 (p0a 0) p0a p0k p0n p0w p0l) H → va_D A (oX2 (p0a 0) p0a p0k p0n p0w p0l) → va_S A s.heap H locs → lv_has ls 7 [(2, .int p2), (3, .int v3_147)] → W p l e ({ frames := 2, cells := 0, slots := 0, locals := 45 } : Room) s m ([.ref (p0a 0), .int p1, .int p2] : List Value).toArray below meth c H locs 0 0 Q (F0 m 147 ls []) := by
      intro v3_147 H locs ls hrun hP hD hS hl
      unfold fX2_freeRegister_J147 at hrun
      refine lv_iconst (v := 0) hx hb dX2_freeRegister_147 (by decide) ?_
      refine lv_istore (lv' := [(4, .int 0), (2, .int p2), (3, .int v3_147)]) hx hb dX2_freeRegister_148 hl (by decide) rfl (fun ls hl => ?_)
      have L150 : ∀ (n_150 : Nat) (v4_150 : Int32) (o150 : (Sum Int32 Unit)) (H : Heap) (locs : List Loc) (ls : Array Slot), (fX2_freeRegister_L150 p2 v3_147 n_150) v4_150 = some o150 → va_P (dC, dI) cls (oX2 (p0a 0) p0a p0k p0n p0w p0l) H → va_D A (oX2 (p0a 0) p0a p0k p0n p0w p0l) → va_S A s.heap H locs → lv_has ls 7 [(2, .int p2), (3, .int v3_147), (4, .int v4_150)] → (∀ r, o150 = Sum.inl r → r = o) → (∀ (t150 : Unit), o150 = Sum.inr t150 → ∀ (H : Heap) (locs : List Loc) (ls : Array Slot), va_P (dC, dI) cls (oX2 (p0a 0) p0a p0k p0n p0w p0l) H → va_D A (oX2 (p0a 0) p0a p0k p0n p0w p0l) → va_S A s.heap H locs → lv_has ls 7 [] → W p l e ({ frames := 2, cells := 0, slots := 0, locals := 45 } : Room) s m ([.ref (p0a 0), .int p1, .int p2] : List Value).toArray below meth c H locs 0 0 Q (F0 m 174 ls [])) → W p l e ({ frames := 2, cells := 0, slots := 0, locals := 45 } : Room) s m ([.ref (p0a 0), .int p1, .int p2] : List Value).toArray below meth c H locs 0 0 Q (F0 m 150 ls []) := by
        intro n_150
        induction n_150 with
        | zero => intro v4_150 o150 H locs ls hrun; exact (no9 rfl hrun).elim
        | succ n_150 IH150 =>
          intro v4_150 o150 H locs ls hrun hP hD hS hl hr150 hk150
          unfold fX2_freeRegister_L150 at hrun
          refine lv_iload hx hb dX2_freeRegister_150 (lv_at hl 2 rfl) ?_
          refine lv_iload_n hx hb dX2_freeRegister_152 rfl (lv_at hl 0 rfl) ?_
          rcases br9 hrun with ⟨hc9, hrun⟩ | ⟨hc9, hrun⟩
          · refine lv_icmp_ge (tgt := 174) hx hb dX2_freeRegister_153 (by decide) (fun _ => ?_) (fun c => absurd hc9 c)
            obtain rfl := (Option.some.inj hrun)
            exact hk150 _ rfl _ _ _ hP hD hS (lv_sub hl [] rfl)
          · refine lv_icmp_ge (tgt := 174) hx hb dX2_freeRegister_153 (by decide) (fun c => absurd c hc9) (fun _ => ?_)
            refine lv_iload_n hx hb dX2_freeRegister_156 rfl (lv_at hl 1 rfl) ?_
            refine lv_iload hx hb dX2_freeRegister_157 (lv_at hl 2 rfl) ?_
            refine lv_ishr hx hb dX2_freeRegister_159 ?_
            refine lv_iconst (v := 1) hx hb dX2_freeRegister_160 (by decide) ?_
            refine lv_iand hx hb dX2_freeRegister_161 ?_
            rcases br9 hrun with ⟨hc10, hrun⟩ | ⟨hc10, hrun⟩
            · refine lv_if_ne (tgt := 168) hx hb dX2_freeRegister_162 (by decide) (fun c => absurd hc10 c) (fun _ => ?_)
              refine lv_iload hx hb dX2_freeRegister_165 (lv_at hl 2 rfl) ?_
              have ho9 : v4_150 = o := hr150 _ (Option.some.inj hrun).symm
              have hP9 : va_P (dC, dI) cls (oX2 (p0a 0) p0a p0k p0n p0w p0l) H := by first | exact hP | (rw [← ho9]; exact hP)
              have hD9 : va_D A (oX2 (p0a 0) p0a p0k p0n p0w p0l) := by first | exact hD | (rw [← ho9]; exact hD)
              subst hQ
              exact W.iret (v := v4_150) hx hb hr (fun t ht hW => ⟨⟨v4_150, (), rfl, (by rw [← ho9]), ⟨by rw [ht]; exact hP9, va_K.moved hW.alike hK, hD9⟩⟩, hS.F ht⟩) hS.2.2 dX2_freeRegister_167
            · refine lv_if_ne (tgt := 168) hx hb dX2_freeRegister_162 (by decide) (fun _ => ?_) (fun c => absurd c hc10)
              refine lv_iinc (v := (v4_150 + 1)) (lv' := [(4, .int (v4_150 + 1)), (2, .int p2), (3, .int v3_147)]) hx hb dX2_freeRegister_168 hl (k := 2) rfl rfl (by decide) rfl (fun ls hl => ?_)
              refine lv_goto (tgt := 150) hx hb dX2_freeRegister_171 (by decide) ?_
              exact IH150 (v4_150 + 1) o150 _ _ _ hrun hP hD hS (lv_sub hl [1, 2, 0] rfl) hr150 hk150
      obtain ⟨o150, hc150, hrun⟩ := bnd9 hrun
      refine L150 NF 0 o150 _ _ _ hc150 hP hD hS (lv_sub hl [1, 2, 0] rfl) (fun r e9 => by subst e9; exact Option.some.inj hrun) ?_
      intro t150 e9
      subst e9
      replace hrun := el9 hrun
      intro H locs ls hP hD hS hl
      have hl := hl
      refine lv_iconst (v := (-1)) hx hb dX2_freeRegister_174 (by decide) ?_
      have ho9 : (-1) = o := Option.some.inj hrun
      have hP9 : va_P (dC, dI) cls (oX2 (p0a 0) p0a p0k p0n p0w p0l) H := by first | exact hP | (rw [← ho9]; exact hP)
      have hD9 : va_D A (oX2 (p0a 0) p0a p0k p0n p0w p0l) := by first | exact hD | (rw [← ho9]; exact hD)
      subst hQ
      exact W.iret (v := (-1)) hx hb hr (fun t ht hW => ⟨⟨(-1), (), rfl, (by rw [← ho9]), ⟨by rw [ht]; exact hP9, va_K.moved hW.alike hK, hD9⟩⟩, hS.F ht⟩) hS.2.2 dX2_freeRegister_175
    rcases br9 hrun with ⟨hc11, hrun⟩ | ⟨hc11, hrun⟩
    · refine lv_icmp_ge (tgt := 147) hx hb dX2_freeRegister_100 (by decide) (fun _ => ?_) (fun c => absurd hc11 c)
      exact J147 v3_95 _ _ _ hrun hP hD hS (lv_sub hl [2, 3] rfl)
    · refine lv_icmp_ge (tgt := 147) hx hb dX2_freeRegister_100 (by decide) (fun c => absurd c hc11) (fun _ => ?_)
      refine lv_aload_n hx hb dX2_freeRegister_103 rfl (lv_at hl 0 rfl) ?_
      refine va_get (D := (dC, dI)) (ci := 9) (v := .int (p0w 0 0)) (C := RX2) (T := TX2) (N := 19) hx hb hts i_X2 hown hK hP 0 rfl rfl 0 (by decide) (hts _ qw588) (fun _ h9 => h9) rfl dX2_freeRegister_104 ?_
      refine lv_istore (lv' := [(4, .int (p0w 0 0)), (0, .ref (p0a 0)), (1, .int p1), (2, .int p2), (3, .int v3_95)]) hx hb dX2_freeRegister_107 hl (by decide) rfl (fun ls hl => ?_)
      have L109 : ∀ (n_109 : Nat) (v3_109 : Int32) (v4_109 : Int32) (o109 : Int32) (H : Heap) (locs : List Loc) (ls : Array Slot), (fX2_freeRegister_L109 p0n p0w p0l p1 n_109) v3_109 v4_109 = some o109 → va_P (dC, dI) cls (oX2 (p0a 0) p0a p0k p0n p0w p0l) H → va_D A (oX2 (p0a 0) p0a p0k p0n p0w p0l) → va_S A s.heap H locs → lv_has ls 7 [(0, .ref (p0a 0)), (1, .int p1), (2, .int p2), (3, .int v3_109), (4, .int v4_109)] → (∀ (H : Heap) (locs : List Loc) (ls : Array Slot), va_P (dC, dI) cls (oX2 (p0a 0) p0a p0k p0n p0w p0l) H → va_D A (oX2 (p0a 0) p0a p0k p0n p0w p0l) → va_S A s.heap H locs → lv_has ls 7 [(2, .int p2), (3, .int o109)] → W p l e ({ frames := 2, cells := 0, slots := 0, locals := 45 } : Room) s m ([.ref (p0a 0), .int p1, .int p2] : List Value).toArray below meth c H locs 0 0 Q (F0 m 147 ls [])) → W p l e ({ frames := 2, cells := 0, slots := 0, locals := 45 } : Room) s m ([.ref (p0a 0), .int p1, .int p2] : List Value).toArray below meth c H locs 0 0 Q (F0 m 109 ls []) := by
        intro n_109
        induction n_109 with
        | zero => intro v3_109 v4_109 o109 H locs ls hrun; exact (no9 rfl hrun).elim
        | succ n_109 IH109 =>
          intro v3_109 v4_109 o109 H locs ls hrun hP hD hS hl hk109
          unfold fX2_freeRegister_L109 at hrun
          refine lv_iload hx hb dX2_freeRegister_109 (lv_at hl 4 rfl) ?_
          refine lv_aload_n hx hb dX2_freeRegister_111 rfl (lv_at hl 0 rfl) ?_
          refine va_get (D := (dC, dI)) (ci := 9) (v := .int (p0w 0 1)) (C := RX2) (T := TX2) (N := 19) hx hb hts i_X2 hown hK hP 0 rfl rfl 1 (by decide) (hts _ qw606) (fun _ h9 => h9) rfl dX2_freeRegister_112 ?_
          rcases br9 hrun with ⟨hc12, hrun⟩ | ⟨hc12, hrun⟩
          · refine lv_icmp_ge (tgt := 147) hx hb dX2_freeRegister_115 (by decide) (fun _ => ?_) (fun c => absurd hc12 c)
            obtain rfl := (Option.some.inj hrun)
            exact hk109 _ _ _ hP hD hS (lv_sub hl [2, 3] rfl)
          · refine lv_icmp_ge (tgt := 147) hx hb dX2_freeRegister_115 (by decide) (fun c => absurd c hc12) (fun _ => ?_)
            refine lv_aload_n hx hb dX2_freeRegister_118 rfl (lv_at hl 0 rfl) ?_
            refine lv_aload_n hx hb dX2_freeRegister_119 rfl (lv_at hl 0 rfl) ?_
            refine va_get (D := (dC, dI)) (ci := 9) (v := .ref (p0a 11)) (C := RX2) (T := TX2) (N := 19) hx hb hts i_X2 hown hK hP 0 rfl rfl 10 (by decide) (hts _ qw589) (fun _ h9 => h9) rfl dX2_freeRegister_120 ?_
            refine lv_iload hx hb dX2_freeRegister_123 (lv_at hl 4 rfl) ?_
            refine lv_iload_n hx hb dX2_freeRegister_125 rfl (lv_at hl 1 rfl) ?_
            obtain ⟨o_13, hc_13, hrun⟩ := bnd9 hrun
            have hPc := hP.sub (ws' := ((oX2 (p0a 0) p0a p0k p0n p0w p0l) ++ [((p0a 11), .inl ((p0k 11), (p0n 11), .inr (.inl (p0l 11))))])) [0, 1, 2, 3, 4, 5, 6, 7, 8, 9, 10, 11, 12, 13, 14, 15, 7] rfl
            have hDc := hD.sub (ws' := ((oX2 (p0a 0) p0a p0k p0n p0w p0l) ++ [((p0a 11), .inl ((p0k 11), (p0n 11), .inr (.inl (p0l 11))))])) [0, 1, 2, 3, 4, 5, 6, 7, 8, 9, 10, 11, 12, 13, 14, 15, 7] (by decide) rfl
            have hKc := hK.sub (tys' := ((tX2 p0k) ++ [((p0k 11), .long)])) [0, 1, 2, 3, 4, 5, 6, 7, 8, 9, 10, 11, 12, 13, 14, 6] rfl
            have hFc := va_free (wc := ((oX2 (p0a 0) p0a p0k p0n p0w p0l) ++ [((p0a 11), .inl ((p0k 11), (p0n 11), .inr (.inl (p0l 11))))])) hD hS hA [0, 1, 2, 3, 4, 5, 6, 7, 8, 9, 10, 11, 12, 13, 14, 15, 7] rfl
            refine va_calli (va_runV (As := [.ref (p0a 11), .int v4_109, .int p1]) (rest := []) ⟨hx, hb, hml, hown, hts⟩ (kX2_isIn l dC dI (p0a := (st0 (p0a 0) p0a)) (p0k := p0k) (p0n := p0n) (p0w := p0w) (p0l := p0l) (p1a := (p0a 11)) (p1k := (p0k 11)) (p1n := (p0n 11)) (p1f := (p0l 11)) (p2 := v4_109) (p3 := p1) (sz := _) (o := o_13) (hrun := hc_13)) (cwV 3 hts (gi_V qw592 qw593 qw594 qw595 (gi_z qw591)) rfl rfl rfl (by decide +kernel) ⟨Nat.le_of_ble_eq_true rfl, Nat.le_of_ble_eq_true rfl⟩) ⟨PRE.blind, va_recv hKc hPc (ci := 9) (q0 := 0) rfl rfl, PRE.of hE hS hFc hPc hKc hDc⟩ rfl rfl hl.1 rfl (lv_room (Nat.le_of_ble_eq_true rfl)) dX2_freeRegister_126 ⟨Nat.le_of_ble_eq_true rfl, Nat.le_of_ble_eq_true rfl⟩) hS (fun q _ h => hFc q h) hFc (fun r14 u t H locs ht hvm hw hB hz1 hk1 hS => ?_)
            obtain ⟨hP, hD, hK⟩ := JOIN (wr := ([] : va_W)) hP hD hK [0, 1, 2, 3, 4, 5, 6, 7, 8, 9, 10, 11, 12, 13, 14, 15, 7] [] [] rfl rfl (by decide) (by decide) rfl hk1 hFc ht hvm hB
            have hP : va_P (dC, dI) cls (oX2 (p0a 0) p0a p0k p0n p0w p0l) H := hP.sub [0, 1, 2, 3, 4, 5, 6, 7, 8, 9, 10, 11, 12, 13, 14, 15] rfl
            have hD : va_D A (oX2 (p0a 0) p0a p0k p0n p0w p0l) := hD.sub [0, 1, 2, 3, 4, 5, 6, 7, 8, 9, 10, 11, 12, 13, 14, 15] (by decide) rfl
            have hK : va_K (dC, dI) cls (tX2 p0k) s := hK.sub [0, 1, 2, 3, 4, 5, 6, 7, 8, 9, 10, 11, 12, 13, 14] rfl
            obtain rfl : o_13 = r14 := hw.symm
            have J141 : ∀ (v3_141 : Int32) (H : Heap) (locs : List Loc) (ls : Array Slot), (fX2_freeRegister_J141 (fX2_freeRegister_L109 p0n p0w p0l p1 n_109) v4_109 v3_141) = some o109 → va_P (dC, dI) cls (oX2 (p0a 0) p0a p0k p0n p0w p0l) H → va_D A (oX2 (p0a 0) p0a p0k p0n p0w p0l) → va_S A s.heap H locs → lv_has ls 7 [(0, .ref (p0a 0)), (1, .int p1), (2, .int p2), (3, .int v3_141), (4, .int v4_109)] → W p l e ({ frames := 2, cells := 0, slots := 0, locals := 45 } : Room) s m ([.ref (p0a 0), .int p1, .int p2] : List Value).toArray below meth c H locs 0 0 Q (F0 m 141 ls []) := by
              intro v3_141 H locs ls hrun hP hD hS hl
              unfold fX2_freeRegister_J141 at hrun
              refine lv_iinc (v := (v4_109 + 1)) (lv' := [(4, .int (v4_109 + 1)), (0, .ref (p0a 0)), (1, .int p1), (2, .int p2), (3, .int v3_141)]) hx hb dX2_freeRegister_141 hl (k := 4) rfl rfl (by decide) rfl (fun ls hl => ?_)
              refine lv_goto (tgt := 109) hx hb dX2_freeRegister_144 (by decide) ?_
              exact IH109 v3_141 (v4_109 + 1) o109 _ _ _ hrun hP hD hS (lv_sub hl [1, 2, 3, 4, 0] rfl) hk109
            rcases br9 hrun with ⟨hc15, hrun⟩ | ⟨hc15, hrun⟩
            · refine lv_if_eq (tgt := 141) hx hb dX2_freeRegister_129 (by decide) (fun _ => ?_) (fun c => absurd hc15 c)
              exact J141 v3_109 _ _ _ hrun hP hD hS (lv_sub hl [0, 1, 2, 3, 4] rfl)
            · refine lv_if_eq (tgt := 141) hx hb dX2_freeRegister_129 (by decide) (fun c => absurd c hc15) (fun _ => ?_)
              refine lv_iload_n hx hb dX2_freeRegister_132 rfl (lv_at hl 3 rfl) ?_
              refine lv_aload_n hx hb dX2_freeRegister_133 rfl (lv_at hl 0 rfl) ?_
              refine lv_iload hx hb dX2_freeRegister_134 (lv_at hl 4 rfl) ?_
              obtain ⟨o_16, hc_16, hrun⟩ := bnd9 hrun
              have hPc := hP.sub (ws' := (oX2 (p0a 0) p0a p0k p0n p0w p0l)) [0, 1, 2, 3, 4, 5, 6, 7, 8, 9, 10, 11, 12, 13, 14, 15] rfl
              have hDc := hD.sub (ws' := (oX2 (p0a 0) p0a p0k p0n p0w p0l)) [0, 1, 2, 3, 4, 5, 6, 7, 8, 9, 10, 11, 12, 13, 14, 15] (by decide) rfl
              have hKc := hK.sub (tys' := (tX2 p0k)) [0, 1, 2, 3, 4, 5, 6, 7, 8, 9, 10, 11, 12, 13, 14] rfl
              have hFc := va_free (wc := (oX2 (p0a 0) p0a p0k p0n p0w p0l)) hD hS hA [0, 1, 2, 3, 4, 5, 6, 7, 8, 9, 10, 11, 12, 13, 14, 15] rfl
              refine va_calli (va_runV (As := [.int v4_109]) (rest := [.int v3_109]) ⟨hx, hb, hml, hown, hts⟩ (kX2_registerBit l dC dI (p0a := (st0 (p0a 0) p0a)) (p0k := p0k) (p0n := p0n) (p0w := p0w) (p0l := p0l) (p1 := v4_109) (sz := _) (o := o_16) (hrun := hc_16)) (cwV 1 hts (gi_V qw677 qw678 qw679 qw595 (gi_z qw676)) rfl rfl rfl (by decide +kernel) ⟨Nat.le_of_ble_eq_true rfl, Nat.le_of_ble_eq_true rfl⟩) ⟨PRE.blind, va_recv hKc hPc (ci := 9) (q0 := 0) rfl rfl, PRE.of hE hS hFc hPc hKc hDc⟩ rfl rfl hl.1 rfl (lv_room (Nat.le_of_ble_eq_true rfl)) dX2_freeRegister_136 ⟨Nat.le_of_ble_eq_true rfl, Nat.le_of_ble_eq_true rfl⟩) hS (fun q _ h => hFc q h) hFc (fun r17 u t H locs ht hvm hw hB hz1 hk1 hS => ?_)
              obtain ⟨hP, hD, hK⟩ := JOIN (wr := ([] : va_W)) hP hD hK [0, 1, 2, 3, 4, 5, 6, 7, 8, 9, 10, 11, 12, 13, 14, 15] [] [] rfl rfl (by decide) (by decide) rfl hk1 hFc ht hvm hB
              have hP : va_P (dC, dI) cls (oX2 (p0a 0) p0a p0k p0n p0w p0l) H := hP.sub [0, 1, 2, 3, 4, 5, 6, 7, 8, 9, 10, 11, 12, 13, 14, 15] rfl
              have hD : va_D A (oX2 (p0a 0) p0a p0k p0n p0w p0l) := hD.sub [0, 1, 2, 3, 4, 5, 6, 7, 8, 9, 10, 11, 12, 13, 14, 15] (by decide) rfl
              have hK : va_K (dC, dI) cls (tX2 p0k) s := hK.sub [0, 1, 2, 3, 4, 5, 6, 7, 8, 9, 10, 11, 12, 13, 14] rfl
              obtain rfl : o_16 = r17 := hw.symm
              refine lv_ior hx hb dX2_freeRegister_139 ?_
              refine lv_istore_n (lv' := [(3, .int (v3_109 ||| o_16)), (0, .ref (p0a 0)), (1, .int p1), (2, .int p2), (4, .int v4_109)]) hx hb dX2_freeRegister_140 rfl hl (by decide) rfl (fun ls hl => ?_)
              exact J141 (v3_109 ||| o_16) _ _ _ hrun hP hD hS (lv_sub hl [1, 2, 3, 0, 4] rfl)
      obtain ⟨o109, hc109, hrun⟩ := bnd9 hrun
      refine L109 NF v3_95 (p0w 0 0) o109 _ _ _ hc109 hP hD hS (lv_sub hl [1, 2, 3, 4, 0] rfl) ?_
      intro H locs ls hP hD hS hl
      have hl := hl
      exact J147 o109 _ _ _ hrun hP hD hS (lv_sub hl [0, 1] rfl)
  rcases br9 hrun with ⟨hc18, hrun⟩ | ⟨hc18, hrun⟩
  · refine lv_if_lt (tgt := 95) hx hb dX2_freeRegister_79 (by decide) (fun _ => ?_) (fun c => absurd hc18 c)
    exact J95 o5 _ _ _ hrun hP hD hS (lv_sub hl [0, 1, 2, 3] rfl)
  · refine lv_if_lt (tgt := 95) hx hb dX2_freeRegister_79 (by decide) (fun c => absurd c hc18) (fun _ => ?_)
    refine lv_iload_n hx hb dX2_freeRegister_82 rfl (lv_at hl 3 rfl) ?_
    refine lv_aload_n hx hb dX2_freeRegister_83 rfl (lv_at hl 0 rfl) ?_
    refine lv_aload_n hx hb dX2_freeRegister_84 rfl (lv_at hl 0 rfl) ?_
    refine va_get (D := (dC, dI)) (ci := 9) (v := .ref (p0a 12)) (C := RX2) (T := TX2) (N := 19) hx hb hts i_X2 hown hK hP 0 rfl rfl 11 (by decide) (hts _ qw671) (fun _ h9 => h9) rfl dX2_freeRegister_85 ?_
    refine lv_iload_n hx hb dX2_freeRegister_88 rfl (lv_at hl 1 rfl) ?_
    obtain ⟨hq19, hrun⟩ := chk9 hrun
    refine va_iald hx hb hK hP 8 7 rfl rfl (ixb_in hq19) dX2_freeRegister_89 ?_
    obtain ⟨o_20, hc_20, hrun⟩ := bnd9 hrun
    have hPc := hP.sub (ws' := (oX2 (p0a 0) p0a p0k p0n p0w p0l)) [0, 1, 2, 3, 4, 5, 6, 7, 8, 9, 10, 11, 12, 13, 14, 15] rfl
    have hDc := hD.sub (ws' := (oX2 (p0a 0) p0a p0k p0n p0w p0l)) [0, 1, 2, 3, 4, 5, 6, 7, 8, 9, 10, 11, 12, 13, 14, 15] (by decide) rfl
    have hKc := hK.sub (tys' := (tX2 p0k)) [0, 1, 2, 3, 4, 5, 6, 7, 8, 9, 10, 11, 12, 13, 14] rfl
    have hFc := va_free (wc := (oX2 (p0a 0) p0a p0k p0n p0w p0l)) hD hS hA [0, 1, 2, 3, 4, 5, 6, 7, 8, 9, 10, 11, 12, 13, 14, 15] rfl
    refine va_calli (va_runV (As := [.int (p0w 12 (nn p1))]) (rest := [.int o5]) ⟨hx, hb, hml, hown, hts⟩ (kX2_registerBit l dC dI (p0a := (st0 (p0a 0) p0a)) (p0k := p0k) (p0n := p0n) (p0w := p0w) (p0l := p0l) (p1 := (p0w 12 (nn p1))) (sz := _) (o := o_20) (hrun := hc_20)) (cwV 1 hts (gi_V qw677 qw678 qw679 qw595 (gi_z qw676)) rfl rfl rfl (by decide +kernel) ⟨Nat.le_of_ble_eq_true rfl, Nat.le_of_ble_eq_true rfl⟩) ⟨PRE.blind, va_recv hKc hPc (ci := 9) (q0 := 0) rfl rfl, PRE.of hE hS hFc hPc hKc hDc⟩ rfl rfl hl.1 rfl (lv_room (Nat.le_of_ble_eq_true rfl)) dX2_freeRegister_90 ⟨Nat.le_of_ble_eq_true rfl, Nat.le_of_ble_eq_true rfl⟩) hS (fun q _ h => hFc q h) hFc (fun r21 u t H locs ht hvm hw hB hz1 hk1 hS => ?_)
    obtain ⟨hP, hD, hK⟩ := JOIN (wr := ([] : va_W)) hP hD hK [0, 1, 2, 3, 4, 5, 6, 7, 8, 9, 10, 11, 12, 13, 14, 15] [] [] rfl rfl (by decide) (by decide) rfl hk1 hFc ht hvm hB
    have hP : va_P (dC, dI) cls (oX2 (p0a 0) p0a p0k p0n p0w p0l) H := hP.sub [0, 1, 2, 3, 4, 5, 6, 7, 8, 9, 10, 11, 12, 13, 14, 15] rfl
    have hD : va_D A (oX2 (p0a 0) p0a p0k p0n p0w p0l) := hD.sub [0, 1, 2, 3, 4, 5, 6, 7, 8, 9, 10, 11, 12, 13, 14, 15] (by decide) rfl
    have hK : va_K (dC, dI) cls (tX2 p0k) s := hK.sub [0, 1, 2, 3, 4, 5, 6, 7, 8, 9, 10, 11, 12, 13, 14] rfl
    obtain rfl : o_20 = r21 := hw.symm
    refine lv_ior hx hb dX2_freeRegister_93 ?_
    refine lv_istore_n (lv' := [(3, .int (o5 ||| o_20)), (0, .ref (p0a 0)), (1, .int p1), (2, .int p2)]) hx hb dX2_freeRegister_94 rfl hl (by decide) rfl (fun ls hl => ?_)
    exact J95 (o5 ||| o_20) _ _ _ hrun hP hD hS (lv_sub hl [1, 2, 3, 0] rfl)
def fX2_colour_J71 (kk10 : Int32 → Int32 → ST → Option (Int32 × ST)) (v4_10 : Int32) (w7 : ST) (y0_71 : Int32) (y1_71 : Int32) : Option (Int32 × ST) := (kk10 (y1_71 + y0_71) (v4_10 + 1) w7)
def fX2_colour_J46 (kk10 : Int32 → Int32 → ST → Option (Int32 × ST)) (p0n : Nat → Nat) (v3_10 : Int32) (v4_10 : Int32) (p0w_10 : ST) (y0_46 : Int32) (y1_46 : Int32) : Option (Int32 × ST) := (if ixb y1_46 (p0n 18) = true then (lt9 (upw p0w_10 18 (nn y1_46) y0_46) fun (w5 : ST) => (if ixb v4_10 (p0n 17) = true then (lt9 (upw w5 17 (nn v4_10) (-1)) fun (w7 : ST) => (if ixb v4_10 (p0n 15) = true then (if (w7 15 (nn v4_10)) ≤ 0 then (fX2_colour_J71 kk10 v4_10 w7 0 v3_10) else (fX2_colour_J71 kk10 v4_10 w7 1 v3_10)) else none)) else none)) else none)
def fX2_colour_L10 (p0n : Nat → Nat) : Nat → Int32 → Int32 → ST → Option (Int32 × ST)
  | 0 => fun _ _ _ => none
  | n_10 + 1 => fun v3_10 v4_10 p0w_10 => (if (p0w_10 0 1) ≤ v4_10 then some (v3_10, p0w_10) else (if ixb v4_10 (p0n 15) = true then (if (p0w_10 15 (nn v4_10)) ≤ 0 then (fX2_colour_J46 (fX2_colour_L10 p0n n_10) p0n v3_10 v4_10 p0w_10 (-1) v4_10) else (if ixb v4_10 (p0n 13) = true then (fX2_colour_J46 (fX2_colour_L10 p0n n_10) p0n v3_10 v4_10 p0w_10 (p0w_10 13 (nn v4_10)) v4_10) else none)) else none))
def fX2_colour_L82 (p0n : Nat → Nat) (p2 : Int32) (o_1 : ST × SL) (o10 : Int32 × ST) : Nat → Int32 → ST → Option ST
  | 0 => fun _ _ => none
  | n_82 + 1 => fun v4_82 p0w_82 => (if (o10.1) ≤ v4_82 then some p0w_82 else ((fX2_nextToTake p0n p0w_82 (o_1.2) p2).bind fun (o_13 : Int32) => (if ixb v4_82 (p0n 19) = true then (lt9 (upw p0w_82 19 (nn v4_82) o_13) fun (w16 : ST) => (if ixb v4_82 (p0n 19) = true then ((fX2_takeAway p0n w16 (o_1.2) (w16 19 (nn v4_82))).bind fun (o_18 : ST) => ((fX2_colour_L82 p0n p2 o_1 o10 n_82) (v4_82 + 1) o_18)) else none)) else none)))
def fX2_colour_J179 (kk125 : Int32 → Int32 → ST → Option (Int32 × ST)) (v5_125 : Int32) (w25 : ST) (y0_179 : Int32) : Option (Int32 × ST) := (kk125 y0_179 (v5_125 + (-1)) w25)
def fX2_colour_J178 (kk125 : Int32 → Int32 → ST → Option (Int32 × ST)) (v5_125 : Int32) (w25 : ST) : Option (Int32 × ST) := (fX2_colour_J179 kk125 v5_125 w25 0)
def fX2_colour_L125 (p0n : Nat → Nat) (p2 : Int32) (o_1 : ST × SL) : Nat → Int32 → Int32 → ST → Option (Int32 × ST)
  | 0 => fun _ _ _ => none
  | n_125 + 1 => fun v4_125 v5_125 p0w_125 => (if v5_125 < 0 then some (v4_125, p0w_125) else (if ixb v5_125 (p0n 19) = true then (if ixb v5_125 (p0n 19) = true then ((fX2_freeRegister p0n p0w_125 (o_1.2) (p0w_125 19 (nn v5_125)) p2).bind fun (o_22 : Int32) => (if ixb (p0w_125 19 (nn v5_125)) (p0n 17) = true then (lt9 (upw p0w_125 17 (nn (p0w_125 19 (nn v5_125))) o_22) fun (w25 : ST) => (if v4_125 = 0 then (fX2_colour_J178 (fX2_colour_L125 p0n p2 o_1 n_125) v5_125 w25) else (if ixb v5_125 (p0n 19) = true then (if ixb (w25 19 (nn v5_125)) (p0n 17) = true then (if (w25 17 (nn (w25 19 (nn v5_125)))) < 0 then (fX2_colour_J178 (fX2_colour_L125 p0n p2 o_1 n_125) v5_125 w25) else (fX2_colour_J179 (fX2_colour_L125 p0n p2 o_1 n_125) v5_125 w25 1)) else none) else none))) else none)) else none) else none))
def fX2_colour (p0n : Nat → Nat) (p0w : ST) (p0l : SL) (p1w : ST) (p2 : Int32) (p1_2n : Nat → Nat) (p1_2w : ST) : Option (Int32 × ST × SL) := ((fX2_weigh p0n p0w p0l p1w p1_2n p1_2w).bind fun (o_1 : ST × SL) => ((fX2_colour_L10 p0n NF 0 0 (o_1.1)).bind fun (o10 : Int32 × ST) => ((fX2_colour_L82 p0n p2 o_1 o10 NF 0 (o10.2)).bind fun (o82 : ST) => ((fX2_colour_L125 p0n p2 o_1 NF 1 ((o10.1) - 1) o82).bind fun (o125 : Int32 × ST) => (if (o125.1) = 0 ∨ (o125.1) = 1 then some ((o125.1), (o125.2), (o_1.2)) else none)))))
set_option maxHeartbeats 16000000 in
set_option maxRecDepth 100000 in
theorem kX2_colour {zs : Nat × Nat} (l : Launch) (dC : Nat → ClassId) (dI : Nat → Nat → Nat) (p0a : Nat → Nat) (p0k : Nat → ClassId) (p0n : Nat → Nat) (p0w : ST) (p0l : SL) (p1a : Nat → Nat) (p1k : Nat → ClassId) (p1n : Nat → Nat) (p1w : ST) (p1l : SL) (p2 : Int32) (p1_2a : Nat → Nat) (p1_2k : Nat → ClassId) (p1_2n : Nat → Nat) (p1_2w : ST) (sz : Nat) (o : Int32 × ST × SL) (hrun : fX2_colour p0n p0w p0l p1w p2 p1_2n p1_2w = some o) : Met l yX2_colour (wz yX2_colour cX2_colour 6 (Option.some Jvm.ClassFile.FieldType.boolean)) ({ frames := 3, cells := 0, slots := 0, locals := 74 } : Room) (va_Pc [.ref (p0a 0), .ref (p1a 0), .int p2] (PRE zs dC dI ((oX2 (p0a 0) p0a p0k p0n p0w p0l) ++ (oX1 (p1a 0) p1a p1k p1n p1w p1l) ++ (oX9 (p1a 3) p1_2a p1_2k p1_2n p1_2w)) ((tX2 p0k) ++ (tX1 p1k) ++ (tX9 p1_2k)) sz)) (va_Qi (fun (r : Int32) (_ : Unit) => r = (o.1)) (fun _ t => POST dC dI ((oX2 (p0a 0) p0a p0k p0n (o.2.1) (o.2.2)) ++ (oX1 (p1a 0) p1a p1k p1n p1w p1l) ++ (oX9 (p1a 3) p1_2a p1_2k p1_2n p1_2w)) ((tX2 p0k) ++ (tX1 p1k) ++ (tX9 p1_2k)) (va_A ((oX2 (p0a 0) p0a p0k p0n p0w p0l) ++ (oX1 (p1a 0) p1a p1k p1n p1w p1l) ++ (oX9 (p1a 3) p1_2a p1_2k p1_2n p1_2w)) sz) t) (va_A ((oX2 (p0a 0) p0a p0k p0n p0w p0l) ++ (oX1 (p1a 0) p1a p1k p1n p1w p1l) ++ (oX9 (p1a 3) p1_2a p1_2k p1_2n p1_2w)) sz)) 0 0 (va_A ((oX2 (p0a 0) p0a p0k p0n p0w p0l) ++ (oX1 (p1a 0) p1a p1k p1n p1w p1l) ++ (oX9 (p1a 3) p1_2a p1_2k p1_2n p1_2w)) sz) := by
  refine Met.ofW (cc := cX2_colour) (maxL := 6) (ret := (Option.some Jvm.ClassFile.FieldType.boolean)) (by decide) rfl ?_
  intro p e s m args below meth c s₁ B hml hv
  obtain ⟨rfl, hsz, hP, hK, hD0, hE⟩ := hv
  have hx := B.exec
  have hb := B.bytes
  have hr := B.returns
  have hts0 := atoms_spec (ws := wz yX2_colour cX2_colour 6 (Option.some Jvm.ClassFile.FieldType.boolean)) B.pre
  have hts : ∀ w ∈ gw, w.before _ s = true := fun w h => hts0 w (List.mem_cons_of_mem _ h)
  have hown : s.vm.findClass RX2 = some m.cls := findClass_of_methodNamed B.named
  have hlocks := B.notSynchronized
  subst hsz
  have hD := hD0.self (sz := s.heap.size)
  refine gQ9 ?_
  intro Q hQ
  generalize hAe : va_A ((oX2 (p0a 0) p0a p0k p0n p0w p0l) ++ (oX1 (p1a 0) p1a p1k p1n p1w p1l) ++ (oX9 (p1a 3) p1_2a p1_2k p1_2n p1_2w)) s.heap.size = A at hD hE hQ
  have hA : ∀ q : Nat, s.heap.size ≤ q → A q := fun q h => by rw [← hAe]; exact Or.inr h
  have hS : va_S A s.heap s.heap [] := va_S.rf
  have hP : va_P (dC, dI) cls ((oX2 (p0a 0) p0a p0k p0n p0w p0l) ++ (oX1 (p1a 0) p1a p1k p1n p1w p1l) ++ (oX9 (p1a 3) p1_2a p1_2k p1_2n p1_2w)) s.heap := hP
  have hl := lv_entry ([.ref (p0a 0), .ref (p1a 0), .int p2]) (n := 6) (Nat.le_of_ble_eq_true rfl)
  rw [lg_entry_eq]
  generalize (lg_sl ([.ref (p0a 0), .ref (p1a 0), .int p2]) ++ List.replicate (6 - (lg_sl ([.ref (p0a 0), .ref (p1a 0), .int p2])).length) Slot.unset).toArray = ls at hl ⊢
  have hl : lv_has ls 6 [(0, .ref (p0a 0)), (1, .ref (p1a 0)), (2, .int p2)] := hl
  obtain ⟨H, hHe⟩ : ∃ H, H = s.heap := ⟨_, rfl⟩
  obtain ⟨locs, hle⟩ : ∃ locs : List Loc, locs = [] := ⟨_, rfl⟩
  rw [← hHe] at hP
  have hS : va_S A s.heap H locs := by rw [hHe, hle]; exact hS
  show W p l e ({ frames := 3, cells := 0, slots := 0, locals := 74 } : Room) s m ([.ref (p0a 0), .ref (p1a 0), .int p2] : List Value).toArray below meth c s.heap [] 0 0 Q (F0 m 0 ls [])
  rw [← hle]
  refine wH9 hHe ?_
  unfold fX2_colour at hrun
  refine lv_aload_n hx hb dX2_colour_0 rfl (lv_at hl 0 rfl) ?_
  refine lv_aload_n hx hb dX2_colour_1 rfl (lv_at hl 1 rfl) ?_
  obtain ⟨o_1, hc_1, hrun⟩ := bnd9 hrun
  have hPc := hP.sub (ws' := ((oX2 (p0a 0) p0a p0k p0n p0w p0l) ++ (oX1 (p1a 0) p1a p1k p1n p1w p1l) ++ (oX9 (p1a 3) p1_2a p1_2k p1_2n p1_2w))) [0, 1, 2, 3, 4, 5, 6, 7, 8, 9, 10, 11, 12, 13, 14, 15, 16, 17, 18, 19, 20, 21, 22, 23, 24, 25, 26, 27, 28, 29, 30, 31, 32, 33, 34, 35, 36, 37, 38, 39] rfl
  have hDc := hD.sub (ws' := ((oX2 (p0a 0) p0a p0k p0n p0w p0l) ++ (oX1 (p1a 0) p1a p1k p1n p1w p1l) ++ (oX9 (p1a 3) p1_2a p1_2k p1_2n p1_2w))) [0, 1, 2, 3, 4, 5, 6, 7, 8, 9, 10, 11, 12, 13, 14, 15, 16, 17, 18, 19, 20, 21, 22, 23, 24, 25, 26, 27, 28, 29, 30, 31, 32, 33, 34, 35, 36, 37, 38, 39] (by decide) rfl
  have hKc := hK.sub (tys' := ((tX2 p0k) ++ (tX1 p1k) ++ (tX9 p1_2k))) [0, 1, 2, 3, 4, 5, 6, 7, 8, 9, 10, 11, 12, 13, 14, 15, 16, 17, 18, 19, 20, 21, 22, 23, 24, 25, 26, 27, 28, 29, 30, 31, 32, 33, 34, 35, 36] rfl
  have hFc := va_free (wc := ((oX2 (p0a 0) p0a p0k p0n p0w p0l) ++ (oX1 (p1a 0) p1a p1k p1n p1w p1l) ++ (oX9 (p1a 3) p1_2a p1_2k p1_2n p1_2w))) hD hS hA [0, 1, 2, 3, 4, 5, 6, 7, 8, 9, 10, 11, 12, 13, 14, 15, 16, 17, 18, 19, 20, 21, 22, 23, 24, 25, 26, 27, 28, 29, 30, 31, 32, 33, 34, 35, 36, 37, 38, 39] rfl
  refine va_callv (va_runV (As := [.ref (p1a 0)]) (rest := []) ⟨hx, hb, hml, hown, hts⟩ (kX2_weigh l dC dI (p0a := (st0 (p0a 0) p0a)) (p0k := p0k) (p0n := p0n) (p0w := p0w) (p0l := p0l) (p1a := (st0 (p1a 0) p1a)) (p1k := p1k) (p1n := p1n) (p1w := p1w) (p1l := p1l) (p1_2a := p1_2a) (p1_2k := p1_2k) (p1_2n := p1_2n) (p1_2w := p1_2w) (sz := _) (o := o_1) (hrun := hc_1)) (cwV 1 hts (gi_V qw657 qw658 qw659 qw595 (gi_z qw656)) rfl rfl rfl (by decide +kernel) ⟨Nat.le_of_ble_eq_true rfl, Nat.le_of_ble_eq_true rfl⟩) ⟨PRE.blind, va_recv hKc hPc (ci := 9) (q0 := 0) rfl rfl, PRE.of hE hS hFc hPc hKc hDc⟩ rfl rfl hl.1 rfl (lv_room (Nat.le_of_ble_eq_true rfl)) dX2_colour_2 ⟨Nat.le_of_ble_eq_true rfl, Nat.le_of_ble_eq_true rfl⟩) hS (fun q _ h => hFc q h) hFc (fun u t H locs ht hvm hw hB hz1 hk1 hS => ?_)
  obtain ⟨hP, hD, hK⟩ := JOIN (wr := ([] : va_W)) hP hD hK [0, 1, 2, 3, 4, 5, 6, 7, 8, 9, 10, 11, 12, 13, 14, 15, 16, 17, 18, 19, 20, 21, 22, 23, 24, 25, 26, 27, 28, 29, 30, 31, 32, 33, 34, 35, 36, 37, 38, 39] [] [] rfl rfl (by decide) (by decide) rfl hk1 hFc ht hvm hB
  have hP : va_P (dC, dI) cls ((oX2 (p0a 0) p0a p0k p0n (o_1.1) (o_1.2)) ++ (oX1 (p1a 0) p1a p1k p1n p1w p1l) ++ (oX9 (p1a 3) p1_2a p1_2k p1_2n p1_2w)) H := hP.sub [0, 1, 2, 3, 4, 5, 6, 7, 8, 9, 10, 11, 12, 13, 14, 15, 16, 17, 18, 19, 20, 21, 22, 23, 24, 25, 26, 27, 28, 29, 30, 31, 32, 33, 34, 35, 36, 37, 38, 39] rfl
  have hD : va_D A ((oX2 (p0a 0) p0a p0k p0n (o_1.1) (o_1.2)) ++ (oX1 (p1a 0) p1a p1k p1n p1w p1l) ++ (oX9 (p1a 3) p1_2a p1_2k p1_2n p1_2w)) := hD.sub [0, 1, 2, 3, 4, 5, 6, 7, 8, 9, 10, 11, 12, 13, 14, 15, 16, 17, 18, 19, 20, 21, 22, 23, 24, 25, 26, 27, 28, 29, 30, 31, 32, 33, 34, 35, 36, 37, 38, 39] (by decide) rfl
  have hK : va_K (dC, dI) cls ((tX2 p0k) ++ (tX1 p1k) ++ (tX9 p1_2k)) s := hK.sub [0, 1, 2, 3, 4, 5, 6, 7, 8, 9, 10, 11, 12, 13, 14, 15, 16, 17, 18, 19, 20, 21, 22, 23, 24, 25, 26, 27, 28, 29, 30, 31, 32, 33, 34, 35, 36] rfl
  refine lv_iconst (v := 0) hx hb dX2_colour_5 (by decide) ?_
  refine lv_istore_n (lv' := [(3, .int 0), (0, .ref (p0a 0)), (1, .ref (p1a 0)), (2, .int p2)]) hx hb dX2_colour_6 rfl hl (by decide) rfl (fun ls hl => ?_)
  refine lv_iconst (v := 0) hx hb dX2_colour_7 (by decide) ?_
  refine lv_istore (lv' := [(4, .int 0), (3, .int 0), (0, .ref (p0a 0)), (1, .ref (p1a 0)), (2, .int p2)]) hx hb dX2_colour_8 hl (by decide) rfl (fun ls hl => ?_)
  have L10 : ∀ (n_10 : Nat) (v3_10 : Int32) (v4_10 : Int32) (p0w_10 : ST) (o10 : Int32 × ST) (H : Heap) (locs : List Loc) (ls : Array Slot), (fX2_colour_L10 p0n n_10) v3_10 v4_10 p0w_10 = some o10 → va_P (dC, dI) cls ((oX2 (p0a 0) p0a p0k p0n p0w_10 (o_1.2)) ++ (oX1 (p1a 0) p1a p1k p1n p1w p1l) ++ (oX9 (p1a 3) p1_2a p1_2k p1_2n p1_2w)) H → va_D A ((oX2 (p0a 0) p0a p0k p0n p0w_10 (o_1.2)) ++ (oX1 (p1a 0) p1a p1k p1n p1w p1l) ++ (oX9 (p1a 3) p1_2a p1_2k p1_2n p1_2w)) → va_S A s.heap H locs → lv_has ls 6 [(0, .ref (p0a 0)), (2, .int p2), (3, .int v3_10), (4, .int v4_10)] → (∀ (H : Heap) (locs : List Loc) (ls : Array Slot), va_P (dC, dI) cls ((oX2 (p0a 0) p0a p0k p0n (o10.2) (o_1.2)) ++ (oX1 (p1a 0) p1a p1k p1n p1w p1l) ++ (oX9 (p1a 3) p1_2a p1_2k p1_2n p1_2w)) H → va_D A ((oX2 (p0a 0) p0a p0k p0n (o10.2) (o_1.2)) ++ (oX1 (p1a 0) p1a p1k p1n p1w p1l) ++ (oX9 (p1a 3) p1_2a p1_2k p1_2n p1_2w)) → va_S A s.heap H locs → lv_has ls 6 [(0, .ref (p0a 0)), (2, .int p2), (3, .int (o10.1))] → W p l e ({ frames := 3, cells := 0, slots := 0, locals := 74 } : Room) s m ([.ref (p0a 0), .ref (p1a 0), .int p2] : List Value).toArray below meth c H locs 0 0 Q (F0 m 79 ls [])) → W p l e ({ frames := 3, cells := 0, slots := 0, locals := 74 } : Room) s m ([.ref (p0a 0), .ref (p1a 0), .int p2] : List Value).toArray below meth c H locs 0 0 Q (F0 m 10 ls []) := by
    intro n_10
    induction n_10 with
    | zero => intro v3_10 v4_10 p0w_10 o10 H locs ls hrun; exact (no9 rfl hrun).elim
    | succ n_10 IH10 =>
      intro v3_10 v4_10 p0w_10 o10 H locs ls hrun hP hD hS hl hk10
      unfold fX2_colour_L10 at hrun
      refine lv_iload hx hb dX2_colour_10 (lv_at hl 3 rfl) ?_
      refine lv_aload_n hx hb dX2_colour_12 rfl (lv_at hl 0 rfl) ?_
      refine va_get (D := (dC, dI)) (ci := 9) (v := .int (p0w_10 0 1)) (C := RX2) (T := TX2) (N := 19) hx hb hts i_X2 hown hK hP 0 rfl rfl 1 (by decide) (hts _ qw606) (fun _ h9 => h9) rfl dX2_colour_13 ?_
      rcases br9 hrun with ⟨hc2, hrun⟩ | ⟨hc2, hrun⟩
      · refine lv_icmp_ge (tgt := 79) hx hb dX2_colour_16 (by decide) (fun _ => ?_) (fun c => absurd hc2 c)
        obtain rfl := (Option.some.inj hrun)
        exact hk10 _ _ _ hP hD hS (lv_sub hl [0, 1, 2] rfl)
      · refine lv_icmp_ge (tgt := 79) hx hb dX2_colour_16 (by decide) (fun c => absurd c hc2) (fun _ => ?_)
        refine lv_aload_n hx hb dX2_colour_19 rfl (lv_at hl 0 rfl) ?_
        refine va_get (D := (dC, dI)) (ci := 9) (v := .ref (p0a 18)) (C := RX2) (T := TX2) (N := 19) hx hb hts i_X2 hown hK hP 0 rfl rfl 17 (by decide) (hts _ qw660) (fun _ h9 => h9) rfl dX2_colour_20 ?_
        refine lv_iload hx hb dX2_colour_23 (lv_at hl 3 rfl) ?_
        refine lv_aload_n hx hb dX2_colour_25 rfl (lv_at hl 0 rfl) ?_
        refine va_get (D := (dC, dI)) (ci := 9) (v := .ref (p0a 15)) (C := RX2) (T := TX2) (N := 19) hx hb hts i_X2 hown hK hP 0 rfl rfl 14 (by decide) (hts _ qw642) (fun _ h9 => h9) rfl dX2_colour_26 ?_
        refine lv_iload hx hb dX2_colour_29 (lv_at hl 3 rfl) ?_
        obtain ⟨hq3, hrun⟩ := chk9 hrun
        refine va_iald hx hb hK hP 11 10 rfl rfl (ixb_in hq3) dX2_colour_31 ?_
        have J46 : ∀ (y0_46 : Int32) (y1_46 : Int32) (H : Heap) (locs : List Loc) (ls : Array Slot), (fX2_colour_J46 (fX2_colour_L10 p0n n_10) p0n v3_10 v4_10 p0w_10 y0_46 y1_46) = some o10 → va_P (dC, dI) cls ((oX2 (p0a 0) p0a p0k p0n p0w_10 (o_1.2)) ++ (oX1 (p1a 0) p1a p1k p1n p1w p1l) ++ (oX9 (p1a 3) p1_2a p1_2k p1_2n p1_2w)) H → va_D A ((oX2 (p0a 0) p0a p0k p0n p0w_10 (o_1.2)) ++ (oX1 (p1a 0) p1a p1k p1n p1w p1l) ++ (oX9 (p1a 3) p1_2a p1_2k p1_2n p1_2w)) → va_S A s.heap H locs → lv_has ls 6 [(0, .ref (p0a 0)), (2, .int p2), (3, .int v3_10), (4, .int v4_10)] → W p l e ({ frames := 3, cells := 0, slots := 0, locals := 74 } : Room) s m ([.ref (p0a 0), .ref (p1a 0), .int p2] : List Value).toArray below meth c H locs 0 0 Q (F0 m 46 ls [.int y0_46, .int y1_46, .ref (p0a 18)]) := by
          intro y0_46 y1_46 H locs ls hrun hP hD hS hl
          unfold fX2_colour_J46 at hrun
          obtain ⟨hq4, hrun⟩ := chk9 hrun
          refine va_iast hx hb hK hP hD hS 14 13 rfl rfl (ixb_in hq4) dX2_colour_46 (fun H locs hP hD hS => ?_)
          have hP : va_P (dC, dI) cls ((oX2 (p0a 0) p0a p0k p0n (upw p0w_10 18 (nn y1_46) y0_46) (o_1.2)) ++ (oX1 (p1a 0) p1a p1k p1n p1w p1l) ++ (oX9 (p1a 3) p1_2a p1_2k p1_2n p1_2w)) H := hP
          have hD : va_D A ((oX2 (p0a 0) p0a p0k p0n (upw p0w_10 18 (nn y1_46) y0_46) (o_1.2)) ++ (oX1 (p1a 0) p1a p1k p1n p1w p1l) ++ (oX9 (p1a 3) p1_2a p1_2k p1_2n p1_2w)) := hD
          obtain ⟨w5, ew5, hrun⟩ := let9 hrun
          rw [← ew5] at hP hD
          refine lv_aload_n hx hb dX2_colour_47 rfl (lv_at hl 0 rfl) ?_
          refine va_get (D := (dC, dI)) (ci := 9) (v := .ref (p0a 17)) (C := RX2) (T := TX2) (N := 19) hx hb hts i_X2 hown hK hP 0 rfl rfl 16 (by decide) (hts _ qw661) (fun _ h9 => h9) rfl dX2_colour_48 ?_
          refine lv_iload hx hb dX2_colour_51 (lv_at hl 3 rfl) ?_
          refine lv_iconst (v := (-1)) hx hb dX2_colour_53 (by decide) ?_
          obtain ⟨hq6, hrun⟩ := chk9 hrun
          refine va_iast hx hb hK hP hD hS 13 12 rfl rfl (ixb_in hq6) dX2_colour_54 (fun H locs hP hD hS => ?_)
          have hP : va_P (dC, dI) cls ((oX2 (p0a 0) p0a p0k p0n (upw w5 17 (nn v4_10) (-1)) (o_1.2)) ++ (oX1 (p1a 0) p1a p1k p1n p1w p1l) ++ (oX9 (p1a 3) p1_2a p1_2k p1_2n p1_2w)) H := hP
          have hD : va_D A ((oX2 (p0a 0) p0a p0k p0n (upw w5 17 (nn v4_10) (-1)) (o_1.2)) ++ (oX1 (p1a 0) p1a p1k p1n p1w p1l) ++ (oX9 (p1a 3) p1_2a p1_2k p1_2n p1_2w)) := hD
          obtain ⟨w7, ew7, hrun⟩ := let9 hrun
          rw [← ew7] at hP hD
          refine lv_iload_n hx hb dX2_colour_55 rfl (lv_at hl 2 rfl) ?_
          refine lv_aload_n hx hb dX2_colour_56 rfl (lv_at hl 0 rfl) ?_
          refine va_get (D := (dC, dI)) (ci := 9) (v := .ref (p0a 15)) (C := RX2) (T := TX2) (N := 19) hx hb hts i_X2 hown hK hP 0 rfl rfl 14 (by decide) (hts _ qw642) (fun _ h9 => h9) rfl dX2_colour_57 ?_
          refine lv_iload hx hb dX2_colour_60 (lv_at hl 3 rfl) ?_
          obtain ⟨hq8, hrun⟩ := chk9 hrun
          refine va_iald hx hb hK hP 11 10 rfl rfl (ixb_in hq8) dX2_colour_62 ?_
          have J71 : ∀ (y0_71 : Int32) (y1_71 : Int32) (H : Heap) (locs : List Loc) (ls : Array Slot), (fX2_colour_J71 (fX2_colour_L10 p0n n_10) v4_10 w7 y0_71 y1_71) = some o10 → va_P (dC, dI) cls ((oX2 (p0a 0) p0a p0k p0n w7 (o_1.2)) ++ (oX1 (p1a 0) p1a p1k p1n p1w p1l) ++ (oX9 (p1a 3) p1_2a p1_2k p1_2n p1_2w)) H → va_D A ((oX2 (p0a 0) p0a p0k p0n w7 (o_1.2)) ++ (oX1 (p1a 0) p1a p1k p1n p1w p1l) ++ (oX9 (p1a 3) p1_2a p1_2k p1_2n p1_2w)) → va_S A s.heap H locs → lv_has ls 6 [(0, .ref (p0a 0)), (2, .int p2), (4, .int v4_10)] → W p l e ({ frames := 3, cells := 0, slots := 0, locals := 74 } : Room) s m ([.ref (p0a 0), .ref (p1a 0), .int p2] : List Value).toArray below meth c H locs 0 0 Q (F0 m 71 ls [.int y0_71, .int y1_71]) := by
            intro y0_71 y1_71 H locs ls hrun hP hD hS hl
            unfold fX2_colour_J71 at hrun
            refine lv_iadd hx hb dX2_colour_71 ?_
            refine lv_istore_n (lv' := [(3, .int (y1_71 + y0_71)), (0, .ref (p0a 0)), (2, .int p2), (4, .int v4_10)]) hx hb dX2_colour_72 rfl hl (by decide) rfl (fun ls hl => ?_)
            refine lv_iinc (v := (v4_10 + 1)) (lv' := [(4, .int (v4_10 + 1)), (3, .int (y1_71 + y0_71)), (0, .ref (p0a 0)), (2, .int p2)]) hx hb dX2_colour_73 hl (k := 3) rfl rfl (by decide) rfl (fun ls hl => ?_)
            refine lv_goto (tgt := 10) hx hb dX2_colour_76 (by decide) ?_
            exact IH10 (y1_71 + y0_71) (v4_10 + 1) w7 o10 _ _ _ hrun hP hD hS (lv_sub hl [2, 3, 1, 0] rfl) hk10
          rcases br9 hrun with ⟨hc9, hrun⟩ | ⟨hc9, hrun⟩
          · refine lv_if_le (tgt := 70) hx hb dX2_colour_63 (by decide) (fun _ => ?_) (fun c => absurd hc9 c)
            refine lv_iconst (v := 0) hx hb dX2_colour_70 (by decide) ?_
            exact J71 0 v3_10 _ _ _ hrun hP hD hS (lv_sub hl [0, 1, 3] rfl)
          · refine lv_if_le (tgt := 70) hx hb dX2_colour_63 (by decide) (fun c => absurd c hc9) (fun _ => ?_)
            refine lv_iconst (v := 1) hx hb dX2_colour_66 (by decide) ?_
            refine lv_goto (tgt := 71) hx hb dX2_colour_67 (by decide) ?_
            exact J71 1 v3_10 _ _ _ hrun hP hD hS (lv_sub hl [0, 1, 3] rfl)
        rcases br9 hrun with ⟨hc10, hrun⟩ | ⟨hc10, hrun⟩
        · refine lv_if_le (tgt := 45) hx hb dX2_colour_32 (by decide) (fun _ => ?_) (fun c => absurd hc10 c)
          refine lv_iconst (v := (-1)) hx hb dX2_colour_45 (by decide) ?_
          exact J46 (-1) v4_10 _ _ _ hrun hP hD hS (lv_sub hl [0, 1, 2, 3] rfl)
        · refine lv_if_le (tgt := 45) hx hb dX2_colour_32 (by decide) (fun c => absurd c hc10) (fun _ => ?_)
          refine lv_aload_n hx hb dX2_colour_35 rfl (lv_at hl 0 rfl) ?_
          refine va_get (D := (dC, dI)) (ci := 9) (v := .ref (p0a 13)) (C := RX2) (T := TX2) (N := 19) hx hb hts i_X2 hown hK hP 0 rfl rfl 12 (by decide) (hts _ qw596) (fun _ h9 => h9) rfl dX2_colour_36 ?_
          refine lv_iload hx hb dX2_colour_39 (lv_at hl 3 rfl) ?_
          obtain ⟨hq11, hrun⟩ := chk9 hrun
          refine va_iald hx hb hK hP 9 8 rfl rfl (ixb_in hq11) dX2_colour_41 ?_
          refine lv_goto (tgt := 46) hx hb dX2_colour_42 (by decide) ?_
          exact J46 (p0w_10 13 (nn v4_10)) v4_10 _ _ _ hrun hP hD hS (lv_sub hl [0, 1, 2, 3] rfl)
  obtain ⟨o10, hc10, hrun⟩ := bnd9 hrun
  refine L10 NF 0 0 (o_1.1) o10 _ _ _ hc10 hP hD hS (lv_sub hl [2, 4, 1, 0] rfl) ?_
  intro H locs ls hP hD hS hl
  have hl := hl
  refine lv_iconst (v := 0) hx hb dX2_colour_79 (by decide) ?_
  refine lv_istore (lv' := [(4, .int 0), (0, .ref (p0a 0)), (2, .int p2), (3, .int (o10.1))]) hx hb dX2_colour_80 hl (by decide) rfl (fun ls hl => ?_)
  have L82 : ∀ (n_82 : Nat) (v4_82 : Int32) (p0w_82 : ST) (o82 : ST) (H : Heap) (locs : List Loc) (ls : Array Slot), (fX2_colour_L82 p0n p2 o_1 o10 n_82) v4_82 p0w_82 = some o82 → va_P (dC, dI) cls ((oX2 (p0a 0) p0a p0k p0n p0w_82 (o_1.2)) ++ (oX1 (p1a 0) p1a p1k p1n p1w p1l) ++ (oX9 (p1a 3) p1_2a p1_2k p1_2n p1_2w)) H → va_D A ((oX2 (p0a 0) p0a p0k p0n p0w_82 (o_1.2)) ++ (oX1 (p1a 0) p1a p1k p1n p1w p1l) ++ (oX9 (p1a 3) p1_2a p1_2k p1_2n p1_2w)) → va_S A s.heap H locs → lv_has ls 6 [(0, .ref (p0a 0)), (2, .int p2), (3, .int (o10.1)), (4, .int v4_82)] → (∀ (H : Heap) (locs : List Loc) (ls : Array Slot), va_P (dC, dI) cls ((oX2 (p0a 0) p0a p0k p0n o82 (o_1.2)) ++ (oX1 (p1a 0) p1a p1k p1n p1w p1l) ++ (oX9 (p1a 3) p1_2a p1_2k p1_2n p1_2w)) H → va_D A ((oX2 (p0a 0) p0a p0k p0n o82 (o_1.2)) ++ (oX1 (p1a 0) p1a p1k p1n p1w p1l) ++ (oX9 (p1a 3) p1_2a p1_2k p1_2n p1_2w)) → va_S A s.heap H locs → lv_has ls 6 [(0, .ref (p0a 0)), (2, .int p2), (3, .int (o10.1))] → W p l e ({ frames := 3, cells := 0, slots := 0, locals := 74 } : Room) s m ([.ref (p0a 0), .ref (p1a 0), .int p2] : List Value).toArray below meth c H locs 0 0 Q (F0 m 117 ls [])) → W p l e ({ frames := 3, cells := 0, slots := 0, locals := 74 } : Room) s m ([.ref (p0a 0), .ref (p1a 0), .int p2] : List Value).toArray below meth c H locs 0 0 Q (F0 m 82 ls []) := by
    intro n_82
    induction n_82 with
    | zero => intro v4_82 p0w_82 o82 H locs ls hrun; exact (no9 rfl hrun).elim
    | succ n_82 IH82 =>
      intro v4_82 p0w_82 o82 H locs ls hrun hP hD hS hl hk82
      unfold fX2_colour_L82 at hrun
      refine lv_iload hx hb dX2_colour_82 (lv_at hl 3 rfl) ?_
      refine lv_iload_n hx hb dX2_colour_84 rfl (lv_at hl 2 rfl) ?_
      rcases br9 hrun with ⟨hc12, hrun⟩ | ⟨hc12, hrun⟩
      · refine lv_icmp_ge (tgt := 117) hx hb dX2_colour_85 (by decide) (fun _ => ?_) (fun c => absurd hc12 c)
        obtain rfl := (Option.some.inj hrun)
        exact hk82 _ _ _ hP hD hS (lv_sub hl [0, 1, 2] rfl)
      · refine lv_icmp_ge (tgt := 117) hx hb dX2_colour_85 (by decide) (fun c => absurd c hc12) (fun _ => ?_)
        refine lv_aload_n hx hb dX2_colour_88 rfl (lv_at hl 0 rfl) ?_
        refine va_get (D := (dC, dI)) (ci := 9) (v := .ref (p0a 19)) (C := RX2) (T := TX2) (N := 19) hx hb hts i_X2 hown hK hP 0 rfl rfl 18 (by decide) (hts _ qw662) (fun _ h9 => h9) rfl dX2_colour_89 ?_
        refine lv_iload hx hb dX2_colour_92 (lv_at hl 3 rfl) ?_
        refine lv_aload_n hx hb dX2_colour_94 rfl (lv_at hl 0 rfl) ?_
        refine lv_iload_n hx hb dX2_colour_95 rfl (lv_at hl 1 rfl) ?_
        obtain ⟨o_13, hc_13, hrun⟩ := bnd9 hrun
        have hPc := hP.sub (ws' := (oX2 (p0a 0) p0a p0k p0n p0w_82 (o_1.2))) [0, 1, 2, 3, 4, 5, 6, 7, 8, 9, 10, 11, 12, 13, 14, 15] rfl
        have hDc := hD.sub (ws' := (oX2 (p0a 0) p0a p0k p0n p0w_82 (o_1.2))) [0, 1, 2, 3, 4, 5, 6, 7, 8, 9, 10, 11, 12, 13, 14, 15] (by decide) rfl
        have hKc := hK.sub (tys' := (tX2 p0k)) [0, 1, 2, 3, 4, 5, 6, 7, 8, 9, 10, 11, 12, 13, 14] rfl
        have hFc := va_free (wc := (oX2 (p0a 0) p0a p0k p0n p0w_82 (o_1.2))) hD hS hA [0, 1, 2, 3, 4, 5, 6, 7, 8, 9, 10, 11, 12, 13, 14, 15] rfl
        refine va_calli (va_runV (As := [.int p2]) (rest := [.int v4_82, .ref (p0a 19)]) ⟨hx, hb, hml, hown, hts⟩ (kX2_nextToTake l dC dI (p0a := (st0 (p0a 0) p0a)) (p0k := p0k) (p0n := p0n) (p0w := p0w_82) (p0l := (o_1.2)) (p1 := p2) (sz := _) (o := o_13) (hrun := hc_13)) (cwV 1 hts (gi_V qw664 qw665 qw666 qw595 (gi_z qw663)) rfl rfl rfl (by decide +kernel) ⟨Nat.le_of_ble_eq_true rfl, Nat.le_of_ble_eq_true rfl⟩) ⟨PRE.blind, va_recv hKc hPc (ci := 9) (q0 := 0) rfl rfl, PRE.of hE hS hFc hPc hKc hDc⟩ rfl rfl hl.1 rfl (lv_room (Nat.le_of_ble_eq_true rfl)) dX2_colour_96 ⟨Nat.le_of_ble_eq_true rfl, Nat.le_of_ble_eq_true rfl⟩) hS (fun q _ h => hFc q h) hFc (fun r14 u t H locs ht hvm hw hB hz1 hk1 hS => ?_)
        obtain ⟨hP, hD, hK⟩ := JOIN (wr := ((oX1 (p1a 0) p1a p1k p1n p1w p1l) ++ (oX9 (p1a 3) p1_2a p1_2k p1_2n p1_2w))) hP hD hK [0, 1, 2, 3, 4, 5, 6, 7, 8, 9, 10, 11, 12, 13, 14, 15] [16, 17, 18, 19, 20, 21, 22, 23, 24, 25, 26, 27, 28, 29, 30, 31, 32, 33, 34, 35, 36, 37, 38, 39] [15, 16, 17, 18, 19, 20, 21, 22, 23, 24, 25, 26, 27, 28, 29, 30, 31, 32, 33, 34, 35, 36] rfl rfl (by decide) (by decide) rfl hk1 hFc ht hvm hB
        have hP : va_P (dC, dI) cls ((oX2 (p0a 0) p0a p0k p0n p0w_82 (o_1.2)) ++ (oX1 (p1a 0) p1a p1k p1n p1w p1l) ++ (oX9 (p1a 3) p1_2a p1_2k p1_2n p1_2w)) H := hP.sub [24, 25, 26, 27, 28, 29, 30, 31, 32, 33, 34, 35, 36, 37, 38, 39, 0, 1, 2, 3, 4, 5, 6, 7, 8, 9, 10, 11, 12, 13, 14, 15, 16, 17, 18, 19, 20, 21, 22, 23] rfl
        have hD : va_D A ((oX2 (p0a 0) p0a p0k p0n p0w_82 (o_1.2)) ++ (oX1 (p1a 0) p1a p1k p1n p1w p1l) ++ (oX9 (p1a 3) p1_2a p1_2k p1_2n p1_2w)) := hD.sub [24, 25, 26, 27, 28, 29, 30, 31, 32, 33, 34, 35, 36, 37, 38, 39, 0, 1, 2, 3, 4, 5, 6, 7, 8, 9, 10, 11, 12, 13, 14, 15, 16, 17, 18, 19, 20, 21, 22, 23] (by decide) rfl
        have hK : va_K (dC, dI) cls ((tX2 p0k) ++ (tX1 p1k) ++ (tX9 p1_2k)) s := hK.sub [22, 23, 24, 25, 26, 27, 28, 29, 30, 31, 32, 33, 34, 35, 36, 0, 1, 2, 3, 4, 5, 6, 7, 8, 9, 10, 11, 12, 13, 14, 15, 16, 17, 18, 19, 20, 21] rfl
        obtain rfl : o_13 = r14 := hw.symm
        obtain ⟨hq15, hrun⟩ := chk9 hrun
        refine va_iast hx hb hK hP hD hS 15 14 rfl rfl (ixb_in hq15) dX2_colour_99 (fun H locs hP hD hS => ?_)
        have hP : va_P (dC, dI) cls ((oX2 (p0a 0) p0a p0k p0n (upw p0w_82 19 (nn v4_82) o_13) (o_1.2)) ++ (oX1 (p1a 0) p1a p1k p1n p1w p1l) ++ (oX9 (p1a 3) p1_2a p1_2k p1_2n p1_2w)) H := hP
        have hD : va_D A ((oX2 (p0a 0) p0a p0k p0n (upw p0w_82 19 (nn v4_82) o_13) (o_1.2)) ++ (oX1 (p1a 0) p1a p1k p1n p1w p1l) ++ (oX9 (p1a 3) p1_2a p1_2k p1_2n p1_2w)) := hD
        obtain ⟨w16, ew16, hrun⟩ := let9 hrun
        rw [← ew16] at hP hD
        refine lv_aload_n hx hb dX2_colour_100 rfl (lv_at hl 0 rfl) ?_
        refine lv_aload_n hx hb dX2_colour_101 rfl (lv_at hl 0 rfl) ?_
        refine va_get (D := (dC, dI)) (ci := 9) (v := .ref (p0a 19)) (C := RX2) (T := TX2) (N := 19) hx hb hts i_X2 hown hK hP 0 rfl rfl 18 (by decide) (hts _ qw662) (fun _ h9 => h9) rfl dX2_colour_102 ?_
        refine lv_iload hx hb dX2_colour_105 (lv_at hl 3 rfl) ?_
        obtain ⟨hq17, hrun⟩ := chk9 hrun
        refine va_iald hx hb hK hP 15 14 rfl rfl (ixb_in hq17) dX2_colour_107 ?_
        obtain ⟨o_18, hc_18, hrun⟩ := bnd9 hrun
        have hPc := hP.sub (ws' := (oX2 (p0a 0) p0a p0k p0n w16 (o_1.2))) [0, 1, 2, 3, 4, 5, 6, 7, 8, 9, 10, 11, 12, 13, 14, 15] rfl
        have hDc := hD.sub (ws' := (oX2 (p0a 0) p0a p0k p0n w16 (o_1.2))) [0, 1, 2, 3, 4, 5, 6, 7, 8, 9, 10, 11, 12, 13, 14, 15] (by decide) rfl
        have hKc := hK.sub (tys' := (tX2 p0k)) [0, 1, 2, 3, 4, 5, 6, 7, 8, 9, 10, 11, 12, 13, 14] rfl
        have hFc := va_free (wc := (oX2 (p0a 0) p0a p0k p0n w16 (o_1.2))) hD hS hA [0, 1, 2, 3, 4, 5, 6, 7, 8, 9, 10, 11, 12, 13, 14, 15] rfl
        refine va_callv (va_runV (As := [.int (w16 19 (nn v4_82))]) (rest := []) ⟨hx, hb, hml, hown, hts⟩ (kX2_takeAway l dC dI (p0a := (st0 (p0a 0) p0a)) (p0k := p0k) (p0n := p0n) (p0w := w16) (p0l := (o_1.2)) (p1 := (w16 19 (nn v4_82))) (sz := _) (o := o_18) (hrun := hc_18)) (cwV 1 hts (gi_V qw673 qw674 qw675 qw595 (gi_z qw672)) rfl rfl rfl (by decide +kernel) ⟨Nat.le_of_ble_eq_true rfl, Nat.le_of_ble_eq_true rfl⟩) ⟨PRE.blind, va_recv hKc hPc (ci := 9) (q0 := 0) rfl rfl, PRE.of hE hS hFc hPc hKc hDc⟩ rfl rfl hl.1 rfl (lv_room (Nat.le_of_ble_eq_true rfl)) dX2_colour_108 ⟨Nat.le_of_ble_eq_true rfl, Nat.le_of_ble_eq_true rfl⟩) hS (fun q _ h => hFc q h) hFc (fun u t H locs ht hvm hw hB hz1 hk1 hS => ?_)
        obtain ⟨hP, hD, hK⟩ := JOIN (wr := ((oX1 (p1a 0) p1a p1k p1n p1w p1l) ++ (oX9 (p1a 3) p1_2a p1_2k p1_2n p1_2w))) hP hD hK [0, 1, 2, 3, 4, 5, 6, 7, 8, 9, 10, 11, 12, 13, 14, 15] [16, 17, 18, 19, 20, 21, 22, 23, 24, 25, 26, 27, 28, 29, 30, 31, 32, 33, 34, 35, 36, 37, 38, 39] [15, 16, 17, 18, 19, 20, 21, 22, 23, 24, 25, 26, 27, 28, 29, 30, 31, 32, 33, 34, 35, 36] rfl rfl (by decide) (by decide) rfl hk1 hFc ht hvm hB
        have hP : va_P (dC, dI) cls ((oX2 (p0a 0) p0a p0k p0n o_18 (o_1.2)) ++ (oX1 (p1a 0) p1a p1k p1n p1w p1l) ++ (oX9 (p1a 3) p1_2a p1_2k p1_2n p1_2w)) H := hP.sub [24, 25, 26, 27, 28, 29, 30, 31, 32, 33, 34, 35, 36, 37, 38, 39, 0, 1, 2, 3, 4, 5, 6, 7, 8, 9, 10, 11, 12, 13, 14, 15, 16, 17, 18, 19, 20, 21, 22, 23] rfl
        have hD : va_D A ((oX2 (p0a 0) p0a p0k p0n o_18 (o_1.2)) ++ (oX1 (p1a 0) p1a p1k p1n p1w p1l) ++ (oX9 (p1a 3) p1_2a p1_2k p1_2n p1_2w)) := hD.sub [24, 25, 26, 27, 28, 29, 30, 31, 32, 33, 34, 35, 36, 37, 38, 39, 0, 1, 2, 3, 4, 5, 6, 7, 8, 9, 10, 11, 12, 13, 14, 15, 16, 17, 18, 19, 20, 21, 22, 23] (by decide) rfl
        have hK : va_K (dC, dI) cls ((tX2 p0k) ++ (tX1 p1k) ++ (tX9 p1_2k)) s := hK.sub [22, 23, 24, 25, 26, 27, 28, 29, 30, 31, 32, 33, 34, 35, 36, 0, 1, 2, 3, 4, 5, 6, 7, 8, 9, 10, 11, 12, 13, 14, 15, 16, 17, 18, 19, 20, 21] rfl
        refine lv_iinc (v := (v4_82 + 1)) (lv' := [(4, .int (v4_82 + 1)), (0, .ref (p0a 0)), (2, .int p2), (3, .int (o10.1))]) hx hb dX2_colour_111 hl (k := 3) rfl rfl (by decide) rfl (fun ls hl => ?_)
        refine lv_goto (tgt := 82) hx hb dX2_colour_114 (by decide) ?_
        exact IH82 (v4_82 + 1) o_18 o82 _ _ _ hrun hP hD hS (lv_sub hl [1, 2, 3, 0] rfl) hk82
  obtain ⟨o82, hc82, hrun⟩ := bnd9 hrun
  refine L82 NF 0 (o10.2) o82 _ _ _ hc82 hP hD hS (lv_sub hl [1, 2, 3, 0] rfl) ?_
  intro H locs ls hP hD hS hl
  have hl := hl
  refine lv_iconst (v := 1) hx hb dX2_colour_117 (by decide) ?_
  refine lv_istore (lv' := [(4, .int 1), (0, .ref (p0a 0)), (2, .int p2), (3, .int (o10.1))]) hx hb dX2_colour_118 hl (by decide) rfl (fun ls hl => ?_)
  refine lv_iload_n hx hb dX2_colour_120 rfl (lv_at hl 3 rfl) ?_
  refine lv_iconst (v := 1) hx hb dX2_colour_121 (by decide) ?_
  refine lv_isub hx hb dX2_colour_122 ?_
  refine lv_istore (lv' := [(5, .int ((o10.1) - 1)), (4, .int 1), (0, .ref (p0a 0)), (2, .int p2), (3, .int (o10.1))]) hx hb dX2_colour_123 hl (by decide) rfl (fun ls hl => ?_)
  have L125 : ∀ (n_125 : Nat) (v4_125 : Int32) (v5_125 : Int32) (p0w_125 : ST) (o125 : Int32 × ST) (H : Heap) (locs : List Loc) (ls : Array Slot), (fX2_colour_L125 p0n p2 o_1 n_125) v4_125 v5_125 p0w_125 = some o125 → va_P (dC, dI) cls ((oX2 (p0a 0) p0a p0k p0n p0w_125 (o_1.2)) ++ (oX1 (p1a 0) p1a p1k p1n p1w p1l) ++ (oX9 (p1a 3) p1_2a p1_2k p1_2n p1_2w)) H → va_D A ((oX2 (p0a 0) p0a p0k p0n p0w_125 (o_1.2)) ++ (oX1 (p1a 0) p1a p1k p1n p1w p1l) ++ (oX9 (p1a 3) p1_2a p1_2k p1_2n p1_2w)) → va_S A s.heap H locs → lv_has ls 6 [(0, .ref (p0a 0)), (2, .int p2), (4, .int v4_125), (5, .int v5_125)] → (∀ (H : Heap) (locs : List Loc) (ls : Array Slot), va_P (dC, dI) cls ((oX2 (p0a 0) p0a p0k p0n (o125.2) (o_1.2)) ++ (oX1 (p1a 0) p1a p1k p1n p1w p1l) ++ (oX9 (p1a 3) p1_2a p1_2k p1_2n p1_2w)) H → va_D A ((oX2 (p0a 0) p0a p0k p0n (o125.2) (o_1.2)) ++ (oX1 (p1a 0) p1a p1k p1n p1w p1l) ++ (oX9 (p1a 3) p1_2a p1_2k p1_2n p1_2w)) → va_S A s.heap H locs → lv_has ls 6 [(4, .int (o125.1))] → W p l e ({ frames := 3, cells := 0, slots := 0, locals := 74 } : Room) s m ([.ref (p0a 0), .ref (p1a 0), .int p2] : List Value).toArray below meth c H locs 0 0 Q (F0 m 187 ls [])) → W p l e ({ frames := 3, cells := 0, slots := 0, locals := 74 } : Room) s m ([.ref (p0a 0), .ref (p1a 0), .int p2] : List Value).toArray below meth c H locs 0 0 Q (F0 m 125 ls []) := by
    intro n_125
    induction n_125 with
    | zero => intro v4_125 v5_125 p0w_125 o125 H locs ls hrun; exact (no9 rfl hrun).elim
    | succ n_125 IH125 =>
      intro v4_125 v5_125 p0w_125 o125 H locs ls hrun hP hD hS hl hk125
      unfold fX2_colour_L125 at hrun
      refine lv_iload hx hb dX2_colour_125 (lv_at hl 3 rfl) ?_
      rcases br9 hrun with ⟨hc19, hrun⟩ | ⟨hc19, hrun⟩
      · refine lv_if_lt (tgt := 187) hx hb dX2_colour_127 (by decide) (fun _ => ?_) (fun c => absurd hc19 c)
        obtain rfl := (Option.some.inj hrun)
        exact hk125 _ _ _ hP hD hS (lv_sub hl [2] rfl)
      · refine lv_if_lt (tgt := 187) hx hb dX2_colour_127 (by decide) (fun c => absurd c hc19) (fun _ => ?_)
        refine lv_aload_n hx hb dX2_colour_130 rfl (lv_at hl 0 rfl) ?_
        refine va_get (D := (dC, dI)) (ci := 9) (v := .ref (p0a 17)) (C := RX2) (T := TX2) (N := 19) hx hb hts i_X2 hown hK hP 0 rfl rfl 16 (by decide) (hts _ qw661) (fun _ h9 => h9) rfl dX2_colour_131 ?_
        refine lv_aload_n hx hb dX2_colour_134 rfl (lv_at hl 0 rfl) ?_
        refine va_get (D := (dC, dI)) (ci := 9) (v := .ref (p0a 19)) (C := RX2) (T := TX2) (N := 19) hx hb hts i_X2 hown hK hP 0 rfl rfl 18 (by decide) (hts _ qw662) (fun _ h9 => h9) rfl dX2_colour_135 ?_
        refine lv_iload hx hb dX2_colour_138 (lv_at hl 3 rfl) ?_
        obtain ⟨hq20, hrun⟩ := chk9 hrun
        refine va_iald hx hb hK hP 15 14 rfl rfl (ixb_in hq20) dX2_colour_140 ?_
        refine lv_aload_n hx hb dX2_colour_141 rfl (lv_at hl 0 rfl) ?_
        refine lv_aload_n hx hb dX2_colour_142 rfl (lv_at hl 0 rfl) ?_
        refine va_get (D := (dC, dI)) (ci := 9) (v := .ref (p0a 19)) (C := RX2) (T := TX2) (N := 19) hx hb hts i_X2 hown hK hP 0 rfl rfl 18 (by decide) (hts _ qw662) (fun _ h9 => h9) rfl dX2_colour_143 ?_
        refine lv_iload hx hb dX2_colour_146 (lv_at hl 3 rfl) ?_
        obtain ⟨hq21, hrun⟩ := chk9 hrun
        refine va_iald hx hb hK hP 15 14 rfl rfl (ixb_in hq21) dX2_colour_148 ?_
        refine lv_iload_n hx hb dX2_colour_149 rfl (lv_at hl 1 rfl) ?_
        obtain ⟨o_22, hc_22, hrun⟩ := bnd9 hrun
        have hPc := hP.sub (ws' := (oX2 (p0a 0) p0a p0k p0n p0w_125 (o_1.2))) [0, 1, 2, 3, 4, 5, 6, 7, 8, 9, 10, 11, 12, 13, 14, 15] rfl
        have hDc := hD.sub (ws' := (oX2 (p0a 0) p0a p0k p0n p0w_125 (o_1.2))) [0, 1, 2, 3, 4, 5, 6, 7, 8, 9, 10, 11, 12, 13, 14, 15] (by decide) rfl
        have hKc := hK.sub (tys' := (tX2 p0k)) [0, 1, 2, 3, 4, 5, 6, 7, 8, 9, 10, 11, 12, 13, 14] rfl
        have hFc := va_free (wc := (oX2 (p0a 0) p0a p0k p0n p0w_125 (o_1.2))) hD hS hA [0, 1, 2, 3, 4, 5, 6, 7, 8, 9, 10, 11, 12, 13, 14, 15] rfl
        refine va_calli (va_runV (As := [.int (p0w_125 19 (nn v5_125)), .int p2]) (rest := [.int (p0w_125 19 (nn v5_125)), .ref (p0a 17)]) ⟨hx, hb, hml, hown, hts⟩ (kX2_freeRegister l dC dI (p0a := (st0 (p0a 0) p0a)) (p0k := p0k) (p0n := p0n) (p0w := p0w_125) (p0l := (o_1.2)) (p1 := (p0w_125 19 (nn v5_125))) (p2 := p2) (sz := _) (o := o_22) (hrun := hc_22)) (cwV 2 hts (gi_V qw681 qw682 qw683 qw595 (gi_z qw680)) rfl rfl rfl (by decide +kernel) ⟨Nat.le_of_ble_eq_true rfl, Nat.le_of_ble_eq_true rfl⟩) ⟨PRE.blind, va_recv hKc hPc (ci := 9) (q0 := 0) rfl rfl, PRE.of hE hS hFc hPc hKc hDc⟩ rfl rfl hl.1 rfl (lv_room (Nat.le_of_ble_eq_true rfl)) dX2_colour_150 ⟨Nat.le_of_ble_eq_true rfl, Nat.le_of_ble_eq_true rfl⟩) hS (fun q _ h => hFc q h) hFc (fun r23 u t H locs ht hvm hw hB hz1 hk1 hS => ?_)
        obtain ⟨hP, hD, hK⟩ := JOIN (wr := ((oX1 (p1a 0) p1a p1k p1n p1w p1l) ++ (oX9 (p1a 3) p1_2a p1_2k p1_2n p1_2w))) hP hD hK [0, 1, 2, 3, 4, 5, 6, 7, 8, 9, 10, 11, 12, 13, 14, 15] [16, 17, 18, 19, 20, 21, 22, 23, 24, 25, 26, 27, 28, 29, 30, 31, 32, 33, 34, 35, 36, 37, 38, 39] [15, 16, 17, 18, 19, 20, 21, 22, 23, 24, 25, 26, 27, 28, 29, 30, 31, 32, 33, 34, 35, 36] rfl rfl (by decide) (by decide) rfl hk1 hFc ht hvm hB
        have hP : va_P (dC, dI) cls ((oX2 (p0a 0) p0a p0k p0n p0w_125 (o_1.2)) ++ (oX1 (p1a 0) p1a p1k p1n p1w p1l) ++ (oX9 (p1a 3) p1_2a p1_2k p1_2n p1_2w)) H := hP.sub [24, 25, 26, 27, 28, 29, 30, 31, 32, 33, 34, 35, 36, 37, 38, 39, 0, 1, 2, 3, 4, 5, 6, 7, 8, 9, 10, 11, 12, 13, 14, 15, 16, 17, 18, 19, 20, 21, 22, 23] rfl
        have hD : va_D A ((oX2 (p0a 0) p0a p0k p0n p0w_125 (o_1.2)) ++ (oX1 (p1a 0) p1a p1k p1n p1w p1l) ++ (oX9 (p1a 3) p1_2a p1_2k p1_2n p1_2w)) := hD.sub [24, 25, 26, 27, 28, 29, 30, 31, 32, 33, 34, 35, 36, 37, 38, 39, 0, 1, 2, 3, 4, 5, 6, 7, 8, 9, 10, 11, 12, 13, 14, 15, 16, 17, 18, 19, 20, 21, 22, 23] (by decide) rfl
        have hK : va_K (dC, dI) cls ((tX2 p0k) ++ (tX1 p1k) ++ (tX9 p1_2k)) s := hK.sub [22, 23, 24, 25, 26, 27, 28, 29, 30, 31, 32, 33, 34, 35, 36, 0, 1, 2, 3, 4, 5, 6, 7, 8, 9, 10, 11, 12, 13, 14, 15, 16, 17, 18, 19, 20, 21] rfl
        obtain rfl : o_22 = r23 := hw.symm
        obtain ⟨hq24, hrun⟩ := chk9 hrun
        refine va_iast hx hb hK hP hD hS 13 12 rfl rfl (ixb_in hq24) dX2_colour_153 (fun H locs hP hD hS => ?_)
        have hP : va_P (dC, dI) cls ((oX2 (p0a 0) p0a p0k p0n (upw p0w_125 17 (nn (p0w_125 19 (nn v5_125))) o_22) (o_1.2)) ++ (oX1 (p1a 0) p1a p1k p1n p1w p1l) ++ (oX9 (p1a 3) p1_2a p1_2k p1_2n p1_2w)) H := hP
        have hD : va_D A ((oX2 (p0a 0) p0a p0k p0n (upw p0w_125 17 (nn (p0w_125 19 (nn v5_125))) o_22) (o_1.2)) ++ (oX1 (p1a 0) p1a p1k p1n p1w p1l) ++ (oX9 (p1a 3) p1_2a p1_2k p1_2n p1_2w)) := hD
        obtain ⟨w25, ew25, hrun⟩ := let9 hrun
        rw [← ew25] at hP hD
        refine lv_iload hx hb dX2_colour_154 (lv_at hl 2 rfl) ?_
        have J179 : ∀ (y0_179 : Int32) (H : Heap) (locs : List Loc) (ls : Array Slot), (fX2_colour_J179 (fX2_colour_L125 p0n p2 o_1 n_125) v5_125 w25 y0_179) = some o125 → va_P (dC, dI) cls ((oX2 (p0a 0) p0a p0k p0n w25 (o_1.2)) ++ (oX1 (p1a 0) p1a p1k p1n p1w p1l) ++ (oX9 (p1a 3) p1_2a p1_2k p1_2n p1_2w)) H → va_D A ((oX2 (p0a 0) p0a p0k p0n w25 (o_1.2)) ++ (oX1 (p1a 0) p1a p1k p1n p1w p1l) ++ (oX9 (p1a 3) p1_2a p1_2k p1_2n p1_2w)) → va_S A s.heap H locs → lv_has ls 6 [(0, .ref (p0a 0)), (2, .int p2), (5, .int v5_125)] → W p l e ({ frames := 3, cells := 0, slots := 0, locals := 74 } : Room) s m ([.ref (p0a 0), .ref (p1a 0), .int p2] : List Value).toArray below meth c H locs 0 0 Q (F0 m 179 ls [.int y0_179]) := by
          intro y0_179 H locs ls hrun hP hD hS hl
          unfold fX2_colour_J179 at hrun
          refine lv_istore (lv' := [(4, .int y0_179), (0, .ref (p0a 0)), (2, .int p2), (5, .int v5_125)]) hx hb dX2_colour_179 hl (by decide) rfl (fun ls hl => ?_)
          refine lv_iinc (v := (v5_125 + (-1))) (lv' := [(5, .int (v5_125 + (-1))), (4, .int y0_179), (0, .ref (p0a 0)), (2, .int p2)]) hx hb dX2_colour_181 hl (k := 3) rfl rfl (by decide) rfl (fun ls hl => ?_)
          refine lv_goto (tgt := 125) hx hb dX2_colour_184 (by decide) ?_
          exact IH125 y0_179 (v5_125 + (-1)) w25 o125 _ _ _ hrun hP hD hS (lv_sub hl [2, 3, 1, 0] rfl) hk125
        have J178 : ∀ (H : Heap) (locs : List Loc) (ls : Array Slot), (fX2_colour_J178 (fX2_colour_L125 p0n p2 o_1 n_125) v5_125 w25) = some o125 → va_P (dC, dI) cls ((oX2 (p0a 0) p0a p0k p0n w25 (o_1.2)) ++ (oX1 (p1a 0) p1a p1k p1n p1w p1l) ++ (oX9 (p1a 3) p1_2a p1_2k p1_2n p1_2w)) H → va_D A ((oX2 (p0a 0) p0a p0k p0n w25 (o_1.2)) ++ (oX1 (p1a 0) p1a p1k p1n p1w p1l) ++ (oX9 (p1a 3) p1_2a p1_2k p1_2n p1_2w)) → va_S A s.heap H locs → lv_has ls 6 [(0, .ref (p0a 0)), (2, .int p2), (5, .int v5_125)] → W p l e ({ frames := 3, cells := 0, slots := 0, locals := 74 } : Room) s m ([.ref (p0a 0), .ref (p1a 0), .int p2] : List Value).toArray below meth c H locs 0 0 Q (F0 m 178 ls []) := by
          intro  H locs ls hrun hP hD hS hl
          unfold fX2_colour_J178 at hrun
          refine lv_iconst (v := 0) hx hb dX2_colour_178 (by decide) ?_
          exact J179 0 _ _ _ hrun hP hD hS (lv_sub hl [0, 1, 2] rfl)
        rcases br9 hrun with ⟨hc26, hrun⟩ | ⟨hc26, hrun⟩
        · refine lv_if_eq (tgt := 178) hx hb dX2_colour_156 (by decide) (fun _ => ?_) (fun c => absurd hc26 c)
          exact J178 _ _ _ hrun hP hD hS (lv_sub hl [0, 1, 3] rfl)
        · refine lv_if_eq (tgt := 178) hx hb dX2_colour_156 (by decide) (fun c => absurd c hc26) (fun _ => ?_)
          refine lv_aload_n hx hb dX2_colour_159 rfl (lv_at hl 0 rfl) ?_
          refine va_get (D := (dC, dI)) (ci := 9) (v := .ref (p0a 17)) (C := RX2) (T := TX2) (N := 19) hx hb hts i_X2 hown hK hP 0 rfl rfl 16 (by decide) (hts _ qw661) (fun _ h9 => h9) rfl dX2_colour_160 ?_
          refine lv_aload_n hx hb dX2_colour_163 rfl (lv_at hl 0 rfl) ?_
          refine va_get (D := (dC, dI)) (ci := 9) (v := .ref (p0a 19)) (C := RX2) (T := TX2) (N := 19) hx hb hts i_X2 hown hK hP 0 rfl rfl 18 (by decide) (hts _ qw662) (fun _ h9 => h9) rfl dX2_colour_164 ?_
          refine lv_iload hx hb dX2_colour_167 (lv_at hl 3 rfl) ?_
          obtain ⟨hq27, hrun⟩ := chk9 hrun
          refine va_iald hx hb hK hP 15 14 rfl rfl (ixb_in hq27) dX2_colour_169 ?_
          obtain ⟨hq28, hrun⟩ := chk9 hrun
          refine va_iald hx hb hK hP 13 12 rfl rfl (ixb_in hq28) dX2_colour_170 ?_
          rcases br9 hrun with ⟨hc29, hrun⟩ | ⟨hc29, hrun⟩
          · refine lv_if_lt (tgt := 178) hx hb dX2_colour_171 (by decide) (fun _ => ?_) (fun c => absurd hc29 c)
            exact J178 _ _ _ hrun hP hD hS (lv_sub hl [0, 1, 3] rfl)
          · refine lv_if_lt (tgt := 178) hx hb dX2_colour_171 (by decide) (fun c => absurd c hc29) (fun _ => ?_)
            refine lv_iconst (v := 1) hx hb dX2_colour_174 (by decide) ?_
            refine lv_goto (tgt := 179) hx hb dX2_colour_175 (by decide) ?_
            exact J179 1 _ _ _ hrun hP hD hS (lv_sub hl [0, 1, 3] rfl)
  obtain ⟨o125, hc125, hrun⟩ := bnd9 hrun
  refine L125 NF 1 ((o10.1) - 1) o82 o125 _ _ _ hc125 hP hD hS (lv_sub hl [2, 3, 1, 0] rfl) ?_
  intro H locs ls hP hD hS hl
  have hl := hl
  refine lv_iload hx hb dX2_colour_187 (lv_at hl 0 rfl) ?_
  obtain ⟨hz9, hrun⟩ := chk9 hrun
  have ho9 : ((o125.1), (o125.2), (o_1.2)) = o := Option.some.inj hrun
  have hP9 : va_P (dC, dI) cls ((oX2 (p0a 0) p0a p0k p0n (o.2.1) (o.2.2)) ++ (oX1 (p1a 0) p1a p1k p1n p1w p1l) ++ (oX9 (p1a 3) p1_2a p1_2k p1_2n p1_2w)) H := by first | exact hP | (rw [← ho9]; exact hP)
  have hD9 : va_D A ((oX2 (p0a 0) p0a p0k p0n (o.2.1) (o.2.2)) ++ (oX1 (p1a 0) p1a p1k p1n p1w p1l) ++ (oX9 (p1a 3) p1_2a p1_2k p1_2n p1_2w)) := by first | exact hD | (rw [← ho9]; exact hD)
  subst hQ
  exact W.zret (v := (o125.1)) hx hb hr (bz9 hz9) (fun t ht hW => ⟨⟨(o125.1), (), rfl, (by rw [← ho9]), ⟨by rw [ht]; exact hP9, va_K.moved hW.alike hK, hD9⟩⟩, hS.F ht⟩) hS.2.2 dX2_colour_189
def fX2_countDegrees_L32 (p0n : Nat → Nat) (p0l : SL) (v1_2 : Int32) : Nat → Int32 → ST → Option ST
  | 0 => fun _ _ => none
  | n_32 + 1 => fun v2_32 p0w_32 => (if (p0w_32 0 2) ≤ v2_32 then some p0w_32 else (if ixb v1_2 (p0n 13) = true then (if ixb ((v1_2 * (p0w_32 0 2)) + v2_32) (p0n 11) = true then ((fJ13_bitCount_95d88 (p0l 11 (nn ((v1_2 * (p0w_32 0 2)) + v2_32)))).bind fun (o_8 : Int32) => (if ixb v1_2 (p0n 13) = true then (lt9 (upw p0w_32 13 (nn v1_2) ((p0w_32 13 (nn v1_2)) + o_8)) fun (w11 : ST) => ((fX2_countDegrees_L32 p0n p0l v1_2 n_32) (v2_32 + 1) w11)) else none)) else none) else none))
def fX2_countDegrees_J29 (kk2 : Int32 → ST → Option ST) (p0n : Nat → Nat) (p0l : SL) (v1_2 : Int32) (p0w_2 : ST) (y0_29 : Int32) (y1_29 : Int32) : Option ST := (if ixb y1_29 (p0n 13) = true then (lt9 (upw p0w_2 13 (nn y1_29) y0_29) fun (w4 : ST) => ((fX2_countDegrees_L32 p0n p0l v1_2 NF 0 w4).bind fun (o32 : ST) => (kk2 (v1_2 + 1) o32))) else none)
def fX2_countDegrees_L2 (p0n : Nat → Nat) (p0l : SL) : Nat → Int32 → ST → Option ST
  | 0 => fun _ _ => none
  | n_2 + 1 => fun v1_2 p0w_2 => (if (p0w_2 0 1) ≤ v1_2 then some p0w_2 else (if ixb v1_2 (p0n 12) = true then (if (p0w_2 12 (nn v1_2)) < 0 then (fX2_countDegrees_J29 (fX2_countDegrees_L2 p0n p0l n_2) p0n p0l v1_2 p0w_2 0 v1_2) else (fX2_countDegrees_J29 (fX2_countDegrees_L2 p0n p0l n_2) p0n p0l v1_2 p0w_2 1 v1_2)) else none))
def fX2_countDegrees_L114 (p0n : Nat → Nat) (v2_92 : Int32) : Nat → Int64 → ST → Option ST
  | 0 => fun _ _ => none
  | n_114 + 1 => fun v3_114 p0w_114 => (if (lg_cmp v3_114 (0 : Int64)) = 0 then some p0w_114 else ((fX11_lowest v3_114).bind fun (o_17 : Int32) => (if ixb ((v2_92 * 64) + o_17) (p0n 13) = true then (if ixb ((v2_92 * 64) + o_17) (p0n 13) = true then (lt9 (upw p0w_114 13 (nn ((v2_92 * 64) + o_17)) ((p0w_114 13 (nn ((v2_92 * 64) + o_17))) + 1)) fun (w21 : ST) => ((fX2_countDegrees_L114 p0n v2_92 n_114) (v3_114 &&& (v3_114 - (1 : Int64))) w21)) else none) else none)))
def fX2_countDegrees_L92 (p0n : Nat → Nat) (p0l : SL) (v1_82 : Int32) : Nat → Int32 → ST → Option ST
  | 0 => fun _ _ => none
  | n_92 + 1 => fun v2_92 p0w_92 => (if (p0w_92 0 2) ≤ v2_92 then some p0w_92 else (if ixb ((v1_82 * (p0w_92 0 2)) + v2_92) (p0n 11) = true then ((fX2_countDegrees_L114 p0n v2_92 NF (p0l 11 (nn ((v1_82 * (p0w_92 0 2)) + v2_92))) p0w_92).bind fun (o114 : ST) => ((fX2_countDegrees_L92 p0n p0l v1_82 n_92) (v2_92 + 1) o114)) else none))
def fX2_countDegrees_L82 (p0n : Nat → Nat) (p0l : SL) : Nat → Int32 → ST → Option ST
  | 0 => fun _ _ => none
  | n_82 + 1 => fun v1_82 p0w_82 => (if (p0w_82 0 1) ≤ v1_82 then some p0w_82 else ((fX2_countDegrees_L92 p0n p0l v1_82 NF 0 p0w_82).bind fun (o92 : ST) => ((fX2_countDegrees_L82 p0n p0l n_82) (v1_82 + 1) o92)))
def fX2_countDegrees (p0n : Nat → Nat) (p0w : ST) (p0l : SL) : Option ST := ((fX2_countDegrees_L2 p0n p0l NF 0 p0w).bind fun (o2 : ST) => ((fX2_countDegrees_L82 p0n p0l NF (o2 0 0) o2).bind fun (o82 : ST) => some o82))
set_option maxHeartbeats 16000000 in
set_option maxRecDepth 100000 in
theorem kX2_countDegrees {zs : Nat × Nat} (l : Launch) (dC : Nat → ClassId) (dI : Nat → Nat → Nat) (p0a : Nat → Nat) (p0k : Nat → ClassId) (p0n : Nat → Nat) (p0w : ST) (p0l : SL) (sz : Nat) (o : ST) (hrun : fX2_countDegrees p0n p0w p0l = some o) : Met l yX2_countDegrees (wz yX2_countDegrees cX2_countDegrees 5 (Option.none : Option Jvm.ClassFile.FieldType)) ({ frames := 2, cells := 0, slots := 0, locals := 42 } : Room) (va_Pc [.ref (p0a 0)] (PRE zs dC dI (oX2 (p0a 0) p0a p0k p0n p0w p0l) (tX2 p0k) sz)) (va_Qv (fun (_ : Unit) => True) (fun _ t => POST dC dI (oX2 (p0a 0) p0a p0k p0n o p0l) (tX2 p0k) (va_A (oX2 (p0a 0) p0a p0k p0n p0w p0l) sz) t) (va_A (oX2 (p0a 0) p0a p0k p0n p0w p0l) sz)) 0 0 (va_A (oX2 (p0a 0) p0a p0k p0n p0w p0l) sz) := by
  refine Met.ofW (cc := cX2_countDegrees) (maxL := 5) (ret := (Option.none : Option Jvm.ClassFile.FieldType)) (by decide) rfl ?_
  intro p e s m args below meth c s₁ B hml hv
  obtain ⟨rfl, hsz, hP, hK, hD0, hE⟩ := hv
  have hx := B.exec
  have hb := B.bytes
  have hr := B.returns
  have hts0 := atoms_spec (ws := wz yX2_countDegrees cX2_countDegrees 5 (Option.none : Option Jvm.ClassFile.FieldType)) B.pre
  have hts : ∀ w ∈ gw, w.before _ s = true := fun w h => hts0 w (List.mem_cons_of_mem _ h)
  have hown : s.vm.findClass RX2 = some m.cls := findClass_of_methodNamed B.named
  have hlocks := B.notSynchronized
  subst hsz
  have hD := hD0.self (sz := s.heap.size)
  refine gQ9 ?_
  intro Q hQ
  generalize hAe : va_A (oX2 (p0a 0) p0a p0k p0n p0w p0l) s.heap.size = A at hD hE hQ
  have hA : ∀ q : Nat, s.heap.size ≤ q → A q := fun q h => by rw [← hAe]; exact Or.inr h
  have hS : va_S A s.heap s.heap [] := va_S.rf
  have hP : va_P (dC, dI) cls (oX2 (p0a 0) p0a p0k p0n p0w p0l) s.heap := hP
  have hl := lv_entry ([.ref (p0a 0)]) (n := 5) (Nat.le_of_ble_eq_true rfl)
  rw [lg_entry_eq]
  generalize (lg_sl ([.ref (p0a 0)]) ++ List.replicate (5 - (lg_sl ([.ref (p0a 0)])).length) Slot.unset).toArray = ls at hl ⊢
  have hl : lv_has ls 5 [(0, .ref (p0a 0))] := hl
  obtain ⟨H, hHe⟩ : ∃ H, H = s.heap := ⟨_, rfl⟩
  obtain ⟨locs, hle⟩ : ∃ locs : List Loc, locs = [] := ⟨_, rfl⟩
  rw [← hHe] at hP
  have hS : va_S A s.heap H locs := by rw [hHe, hle]; exact hS
  show W p l e ({ frames := 2, cells := 0, slots := 0, locals := 42 } : Room) s m ([.ref (p0a 0)] : List Value).toArray below meth c s.heap [] 0 0 Q (F0 m 0 ls [])
  rw [← hle]
  refine wH9 hHe ?_
  unfold fX2_countDegrees at hrun
  refine lv_iconst (v := 0) hx hb dX2_countDegrees_0 (by decide) ?_
  refine lv_istore_n (lv' := [(1, .int 0), (0, .ref (p0a 0))]) hx hb dX2_countDegrees_1 rfl hl (by decide) rfl (fun ls hl => ?_)
  have L2 : ∀ (n_2 : Nat) (v1_2 : Int32) (p0w_2 : ST) (o2 : ST) (H : Heap) (locs : List Loc) (ls : Array Slot), (fX2_countDegrees_L2 p0n p0l n_2) v1_2 p0w_2 = some o2 → va_P (dC, dI) cls (oX2 (p0a 0) p0a p0k p0n p0w_2 p0l) H → va_D A (oX2 (p0a 0) p0a p0k p0n p0w_2 p0l) → va_S A s.heap H locs → lv_has ls 5 [(0, .ref (p0a 0)), (1, .int v1_2)] → (∀ (H : Heap) (locs : List Loc) (ls : Array Slot), va_P (dC, dI) cls (oX2 (p0a 0) p0a p0k p0n o2 p0l) H → va_D A (oX2 (p0a 0) p0a p0k p0n o2 p0l) → va_S A s.heap H locs → lv_has ls 5 [(0, .ref (p0a 0))] → W p l e ({ frames := 2, cells := 0, slots := 0, locals := 42 } : Room) s m ([.ref (p0a 0)] : List Value).toArray below meth c H locs 0 0 Q (F0 m 77 ls [])) → W p l e ({ frames := 2, cells := 0, slots := 0, locals := 42 } : Room) s m ([.ref (p0a 0)] : List Value).toArray below meth c H locs 0 0 Q (F0 m 2 ls []) := by
    intro n_2
    induction n_2 with
    | zero => intro v1_2 p0w_2 o2 H locs ls hrun; exact (no9 rfl hrun).elim
    | succ n_2 IH2 =>
      intro v1_2 p0w_2 o2 H locs ls hrun hP hD hS hl hk2
      unfold fX2_countDegrees_L2 at hrun
      refine lv_iload_n hx hb dX2_countDegrees_2 rfl (lv_at hl 1 rfl) ?_
      refine lv_aload_n hx hb dX2_countDegrees_3 rfl (lv_at hl 0 rfl) ?_
      refine va_get (D := (dC, dI)) (ci := 9) (v := .int (p0w_2 0 1)) (C := RX2) (T := TX2) (N := 19) hx hb hts i_X2 hown hK hP 0 rfl rfl 1 (by decide) (hts _ qw606) (fun _ h9 => h9) rfl dX2_countDegrees_4 ?_
      rcases br9 hrun with ⟨hc1, hrun⟩ | ⟨hc1, hrun⟩
      · refine lv_icmp_ge (tgt := 77) hx hb dX2_countDegrees_7 (by decide) (fun _ => ?_) (fun c => absurd hc1 c)
        obtain rfl := (Option.some.inj hrun)
        exact hk2 _ _ _ hP hD hS (lv_sub hl [0] rfl)
      · refine lv_icmp_ge (tgt := 77) hx hb dX2_countDegrees_7 (by decide) (fun c => absurd c hc1) (fun _ => ?_)
        refine lv_aload_n hx hb dX2_countDegrees_10 rfl (lv_at hl 0 rfl) ?_
        refine va_get (D := (dC, dI)) (ci := 9) (v := .ref (p0a 13)) (C := RX2) (T := TX2) (N := 19) hx hb hts i_X2 hown hK hP 0 rfl rfl 12 (by decide) (hts _ qw596) (fun _ h9 => h9) rfl dX2_countDegrees_11 ?_
        refine lv_iload_n hx hb dX2_countDegrees_14 rfl (lv_at hl 1 rfl) ?_
        refine lv_aload_n hx hb dX2_countDegrees_15 rfl (lv_at hl 0 rfl) ?_
        refine va_get (D := (dC, dI)) (ci := 9) (v := .ref (p0a 12)) (C := RX2) (T := TX2) (N := 19) hx hb hts i_X2 hown hK hP 0 rfl rfl 11 (by decide) (hts _ qw671) (fun _ h9 => h9) rfl dX2_countDegrees_16 ?_
        refine lv_iload_n hx hb dX2_countDegrees_19 rfl (lv_at hl 1 rfl) ?_
        obtain ⟨hq2, hrun⟩ := chk9 hrun
        refine va_iald hx hb hK hP 8 7 rfl rfl (ixb_in hq2) dX2_countDegrees_20 ?_
        have J29 : ∀ (y0_29 : Int32) (y1_29 : Int32) (H : Heap) (locs : List Loc) (ls : Array Slot), (fX2_countDegrees_J29 (fX2_countDegrees_L2 p0n p0l n_2) p0n p0l v1_2 p0w_2 y0_29 y1_29) = some o2 → va_P (dC, dI) cls (oX2 (p0a 0) p0a p0k p0n p0w_2 p0l) H → va_D A (oX2 (p0a 0) p0a p0k p0n p0w_2 p0l) → va_S A s.heap H locs → lv_has ls 5 [(0, .ref (p0a 0)), (1, .int v1_2)] → W p l e ({ frames := 2, cells := 0, slots := 0, locals := 42 } : Room) s m ([.ref (p0a 0)] : List Value).toArray below meth c H locs 0 0 Q (F0 m 29 ls [.int y0_29, .int y1_29, .ref (p0a 13)]) := by
          intro y0_29 y1_29 H locs ls hrun hP hD hS hl
          unfold fX2_countDegrees_J29 at hrun
          obtain ⟨hq3, hrun⟩ := chk9 hrun
          refine va_iast hx hb hK hP hD hS 9 8 rfl rfl (ixb_in hq3) dX2_countDegrees_29 (fun H locs hP hD hS => ?_)
          have hP : va_P (dC, dI) cls (oX2 (p0a 0) p0a p0k p0n (upw p0w_2 13 (nn y1_29) y0_29) p0l) H := hP
          have hD : va_D A (oX2 (p0a 0) p0a p0k p0n (upw p0w_2 13 (nn y1_29) y0_29) p0l) := hD
          obtain ⟨w4, ew4, hrun⟩ := let9 hrun
          rw [← ew4] at hP hD
          refine lv_iconst (v := 0) hx hb dX2_countDegrees_30 (by decide) ?_
          refine lv_istore_n (lv' := [(2, .int 0), (0, .ref (p0a 0)), (1, .int v1_2)]) hx hb dX2_countDegrees_31 rfl hl (by decide) rfl (fun ls hl => ?_)
          have L32 : ∀ (n_32 : Nat) (v2_32 : Int32) (p0w_32 : ST) (o32 : ST) (H : Heap) (locs : List Loc) (ls : Array Slot), (fX2_countDegrees_L32 p0n p0l v1_2 n_32) v2_32 p0w_32 = some o32 → va_P (dC, dI) cls (oX2 (p0a 0) p0a p0k p0n p0w_32 p0l) H → va_D A (oX2 (p0a 0) p0a p0k p0n p0w_32 p0l) → va_S A s.heap H locs → lv_has ls 5 [(0, .ref (p0a 0)), (1, .int v1_2), (2, .int v2_32)] → (∀ (H : Heap) (locs : List Loc) (ls : Array Slot), va_P (dC, dI) cls (oX2 (p0a 0) p0a p0k p0n o32 p0l) H → va_D A (oX2 (p0a 0) p0a p0k p0n o32 p0l) → va_S A s.heap H locs → lv_has ls 5 [(0, .ref (p0a 0)), (1, .int v1_2)] → W p l e ({ frames := 2, cells := 0, slots := 0, locals := 42 } : Room) s m ([.ref (p0a 0)] : List Value).toArray below meth c H locs 0 0 Q (F0 m 71 ls [])) → W p l e ({ frames := 2, cells := 0, slots := 0, locals := 42 } : Room) s m ([.ref (p0a 0)] : List Value).toArray below meth c H locs 0 0 Q (F0 m 32 ls []) := by
            intro n_32
            induction n_32 with
            | zero => intro v2_32 p0w_32 o32 H locs ls hrun; exact (no9 rfl hrun).elim
            | succ n_32 IH32 =>
              intro v2_32 p0w_32 o32 H locs ls hrun hP hD hS hl hk32
              unfold fX2_countDegrees_L32 at hrun
              refine lv_iload_n hx hb dX2_countDegrees_32 rfl (lv_at hl 2 rfl) ?_
              refine lv_aload_n hx hb dX2_countDegrees_33 rfl (lv_at hl 0 rfl) ?_
              refine va_get (D := (dC, dI)) (ci := 9) (v := .int (p0w_32 0 2)) (C := RX2) (T := TX2) (N := 19) hx hb hts i_X2 hown hK hP 0 rfl rfl 2 (by decide) (hts _ qw590) (fun _ h9 => h9) rfl dX2_countDegrees_34 ?_
              rcases br9 hrun with ⟨hc5, hrun⟩ | ⟨hc5, hrun⟩
              · refine lv_icmp_ge (tgt := 71) hx hb dX2_countDegrees_37 (by decide) (fun _ => ?_) (fun c => absurd hc5 c)
                obtain rfl := (Option.some.inj hrun)
                exact hk32 _ _ _ hP hD hS (lv_sub hl [0, 1] rfl)
              · refine lv_icmp_ge (tgt := 71) hx hb dX2_countDegrees_37 (by decide) (fun c => absurd c hc5) (fun _ => ?_)
                refine lv_aload_n hx hb dX2_countDegrees_40 rfl (lv_at hl 0 rfl) ?_
                refine va_get (D := (dC, dI)) (ci := 9) (v := .ref (p0a 13)) (C := RX2) (T := TX2) (N := 19) hx hb hts i_X2 hown hK hP 0 rfl rfl 12 (by decide) (hts _ qw596) (fun _ h9 => h9) rfl dX2_countDegrees_41 ?_
                refine lv_iload_n hx hb dX2_countDegrees_44 rfl (lv_at hl 1 rfl) ?_
                refine lv_dup2_11 hx hb dX2_countDegrees_45 rfl rfl ?_
                obtain ⟨hq6, hrun⟩ := chk9 hrun
                refine va_iald hx hb hK hP 9 8 rfl rfl (ixb_in hq6) dX2_countDegrees_46 ?_
                refine lv_aload_n hx hb dX2_countDegrees_47 rfl (lv_at hl 0 rfl) ?_
                refine va_get (D := (dC, dI)) (ci := 9) (v := .ref (p0a 11)) (C := RX2) (T := TX2) (N := 19) hx hb hts i_X2 hown hK hP 0 rfl rfl 10 (by decide) (hts _ qw589) (fun _ h9 => h9) rfl dX2_countDegrees_48 ?_
                refine lv_iload_n hx hb dX2_countDegrees_51 rfl (lv_at hl 1 rfl) ?_
                refine lv_aload_n hx hb dX2_countDegrees_52 rfl (lv_at hl 0 rfl) ?_
                refine va_get (D := (dC, dI)) (ci := 9) (v := .int (p0w_32 0 2)) (C := RX2) (T := TX2) (N := 19) hx hb hts i_X2 hown hK hP 0 rfl rfl 2 (by decide) (hts _ qw590) (fun _ h9 => h9) rfl dX2_countDegrees_53 ?_
                refine lv_imul hx hb dX2_countDegrees_56 ?_
                refine lv_iload_n hx hb dX2_countDegrees_57 rfl (lv_at hl 2 rfl) ?_
                refine lv_iadd hx hb dX2_countDegrees_58 ?_
                obtain ⟨hq7, hrun⟩ := chk9 hrun
                refine va_lald hx hb hK hP 7 6 rfl rfl (ixb_in hq7) dX2_countDegrees_59 ?_
                obtain ⟨o_8, hc_8, hrun⟩ := bnd9 hrun
                have hPc := hP.sub (ws' := ([] : va_W)) [] rfl
                have hDc := hD.sub (ws' := ([] : va_W)) [] (by decide) rfl
                have hKc := hK.sub (tys' := ([] : List (ClassId × FieldType))) [] rfl
                have hFc := va_free (wc := ([] : va_W)) hD hS hA [] rfl
                refine va_calli (va_runS (As := [.long (p0l 11 (nn ((v1_2 * (p0w_32 0 2)) + v2_32)))]) (rest := [.int (p0w_32 13 (nn v1_2)), .int v1_2, .ref (p0a 13)]) ⟨hx, hb, hml, hown, hts⟩ (kJ13_bitCount_95d88 l dC dI (p0 := (p0l 11 (nn ((v1_2 * (p0w_32 0 2)) + v2_32)))) (sz := _) (o := o_8) (hrun := hc_8)) (va_cwS 1 hts (gi_S qw684 qw602 qw603 (gi_z qw600)) rfl rfl rfl (by decide +kernel) ⟨Nat.le_of_ble_eq_true rfl, Nat.le_of_ble_eq_true rfl⟩) ⟨PRE.blind, PRE.of hE hS hFc hPc hKc hDc⟩ rfl rfl hl.1 rfl (lv_room (Nat.le_of_ble_eq_true rfl)) dX2_countDegrees_60 ⟨Nat.le_of_ble_eq_true rfl, Nat.le_of_ble_eq_true rfl⟩) hS (fun q _ h => hFc q h) hFc (fun r9 u t H locs ht hvm hw hB hz1 hk1 hS => ?_)
                obtain ⟨hP, hD, hK⟩ := JOIN (wr := (oX2 (p0a 0) p0a p0k p0n p0w_32 p0l)) hP hD hK [] [0, 1, 2, 3, 4, 5, 6, 7, 8, 9, 10, 11, 12, 13, 14, 15] [0, 1, 2, 3, 4, 5, 6, 7, 8, 9, 10, 11, 12, 13, 14] rfl rfl (by decide) (by decide) rfl hk1 hFc ht hvm hB
                have hP : va_P (dC, dI) cls (oX2 (p0a 0) p0a p0k p0n p0w_32 p0l) H := hP.sub [0, 1, 2, 3, 4, 5, 6, 7, 8, 9, 10, 11, 12, 13, 14, 15] rfl
                have hD : va_D A (oX2 (p0a 0) p0a p0k p0n p0w_32 p0l) := hD.sub [0, 1, 2, 3, 4, 5, 6, 7, 8, 9, 10, 11, 12, 13, 14, 15] (by decide) rfl
                have hK : va_K (dC, dI) cls (tX2 p0k) s := hK.sub [0, 1, 2, 3, 4, 5, 6, 7, 8, 9, 10, 11, 12, 13, 14] rfl
                obtain rfl : o_8 = r9 := hw.symm
                refine lv_iadd hx hb dX2_countDegrees_63 ?_
                obtain ⟨hq10, hrun⟩ := chk9 hrun
                refine va_iast hx hb hK hP hD hS 9 8 rfl rfl (ixb_in hq10) dX2_countDegrees_64 (fun H locs hP hD hS => ?_)
                have hP : va_P (dC, dI) cls (oX2 (p0a 0) p0a p0k p0n (upw p0w_32 13 (nn v1_2) ((p0w_32 13 (nn v1_2)) + o_8)) p0l) H := hP
                have hD : va_D A (oX2 (p0a 0) p0a p0k p0n (upw p0w_32 13 (nn v1_2) ((p0w_32 13 (nn v1_2)) + o_8)) p0l) := hD
                obtain ⟨w11, ew11, hrun⟩ := let9 hrun
                rw [← ew11] at hP hD
                refine lv_iinc (v := (v2_32 + 1)) (lv' := [(2, .int (v2_32 + 1)), (0, .ref (p0a 0)), (1, .int v1_2)]) hx hb dX2_countDegrees_65 hl (k := 2) rfl rfl (by decide) rfl (fun ls hl => ?_)
                refine lv_goto (tgt := 32) hx hb dX2_countDegrees_68 (by decide) ?_
                exact IH32 (v2_32 + 1) w11 o32 _ _ _ hrun hP hD hS (lv_sub hl [1, 2, 0] rfl) hk32
          obtain ⟨o32, hc32, hrun⟩ := bnd9 hrun
          refine L32 NF 0 w4 o32 _ _ _ hc32 hP hD hS (lv_sub hl [1, 2, 0] rfl) ?_
          intro H locs ls hP hD hS hl
          have hl := hl
          refine lv_iinc (v := (v1_2 + 1)) (lv' := [(1, .int (v1_2 + 1)), (0, .ref (p0a 0))]) hx hb dX2_countDegrees_71 hl (k := 1) rfl rfl (by decide) rfl (fun ls hl => ?_)
          refine lv_goto (tgt := 2) hx hb dX2_countDegrees_74 (by decide) ?_
          exact IH2 (v1_2 + 1) o32 o2 _ _ _ hrun hP hD hS (lv_sub hl [1, 0] rfl) hk2
        rcases br9 hrun with ⟨hc12, hrun⟩ | ⟨hc12, hrun⟩
        · refine lv_if_lt (tgt := 28) hx hb dX2_countDegrees_21 (by decide) (fun _ => ?_) (fun c => absurd hc12 c)
          refine lv_iconst (v := 0) hx hb dX2_countDegrees_28 (by decide) ?_
          exact J29 0 v1_2 _ _ _ hrun hP hD hS (lv_sub hl [0, 1] rfl)
        · refine lv_if_lt (tgt := 28) hx hb dX2_countDegrees_21 (by decide) (fun c => absurd c hc12) (fun _ => ?_)
          refine lv_iconst (v := 1) hx hb dX2_countDegrees_24 (by decide) ?_
          refine lv_goto (tgt := 29) hx hb dX2_countDegrees_25 (by decide) ?_
          exact J29 1 v1_2 _ _ _ hrun hP hD hS (lv_sub hl [0, 1] rfl)
  obtain ⟨o2, hc2, hrun⟩ := bnd9 hrun
  refine L2 NF 0 p0w o2 _ _ _ hc2 hP hD hS (lv_sub hl [1, 0] rfl) ?_
  intro H locs ls hP hD hS hl
  have hl := hl
  refine lv_aload_n hx hb dX2_countDegrees_77 rfl (lv_at hl 0 rfl) ?_
  refine va_get (D := (dC, dI)) (ci := 9) (v := .int (o2 0 0)) (C := RX2) (T := TX2) (N := 19) hx hb hts i_X2 hown hK hP 0 rfl rfl 0 (by decide) (hts _ qw588) (fun _ h9 => h9) rfl dX2_countDegrees_78 ?_
  refine lv_istore_n (lv' := [(1, .int (o2 0 0)), (0, .ref (p0a 0))]) hx hb dX2_countDegrees_81 rfl hl (by decide) rfl (fun ls hl => ?_)
  have L82 : ∀ (n_82 : Nat) (v1_82 : Int32) (p0w_82 : ST) (o82 : ST) (H : Heap) (locs : List Loc) (ls : Array Slot), (fX2_countDegrees_L82 p0n p0l n_82) v1_82 p0w_82 = some o82 → va_P (dC, dI) cls (oX2 (p0a 0) p0a p0k p0n p0w_82 p0l) H → va_D A (oX2 (p0a 0) p0a p0k p0n p0w_82 p0l) → va_S A s.heap H locs → lv_has ls 5 [(0, .ref (p0a 0)), (1, .int v1_82)] → (∀ (H : Heap) (locs : List Loc) (ls : Array Slot), va_P (dC, dI) cls (oX2 (p0a 0) p0a p0k p0n o82 p0l) H → va_D A (oX2 (p0a 0) p0a p0k p0n o82 p0l) → va_S A s.heap H locs → lv_has ls 5 [] → W p l e ({ frames := 2, cells := 0, slots := 0, locals := 42 } : Room) s m ([.ref (p0a 0)] : List Value).toArray below meth c H locs 0 0 Q (F0 m 159 ls [])) → W p l e ({ frames := 2, cells := 0, slots := 0, locals := 42 } : Room) s m ([.ref (p0a 0)] : List Value).toArray below meth c H locs 0 0 Q (F0 m 82 ls []) := by
    intro n_82
    induction n_82 with
    | zero => intro v1_82 p0w_82 o82 H locs ls hrun; exact (no9 rfl hrun).elim
    | succ n_82 IH82 =>
      intro v1_82 p0w_82 o82 H locs ls hrun hP hD hS hl hk82
      unfold fX2_countDegrees_L82 at hrun
      refine lv_iload_n hx hb dX2_countDegrees_82 rfl (lv_at hl 1 rfl) ?_
      refine lv_aload_n hx hb dX2_countDegrees_83 rfl (lv_at hl 0 rfl) ?_
      refine va_get (D := (dC, dI)) (ci := 9) (v := .int (p0w_82 0 1)) (C := RX2) (T := TX2) (N := 19) hx hb hts i_X2 hown hK hP 0 rfl rfl 1 (by decide) (hts _ qw606) (fun _ h9 => h9) rfl dX2_countDegrees_84 ?_
      rcases br9 hrun with ⟨hc13, hrun⟩ | ⟨hc13, hrun⟩
      · refine lv_icmp_ge (tgt := 159) hx hb dX2_countDegrees_87 (by decide) (fun _ => ?_) (fun c => absurd hc13 c)
        obtain rfl := (Option.some.inj hrun)
        exact hk82 _ _ _ hP hD hS (lv_sub hl [] rfl)
      · refine lv_icmp_ge (tgt := 159) hx hb dX2_countDegrees_87 (by decide) (fun c => absurd c hc13) (fun _ => ?_)
        refine lv_iconst (v := 0) hx hb dX2_countDegrees_90 (by decide) ?_
        refine lv_istore_n (lv' := [(2, .int 0), (0, .ref (p0a 0)), (1, .int v1_82)]) hx hb dX2_countDegrees_91 rfl hl (by decide) rfl (fun ls hl => ?_)
        have L92 : ∀ (n_92 : Nat) (v2_92 : Int32) (p0w_92 : ST) (o92 : ST) (H : Heap) (locs : List Loc) (ls : Array Slot), (fX2_countDegrees_L92 p0n p0l v1_82 n_92) v2_92 p0w_92 = some o92 → va_P (dC, dI) cls (oX2 (p0a 0) p0a p0k p0n p0w_92 p0l) H → va_D A (oX2 (p0a 0) p0a p0k p0n p0w_92 p0l) → va_S A s.heap H locs → lv_has ls 5 [(0, .ref (p0a 0)), (1, .int v1_82), (2, .int v2_92)] → (∀ (H : Heap) (locs : List Loc) (ls : Array Slot), va_P (dC, dI) cls (oX2 (p0a 0) p0a p0k p0n o92 p0l) H → va_D A (oX2 (p0a 0) p0a p0k p0n o92 p0l) → va_S A s.heap H locs → lv_has ls 5 [(0, .ref (p0a 0)), (1, .int v1_82)] → W p l e ({ frames := 2, cells := 0, slots := 0, locals := 42 } : Room) s m ([.ref (p0a 0)] : List Value).toArray below meth c H locs 0 0 Q (F0 m 153 ls [])) → W p l e ({ frames := 2, cells := 0, slots := 0, locals := 42 } : Room) s m ([.ref (p0a 0)] : List Value).toArray below meth c H locs 0 0 Q (F0 m 92 ls []) := by
          intro n_92
          induction n_92 with
          | zero => intro v2_92 p0w_92 o92 H locs ls hrun; exact (no9 rfl hrun).elim
          | succ n_92 IH92 =>
            intro v2_92 p0w_92 o92 H locs ls hrun hP hD hS hl hk92
            unfold fX2_countDegrees_L92 at hrun
            refine lv_iload_n hx hb dX2_countDegrees_92 rfl (lv_at hl 2 rfl) ?_
            refine lv_aload_n hx hb dX2_countDegrees_93 rfl (lv_at hl 0 rfl) ?_
            refine va_get (D := (dC, dI)) (ci := 9) (v := .int (p0w_92 0 2)) (C := RX2) (T := TX2) (N := 19) hx hb hts i_X2 hown hK hP 0 rfl rfl 2 (by decide) (hts _ qw590) (fun _ h9 => h9) rfl dX2_countDegrees_94 ?_
            rcases br9 hrun with ⟨hc14, hrun⟩ | ⟨hc14, hrun⟩
            · refine lv_icmp_ge (tgt := 153) hx hb dX2_countDegrees_97 (by decide) (fun _ => ?_) (fun c => absurd hc14 c)
              obtain rfl := (Option.some.inj hrun)
              exact hk92 _ _ _ hP hD hS (lv_sub hl [0, 1] rfl)
            · refine lv_icmp_ge (tgt := 153) hx hb dX2_countDegrees_97 (by decide) (fun c => absurd c hc14) (fun _ => ?_)
              refine lv_aload_n hx hb dX2_countDegrees_100 rfl (lv_at hl 0 rfl) ?_
              refine va_get (D := (dC, dI)) (ci := 9) (v := .ref (p0a 11)) (C := RX2) (T := TX2) (N := 19) hx hb hts i_X2 hown hK hP 0 rfl rfl 10 (by decide) (hts _ qw589) (fun _ h9 => h9) rfl dX2_countDegrees_101 ?_
              refine lv_iload_n hx hb dX2_countDegrees_104 rfl (lv_at hl 1 rfl) ?_
              refine lv_aload_n hx hb dX2_countDegrees_105 rfl (lv_at hl 0 rfl) ?_
              refine va_get (D := (dC, dI)) (ci := 9) (v := .int (p0w_92 0 2)) (C := RX2) (T := TX2) (N := 19) hx hb hts i_X2 hown hK hP 0 rfl rfl 2 (by decide) (hts _ qw590) (fun _ h9 => h9) rfl dX2_countDegrees_106 ?_
              refine lv_imul hx hb dX2_countDegrees_109 ?_
              refine lv_iload_n hx hb dX2_countDegrees_110 rfl (lv_at hl 2 rfl) ?_
              refine lv_iadd hx hb dX2_countDegrees_111 ?_
              obtain ⟨hq15, hrun⟩ := chk9 hrun
              refine va_lald hx hb hK hP 7 6 rfl rfl (ixb_in hq15) dX2_countDegrees_112 ?_
              refine lv_lstore_n (lv' := [(3, .long (p0l 11 (nn ((v1_82 * (p0w_92 0 2)) + v2_92)))), (0, .ref (p0a 0)), (1, .int v1_82), (2, .int v2_92)]) hx hb dX2_countDegrees_113 rfl hl (by decide) rfl (fun ls hl => ?_)
              have L114 : ∀ (n_114 : Nat) (v3_114 : Int64) (p0w_114 : ST) (o114 : ST) (H : Heap) (locs : List Loc) (ls : Array Slot), (fX2_countDegrees_L114 p0n v2_92 n_114) v3_114 p0w_114 = some o114 → va_P (dC, dI) cls (oX2 (p0a 0) p0a p0k p0n p0w_114 p0l) H → va_D A (oX2 (p0a 0) p0a p0k p0n p0w_114 p0l) → va_S A s.heap H locs → lv_has ls 5 [(0, .ref (p0a 0)), (1, .int v1_82), (2, .int v2_92), (3, .long v3_114)] → (∀ (H : Heap) (locs : List Loc) (ls : Array Slot), va_P (dC, dI) cls (oX2 (p0a 0) p0a p0k p0n o114 p0l) H → va_D A (oX2 (p0a 0) p0a p0k p0n o114 p0l) → va_S A s.heap H locs → lv_has ls 5 [(0, .ref (p0a 0)), (1, .int v1_82), (2, .int v2_92)] → W p l e ({ frames := 2, cells := 0, slots := 0, locals := 42 } : Room) s m ([.ref (p0a 0)] : List Value).toArray below meth c H locs 0 0 Q (F0 m 147 ls [])) → W p l e ({ frames := 2, cells := 0, slots := 0, locals := 42 } : Room) s m ([.ref (p0a 0)] : List Value).toArray below meth c H locs 0 0 Q (F0 m 114 ls []) := by
                intro n_114
                induction n_114 with
                | zero => intro v3_114 p0w_114 o114 H locs ls hrun; exact (no9 rfl hrun).elim
                | succ n_114 IH114 =>
                  intro v3_114 p0w_114 o114 H locs ls hrun hP hD hS hl hk114
                  unfold fX2_countDegrees_L114 at hrun
                  refine lv_lload_n hx hb dX2_countDegrees_114 rfl (lv_at hl 3 rfl) ?_
                  refine lv_lconst (v := 0) hx hb dX2_countDegrees_115 (by decide) ?_
                  refine W.lcmp hx hb dX2_countDegrees_116 ?_
                  rcases br9 hrun with ⟨hc16, hrun⟩ | ⟨hc16, hrun⟩
                  · refine lv_if_eq (tgt := 147) hx hb dX2_countDegrees_117 (by decide) (fun _ => ?_) (fun c => absurd hc16 c)
                    obtain rfl := (Option.some.inj hrun)
                    exact hk114 _ _ _ hP hD hS (lv_sub hl [0, 1, 2] rfl)
                  · refine lv_if_eq (tgt := 147) hx hb dX2_countDegrees_117 (by decide) (fun c => absurd c hc16) (fun _ => ?_)
                    refine lv_aload_n hx hb dX2_countDegrees_120 rfl (lv_at hl 0 rfl) ?_
                    refine va_get (D := (dC, dI)) (ci := 9) (v := .ref (p0a 13)) (C := RX2) (T := TX2) (N := 19) hx hb hts i_X2 hown hK hP 0 rfl rfl 12 (by decide) (hts _ qw596) (fun _ h9 => h9) rfl dX2_countDegrees_121 ?_
                    refine lv_iload_n hx hb dX2_countDegrees_124 rfl (lv_at hl 2 rfl) ?_
                    refine lv_bipush (v := 64) hx hb dX2_countDegrees_125 (by decide) ?_
                    refine lv_imul hx hb dX2_countDegrees_127 ?_
                    refine lv_lload_n hx hb dX2_countDegrees_128 rfl (lv_at hl 3 rfl) ?_
                    obtain ⟨o_17, hc_17, hrun⟩ := bnd9 hrun
                    have hPc := hP.sub (ws' := ([] : va_W)) [] rfl
                    have hDc := hD.sub (ws' := ([] : va_W)) [] (by decide) rfl
                    have hKc := hK.sub (tys' := ([] : List (ClassId × FieldType))) [] rfl
                    have hFc := va_free (wc := ([] : va_W)) hD hS hA [] rfl
                    refine va_calli (va_runSN (As := [.long v3_114]) (rest := [.int (v2_92 * 64), .ref (p0a 13)]) ⟨hx, hb, hml, hown, hts⟩ (kX11_lowest l dC dI (p0 := v3_114) (sz := _) (o := o_17) (hrun := hc_17)) ⟨(va_cnB 1 hts (gi_z qw604) rfl rfl rfl (hE.nw (List.mem_append_right _ (tbl_9 (i := 34) rfl)) rfl) (hts _ qw159) (by decide +kernel) ⟨Nat.le_of_ble_eq_true rfl, Nat.le_of_ble_eq_true rfl⟩), (hts _ qw605), trivial⟩ ⟨PRE.blind, PRE.of hE hS hFc hPc hKc hDc⟩ rfl rfl hl.1 rfl (lv_room (Nat.le_of_ble_eq_true rfl)) dX2_countDegrees_129 ⟨Nat.le_of_ble_eq_true rfl, Nat.le_of_ble_eq_true rfl⟩) hS (fun q _ h => hFc q h) hFc (fun r18 u t H locs ht hvm hw hB hz1 hk1 hS => ?_)
                    obtain ⟨hP, hD, hK⟩ := JOIN (wr := (oX2 (p0a 0) p0a p0k p0n p0w_114 p0l)) hP hD hK [] [0, 1, 2, 3, 4, 5, 6, 7, 8, 9, 10, 11, 12, 13, 14, 15] [0, 1, 2, 3, 4, 5, 6, 7, 8, 9, 10, 11, 12, 13, 14] rfl rfl (by decide) (by decide) rfl hk1 hFc ht hvm hB
                    have hP : va_P (dC, dI) cls (oX2 (p0a 0) p0a p0k p0n p0w_114 p0l) H := hP.sub [0, 1, 2, 3, 4, 5, 6, 7, 8, 9, 10, 11, 12, 13, 14, 15] rfl
                    have hD : va_D A (oX2 (p0a 0) p0a p0k p0n p0w_114 p0l) := hD.sub [0, 1, 2, 3, 4, 5, 6, 7, 8, 9, 10, 11, 12, 13, 14, 15] (by decide) rfl
                    have hK : va_K (dC, dI) cls (tX2 p0k) s := hK.sub [0, 1, 2, 3, 4, 5, 6, 7, 8, 9, 10, 11, 12, 13, 14] rfl
                    obtain rfl : o_17 = r18 := hw.symm
                    refine lv_iadd hx hb dX2_countDegrees_132 ?_
                    refine lv_dup2_11 hx hb dX2_countDegrees_133 rfl rfl ?_
                    obtain ⟨hq19, hrun⟩ := chk9 hrun
                    refine va_iald hx hb hK hP 9 8 rfl rfl (ixb_in hq19) dX2_countDegrees_134 ?_
                    refine lv_iconst (v := 1) hx hb dX2_countDegrees_135 (by decide) ?_
                    refine lv_iadd hx hb dX2_countDegrees_136 ?_
                    obtain ⟨hq20, hrun⟩ := chk9 hrun
                    refine va_iast hx hb hK hP hD hS 9 8 rfl rfl (ixb_in hq20) dX2_countDegrees_137 (fun H locs hP hD hS => ?_)
                    have hP : va_P (dC, dI) cls (oX2 (p0a 0) p0a p0k p0n (upw p0w_114 13 (nn ((v2_92 * 64) + o_17)) ((p0w_114 13 (nn ((v2_92 * 64) + o_17))) + 1)) p0l) H := hP
                    have hD : va_D A (oX2 (p0a 0) p0a p0k p0n (upw p0w_114 13 (nn ((v2_92 * 64) + o_17)) ((p0w_114 13 (nn ((v2_92 * 64) + o_17))) + 1)) p0l) := hD
                    obtain ⟨w21, ew21, hrun⟩ := let9 hrun
                    rw [← ew21] at hP hD
                    refine lv_lload_n hx hb dX2_countDegrees_138 rfl (lv_at hl 3 rfl) ?_
                    refine lv_lload_n hx hb dX2_countDegrees_139 rfl (lv_at hl 3 rfl) ?_
                    refine lv_lconst (v := 1) hx hb dX2_countDegrees_140 (by decide) ?_
                    refine lv_lsub hx hb dX2_countDegrees_141 ?_
                    refine lv_land hx hb dX2_countDegrees_142 ?_
                    refine lv_lstore_n (lv' := [(3, .long (v3_114 &&& (v3_114 - (1 : Int64)))), (0, .ref (p0a 0)), (1, .int v1_82), (2, .int v2_92)]) hx hb dX2_countDegrees_143 rfl hl (by decide) rfl (fun ls hl => ?_)
                    refine lv_goto (tgt := 114) hx hb dX2_countDegrees_144 (by decide) ?_
                    exact IH114 (v3_114 &&& (v3_114 - (1 : Int64))) w21 o114 _ _ _ hrun hP hD hS (lv_sub hl [1, 2, 3, 0] rfl) hk114
              obtain ⟨o114, hc114, hrun⟩ := bnd9 hrun
              refine L114 NF (p0l 11 (nn ((v1_82 * (p0w_92 0 2)) + v2_92))) p0w_92 o114 _ _ _ hc114 hP hD hS (lv_sub hl [1, 2, 3, 0] rfl) ?_
              intro H locs ls hP hD hS hl
              have hl := hl
              refine lv_iinc (v := (v2_92 + 1)) (lv' := [(2, .int (v2_92 + 1)), (0, .ref (p0a 0)), (1, .int v1_82)]) hx hb dX2_countDegrees_147 hl (k := 2) rfl rfl (by decide) rfl (fun ls hl => ?_)
              refine lv_goto (tgt := 92) hx hb dX2_countDegrees_150 (by decide) ?_
              exact IH92 (v2_92 + 1) o114 o92 _ _ _ hrun hP hD hS (lv_sub hl [1, 2, 0] rfl) hk92
        obtain ⟨o92, hc92, hrun⟩ := bnd9 hrun
        refine L92 NF 0 p0w_82 o92 _ _ _ hc92 hP hD hS (lv_sub hl [1, 2, 0] rfl) ?_
        intro H locs ls hP hD hS hl
        have hl := hl
        refine lv_iinc (v := (v1_82 + 1)) (lv' := [(1, .int (v1_82 + 1)), (0, .ref (p0a 0))]) hx hb dX2_countDegrees_153 hl (k := 1) rfl rfl (by decide) rfl (fun ls hl => ?_)
        refine lv_goto (tgt := 82) hx hb dX2_countDegrees_156 (by decide) ?_
        exact IH82 (v1_82 + 1) o92 o82 _ _ _ hrun hP hD hS (lv_sub hl [1, 0] rfl) hk82
  obtain ⟨o82, hc82, hrun⟩ := bnd9 hrun
  refine L82 NF (o2 0 0) o2 o82 _ _ _ hc82 hP hD hS (lv_sub hl [1, 0] rfl) ?_
  intro H locs ls hP hD hS hl
  have hl := hl
  have ho9 : o82 = o := Option.some.inj hrun
  have hP9 : va_P (dC, dI) cls (oX2 (p0a 0) p0a p0k p0n o p0l) H := by first | exact hP | (rw [← ho9]; exact hP)
  have hD9 : va_D A (oX2 (p0a 0) p0a p0k p0n o p0l) := by first | exact hD | (rw [← ho9]; exact hD)
  subst hQ
  exact W.vret hx hb hr (fun t ht hW => ⟨⟨(), rfl, trivial, ⟨by rw [ht]; exact hP9, va_K.moved hW.alike hK, hD9⟩⟩, hS.F ht⟩) hS.2.2 dX2_countDegrees_159
def fX2_meet_L2 (p0n : Nat → Nat) (p0w : ST) (p1 : Int32) (p2 : Int32) : Nat → Int32 → SL → Option SL
  | 0 => fun _ _ => none
  | n_2 + 1 => fun v3_2 p0l_2 => (if (p0w 0 2) ≤ v3_2 then some p0l_2 else (if ixb ((p1 * (p0w 0 2)) + v3_2) (p0n 11) = true then (if ixb v3_2 (p0n 7) = true then ((fX2_bitIn p0w v3_2 p1).bind fun (o_4 : Int64) => ((fX2_bitIn p0w v3_2 p2).bind fun (o_6 : Int64) => (if ixb ((p1 * (p0w 0 2)) + v3_2) (p0n 11) = true then (lt9 (upl p0l_2 11 (nn ((p1 * (p0w 0 2)) + v3_2)) ((p0l_2 11 (nn ((p1 * (p0w 0 2)) + v3_2))) ||| (((p0l_2 7 (nn v3_2)) &&& (o_4 ^^^ ((-1) : Int64))) &&& (o_6 ^^^ ((-1) : Int64))))) fun (l9 : SL) => ((fX2_meet_L2 p0n p0w p1 p2 n_2) (v3_2 + 1) l9)) else none))) else none) else none))
def fX2_meet_J128 (kk62 : Int32 → ST → SL → Option (ST × SL)) (v3_62 : Int32) (p0w_128 : ST) (p0l_128 : SL) : Option (ST × SL) := (kk62 (v3_62 + 1) p0w_128 p0l_128)
def fX2_meet_L62 (p0n : Nat → Nat) (p1 : Int32) (p2 : Int32) : Nat → Int32 → ST → SL → Option (ST × SL)
  | 0 => fun _ _ _ => none
  | n_62 + 1 => fun v3_62 p0w_62 p0l_62 => (if (p0w_62 0 8) ≤ v3_62 then some (p0w_62, p0l_62) else (if ixb v3_62 2 = true then (if (p0w_62 8 (nn v3_62)) = p1 then (fX2_meet_J128 (fX2_meet_L62 p0n p1 p2 n_62) v3_62 p0w_62 p0l_62) else (if (p0w_62 8 (nn v3_62)) = p2 then (fX2_meet_J128 (fX2_meet_L62 p0n p1 p2 n_62) v3_62 p0w_62 p0l_62) else (if (p0w_62 0 0) ≤ p1 then (if ixb p1 (p0n 12) = true then (lt9 (upw p0w_62 12 (nn p1) (p0w_62 8 (nn v3_62))) fun (w16 : ST) => (if ixb (p0w_62 8 (nn v3_62)) (p0n 12) = true then (lt9 (upw w16 12 (nn (p0w_62 8 (nn v3_62))) p1) fun (w18 : ST) => (fX2_meet_J128 (fX2_meet_L62 p0n p1 p2 n_62) v3_62 w18 p0l_62)) else none)) else none) else ((fX2_put p0w_62 (p0n 11) (p0l_62 11) (p0w_62 8 (nn v3_62)) p1).bind fun (o_19 : RL) => (fX2_meet_J128 (fX2_meet_L62 p0n p1 p2 n_62) v3_62 p0w_62 (srl p0l_62 11 o_19)))))) else none))
def fX2_meet (p0n : Nat → Nat) (p0w : ST) (p0l : SL) (p1 : Int32) (p2 : Int32) : Option (ST × SL) := ((fX2_meet_L2 p0n p0w p1 p2 NF 0 p0l).bind fun (o2 : SL) => ((fX2_meet_L62 p0n p1 p2 NF 0 p0w o2).bind fun (o62 : ST × SL) => some ((o62.1), (o62.2))))
set_option maxHeartbeats 16000000 in
set_option maxRecDepth 100000 in
theorem kX2_meet {zs : Nat × Nat} (l : Launch) (dC : Nat → ClassId) (dI : Nat → Nat → Nat) (p0a : Nat → Nat) (p0k : Nat → ClassId) (p0n : Nat → Nat) (p0w : ST) (p0l : SL) (p1 : Int32) (p2 : Int32) (sz : Nat) (o : ST × SL) (hrun : fX2_meet p0n p0w p0l p1 p2 = some o) : Met l yX2_meet (wz yX2_meet cX2_meet 5 (Option.none : Option Jvm.ClassFile.FieldType)) ({ frames := 1, cells := 0, slots := 0, locals := 23 } : Room) (va_Pc [.ref (p0a 0), .int p1, .int p2] (PRE zs dC dI (oX2 (p0a 0) p0a p0k p0n p0w p0l) (tX2 p0k) sz)) (va_Qv (fun (_ : Unit) => True) (fun _ t => POST dC dI (oX2 (p0a 0) p0a p0k p0n (o.1) (o.2)) (tX2 p0k) (va_A (oX2 (p0a 0) p0a p0k p0n p0w p0l) sz) t) (va_A (oX2 (p0a 0) p0a p0k p0n p0w p0l) sz)) 0 0 (va_A (oX2 (p0a 0) p0a p0k p0n p0w p0l) sz) := by
  refine Met.ofW (cc := cX2_meet) (maxL := 5) (ret := (Option.none : Option Jvm.ClassFile.FieldType)) (by decide) rfl ?_
  intro p e s m args below meth c s₁ B hml hv
  obtain ⟨rfl, hsz, hP, hK, hD0, hE⟩ := hv
  have hx := B.exec
  have hb := B.bytes
  have hr := B.returns
  have hts0 := atoms_spec (ws := wz yX2_meet cX2_meet 5 (Option.none : Option Jvm.ClassFile.FieldType)) B.pre
  have hts : ∀ w ∈ gw, w.before _ s = true := fun w h => hts0 w (List.mem_cons_of_mem _ h)
  have hown : s.vm.findClass RX2 = some m.cls := findClass_of_methodNamed B.named
  have hlocks := B.notSynchronized
  subst hsz
  have hD := hD0.self (sz := s.heap.size)
  refine gQ9 ?_
  intro Q hQ
  generalize hAe : va_A (oX2 (p0a 0) p0a p0k p0n p0w p0l) s.heap.size = A at hD hE hQ
  have hA : ∀ q : Nat, s.heap.size ≤ q → A q := fun q h => by rw [← hAe]; exact Or.inr h
  have hS : va_S A s.heap s.heap [] := va_S.rf
  have hP : va_P (dC, dI) cls (oX2 (p0a 0) p0a p0k p0n p0w p0l) s.heap := hP
  have hl := lv_entry ([.ref (p0a 0), .int p1, .int p2]) (n := 5) (Nat.le_of_ble_eq_true rfl)
  rw [lg_entry_eq]
  generalize (lg_sl ([.ref (p0a 0), .int p1, .int p2]) ++ List.replicate (5 - (lg_sl ([.ref (p0a 0), .int p1, .int p2])).length) Slot.unset).toArray = ls at hl ⊢
  have hl : lv_has ls 5 [(0, .ref (p0a 0)), (1, .int p1), (2, .int p2)] := hl
  obtain ⟨H, hHe⟩ : ∃ H, H = s.heap := ⟨_, rfl⟩
  obtain ⟨locs, hle⟩ : ∃ locs : List Loc, locs = [] := ⟨_, rfl⟩
  rw [← hHe] at hP
  have hS : va_S A s.heap H locs := by rw [hHe, hle]; exact hS
  show W p l e ({ frames := 1, cells := 0, slots := 0, locals := 23 } : Room) s m ([.ref (p0a 0), .int p1, .int p2] : List Value).toArray below meth c s.heap [] 0 0 Q (F0 m 0 ls [])
  rw [← hle]
  refine wH9 hHe ?_
  unfold fX2_meet at hrun
  refine lv_iconst (v := 0) hx hb dX2_meet_0 (by decide) ?_
  refine lv_istore_n (lv' := [(3, .int 0), (0, .ref (p0a 0)), (1, .int p1), (2, .int p2)]) hx hb dX2_meet_1 rfl hl (by decide) rfl (fun ls hl => ?_)
  have L2 : ∀ (n_2 : Nat) (v3_2 : Int32) (p0l_2 : SL) (o2 : SL) (H : Heap) (locs : List Loc) (ls : Array Slot), (fX2_meet_L2 p0n p0w p1 p2 n_2) v3_2 p0l_2 = some o2 → va_P (dC, dI) cls (oX2 (p0a 0) p0a p0k p0n p0w p0l_2) H → va_D A (oX2 (p0a 0) p0a p0k p0n p0w p0l_2) → va_S A s.heap H locs → lv_has ls 5 [(0, .ref (p0a 0)), (1, .int p1), (2, .int p2), (3, .int v3_2)] → (∀ (H : Heap) (locs : List Loc) (ls : Array Slot), va_P (dC, dI) cls (oX2 (p0a 0) p0a p0k p0n p0w o2) H → va_D A (oX2 (p0a 0) p0a p0k p0n p0w o2) → va_S A s.heap H locs → lv_has ls 5 [(0, .ref (p0a 0)), (1, .int p1), (2, .int p2)] → W p l e ({ frames := 1, cells := 0, slots := 0, locals := 23 } : Room) s m ([.ref (p0a 0), .int p1, .int p2] : List Value).toArray below meth c H locs 0 0 Q (F0 m 60 ls [])) → W p l e ({ frames := 1, cells := 0, slots := 0, locals := 23 } : Room) s m ([.ref (p0a 0), .int p1, .int p2] : List Value).toArray below meth c H locs 0 0 Q (F0 m 2 ls []) := by
    intro n_2
    induction n_2 with
    | zero => intro v3_2 p0l_2 o2 H locs ls hrun; exact (no9 rfl hrun).elim
    | succ n_2 IH2 =>
      intro v3_2 p0l_2 o2 H locs ls hrun hP hD hS hl hk2
      unfold fX2_meet_L2 at hrun
      refine lv_iload_n hx hb dX2_meet_2 rfl (lv_at hl 3 rfl) ?_
      refine lv_aload_n hx hb dX2_meet_3 rfl (lv_at hl 0 rfl) ?_
      refine va_get (D := (dC, dI)) (ci := 9) (v := .int (p0w 0 2)) (C := RX2) (T := TX2) (N := 19) hx hb hts i_X2 hown hK hP 0 rfl rfl 2 (by decide) (hts _ qw590) (fun _ h9 => h9) rfl dX2_meet_4 ?_
      rcases br9 hrun with ⟨hc1, hrun⟩ | ⟨hc1, hrun⟩
      · refine lv_icmp_ge (tgt := 60) hx hb dX2_meet_7 (by decide) (fun _ => ?_) (fun c => absurd hc1 c)
        obtain rfl := (Option.some.inj hrun)
        exact hk2 _ _ _ hP hD hS (lv_sub hl [0, 1, 2] rfl)
      · refine lv_icmp_ge (tgt := 60) hx hb dX2_meet_7 (by decide) (fun c => absurd c hc1) (fun _ => ?_)
        refine lv_aload_n hx hb dX2_meet_10 rfl (lv_at hl 0 rfl) ?_
        refine va_get (D := (dC, dI)) (ci := 9) (v := .ref (p0a 11)) (C := RX2) (T := TX2) (N := 19) hx hb hts i_X2 hown hK hP 0 rfl rfl 10 (by decide) (hts _ qw589) (fun _ h9 => h9) rfl dX2_meet_11 ?_
        refine lv_iload_n hx hb dX2_meet_14 rfl (lv_at hl 1 rfl) ?_
        refine lv_aload_n hx hb dX2_meet_15 rfl (lv_at hl 0 rfl) ?_
        refine va_get (D := (dC, dI)) (ci := 9) (v := .int (p0w 0 2)) (C := RX2) (T := TX2) (N := 19) hx hb hts i_X2 hown hK hP 0 rfl rfl 2 (by decide) (hts _ qw590) (fun _ h9 => h9) rfl dX2_meet_16 ?_
        refine lv_imul hx hb dX2_meet_19 ?_
        refine lv_iload_n hx hb dX2_meet_20 rfl (lv_at hl 3 rfl) ?_
        refine lv_iadd hx hb dX2_meet_21 ?_
        refine lv_dup2_11 hx hb dX2_meet_22 rfl rfl ?_
        obtain ⟨hq2, hrun⟩ := chk9 hrun
        refine va_lald hx hb hK hP 7 6 rfl rfl (ixb_in hq2) dX2_meet_23 ?_
        refine lv_aload_n hx hb dX2_meet_24 rfl (lv_at hl 0 rfl) ?_
        refine va_get (D := (dC, dI)) (ci := 9) (v := .ref (p0a 7)) (C := RX2) (T := TX2) (N := 19) hx hb hts i_X2 hown hK hP 0 rfl rfl 6 (by decide) (hts _ qw632) (fun _ h9 => h9) rfl dX2_meet_25 ?_
        refine lv_iload_n hx hb dX2_meet_28 rfl (lv_at hl 3 rfl) ?_
        obtain ⟨hq3, hrun⟩ := chk9 hrun
        refine va_lald hx hb hK hP 4 3 rfl rfl (ixb_in hq3) dX2_meet_29 ?_
        refine lv_aload_n hx hb dX2_meet_30 rfl (lv_at hl 0 rfl) ?_
        refine lv_iload_n hx hb dX2_meet_31 rfl (lv_at hl 3 rfl) ?_
        refine lv_iload_n hx hb dX2_meet_32 rfl (lv_at hl 1 rfl) ?_
        obtain ⟨o_4, hc_4, hrun⟩ := bnd9 hrun
        have hPc := hP.sub (ws' := (oX2 (p0a 0) p0a p0k p0n p0w p0l_2)) [0, 1, 2, 3, 4, 5, 6, 7, 8, 9, 10, 11, 12, 13, 14, 15] rfl
        have hDc := hD.sub (ws' := (oX2 (p0a 0) p0a p0k p0n p0w p0l_2)) [0, 1, 2, 3, 4, 5, 6, 7, 8, 9, 10, 11, 12, 13, 14, 15] (by decide) rfl
        have hKc := hK.sub (tys' := (tX2 p0k)) [0, 1, 2, 3, 4, 5, 6, 7, 8, 9, 10, 11, 12, 13, 14] rfl
        have hFc := va_free (wc := (oX2 (p0a 0) p0a p0k p0n p0w p0l_2)) hD hS hA [0, 1, 2, 3, 4, 5, 6, 7, 8, 9, 10, 11, 12, 13, 14, 15] rfl
        refine va_calll (va_runV (As := [.int v3_2, .int p1]) (rest := [.long (p0l_2 7 (nn v3_2)), .long (p0l_2 11 (nn ((p1 * (p0w 0 2)) + v3_2))), .int ((p1 * (p0w 0 2)) + v3_2), .ref (p0a 11)]) ⟨hx, hb, hml, hown, hts⟩ (kX2_bitIn l dC dI (p0a := (st0 (p0a 0) p0a)) (p0k := p0k) (p0n := p0n) (p0w := p0w) (p0l := p0l_2) (p1 := v3_2) (p2 := p1) (sz := _) (o := o_4) (hrun := hc_4)) (cwV 2 hts (gi_V qw688 qw689 qw690 qw595 (gi_z qw687)) rfl rfl rfl (by decide +kernel) ⟨Nat.le_of_ble_eq_true rfl, Nat.le_of_ble_eq_true rfl⟩) ⟨PRE.blind, va_recv hKc hPc (ci := 9) (q0 := 0) rfl rfl, PRE.of hE hS hFc hPc hKc hDc⟩ rfl rfl hl.1 rfl (lv_room (Nat.le_of_ble_eq_true rfl)) dX2_meet_33 ⟨Nat.le_of_ble_eq_true rfl, Nat.le_of_ble_eq_true rfl⟩) hS (fun q _ h => hFc q h) hFc (fun r5 u t H locs ht hvm hw hB hz1 hk1 hS => ?_)
        obtain ⟨hP, hD, hK⟩ := JOIN (wr := ([] : va_W)) hP hD hK [0, 1, 2, 3, 4, 5, 6, 7, 8, 9, 10, 11, 12, 13, 14, 15] [] [] rfl rfl (by decide) (by decide) rfl hk1 hFc ht hvm hB
        have hP : va_P (dC, dI) cls (oX2 (p0a 0) p0a p0k p0n p0w p0l_2) H := hP.sub [0, 1, 2, 3, 4, 5, 6, 7, 8, 9, 10, 11, 12, 13, 14, 15] rfl
        have hD : va_D A (oX2 (p0a 0) p0a p0k p0n p0w p0l_2) := hD.sub [0, 1, 2, 3, 4, 5, 6, 7, 8, 9, 10, 11, 12, 13, 14, 15] (by decide) rfl
        have hK : va_K (dC, dI) cls (tX2 p0k) s := hK.sub [0, 1, 2, 3, 4, 5, 6, 7, 8, 9, 10, 11, 12, 13, 14] rfl
        obtain rfl : o_4 = r5 := hw.symm
        refine lv_ldc2 (v := (-1)) hx hb hown (hts _ qw691) dX2_meet_36 ?_
        refine lv_lxor hx hb dX2_meet_39 ?_
        refine lv_land hx hb dX2_meet_40 ?_
        refine lv_aload_n hx hb dX2_meet_41 rfl (lv_at hl 0 rfl) ?_
        refine lv_iload_n hx hb dX2_meet_42 rfl (lv_at hl 3 rfl) ?_
        refine lv_iload_n hx hb dX2_meet_43 rfl (lv_at hl 2 rfl) ?_
        obtain ⟨o_6, hc_6, hrun⟩ := bnd9 hrun
        have hPc := hP.sub (ws' := (oX2 (p0a 0) p0a p0k p0n p0w p0l_2)) [0, 1, 2, 3, 4, 5, 6, 7, 8, 9, 10, 11, 12, 13, 14, 15] rfl
        have hDc := hD.sub (ws' := (oX2 (p0a 0) p0a p0k p0n p0w p0l_2)) [0, 1, 2, 3, 4, 5, 6, 7, 8, 9, 10, 11, 12, 13, 14, 15] (by decide) rfl
        have hKc := hK.sub (tys' := (tX2 p0k)) [0, 1, 2, 3, 4, 5, 6, 7, 8, 9, 10, 11, 12, 13, 14] rfl
        have hFc := va_free (wc := (oX2 (p0a 0) p0a p0k p0n p0w p0l_2)) hD hS hA [0, 1, 2, 3, 4, 5, 6, 7, 8, 9, 10, 11, 12, 13, 14, 15] rfl
        refine va_calll (va_runV (As := [.int v3_2, .int p2]) (rest := [.long ((p0l_2 7 (nn v3_2)) &&& (o_4 ^^^ ((-1) : Int64))), .long (p0l_2 11 (nn ((p1 * (p0w 0 2)) + v3_2))), .int ((p1 * (p0w 0 2)) + v3_2), .ref (p0a 11)]) ⟨hx, hb, hml, hown, hts⟩ (kX2_bitIn l dC dI (p0a := (st0 (p0a 0) p0a)) (p0k := p0k) (p0n := p0n) (p0w := p0w) (p0l := p0l_2) (p1 := v3_2) (p2 := p2) (sz := _) (o := o_6) (hrun := hc_6)) (cwV 2 hts (gi_V qw688 qw689 qw690 qw595 (gi_z qw687)) rfl rfl rfl (by decide +kernel) ⟨Nat.le_of_ble_eq_true rfl, Nat.le_of_ble_eq_true rfl⟩) ⟨PRE.blind, va_recv hKc hPc (ci := 9) (q0 := 0) rfl rfl, PRE.of hE hS hFc hPc hKc hDc⟩ rfl rfl hl.1 rfl (lv_room (Nat.le_of_ble_eq_true rfl)) dX2_meet_44 ⟨Nat.le_of_ble_eq_true rfl, Nat.le_of_ble_eq_true rfl⟩) hS (fun q _ h => hFc q h) hFc (fun r7 u t H locs ht hvm hw hB hz1 hk1 hS => ?_)
        obtain ⟨hP, hD, hK⟩ := JOIN (wr := ([] : va_W)) hP hD hK [0, 1, 2, 3, 4, 5, 6, 7, 8, 9, 10, 11, 12, 13, 14, 15] [] [] rfl rfl (by decide) (by decide) rfl hk1 hFc ht hvm hB
        have hP : va_P (dC, dI) cls (oX2 (p0a 0) p0a p0k p0n p0w p0l_2) H := hP.sub [0, 1, 2, 3, 4, 5, 6, 7, 8, 9, 10, 11, 12, 13, 14, 15] rfl
        have hD : va_D A (oX2 (p0a 0) p0a p0k p0n p0w p0l_2) := hD.sub [0, 1, 2, 3, 4, 5, 6, 7, 8, 9, 10, 11, 12, 13, 14, 15] (by decide) rfl
        have hK : va_K (dC, dI) cls (tX2 p0k) s := hK.sub [0, 1, 2, 3, 4, 5, 6, 7, 8, 9, 10, 11, 12, 13, 14] rfl
        obtain rfl : o_6 = r7 := hw.symm
        refine lv_ldc2 (v := (-1)) hx hb hown (hts _ qw691) dX2_meet_47 ?_
        refine lv_lxor hx hb dX2_meet_50 ?_
        refine lv_land hx hb dX2_meet_51 ?_
        refine lv_lor hx hb dX2_meet_52 ?_
        obtain ⟨hq8, hrun⟩ := chk9 hrun
        refine va_last hx hb hK hP hD hS 7 6 rfl rfl (ixb_in hq8) dX2_meet_53 (fun H locs hP hD hS => ?_)
        have hP : va_P (dC, dI) cls (oX2 (p0a 0) p0a p0k p0n p0w (upl p0l_2 11 (nn ((p1 * (p0w 0 2)) + v3_2)) ((p0l_2 11 (nn ((p1 * (p0w 0 2)) + v3_2))) ||| (((p0l_2 7 (nn v3_2)) &&& (o_4 ^^^ ((-1) : Int64))) &&& (o_6 ^^^ ((-1) : Int64)))))) H := hP
        have hD : va_D A (oX2 (p0a 0) p0a p0k p0n p0w (upl p0l_2 11 (nn ((p1 * (p0w 0 2)) + v3_2)) ((p0l_2 11 (nn ((p1 * (p0w 0 2)) + v3_2))) ||| (((p0l_2 7 (nn v3_2)) &&& (o_4 ^^^ ((-1) : Int64))) &&& (o_6 ^^^ ((-1) : Int64)))))) := hD
        obtain ⟨l9, el9, hrun⟩ := let9 hrun
        rw [← el9] at hP hD
        refine lv_iinc (v := (v3_2 + 1)) (lv' := [(3, .int (v3_2 + 1)), (0, .ref (p0a 0)), (1, .int p1), (2, .int p2)]) hx hb dX2_meet_54 hl (k := 3) rfl rfl (by decide) rfl (fun ls hl => ?_)
        refine lv_goto (tgt := 2) hx hb dX2_meet_57 (by decide) ?_
        exact IH2 (v3_2 + 1) l9 o2 _ _ _ hrun hP hD hS (lv_sub hl [1, 2, 3, 0] rfl) hk2
  obtain ⟨o2, hc2, hrun⟩ := bnd9 hrun
  refine L2 NF 0 p0l o2 _ _ _ hc2 hP hD hS (lv_sub hl [1, 2, 3, 0] rfl) ?_
  intro H locs ls hP hD hS hl
  have hl := hl
  refine lv_iconst (v := 0) hx hb dX2_meet_60 (by decide) ?_
  refine lv_istore_n (lv' := [(3, .int 0), (0, .ref (p0a 0)), (1, .int p1), (2, .int p2)]) hx hb dX2_meet_61 rfl hl (by decide) rfl (fun ls hl => ?_)
  have L62 : ∀ (n_62 : Nat) (v3_62 : Int32) (p0w_62 : ST) (p0l_62 : SL) (o62 : ST × SL) (H : Heap) (locs : List Loc) (ls : Array Slot), (fX2_meet_L62 p0n p1 p2 n_62) v3_62 p0w_62 p0l_62 = some o62 → va_P (dC, dI) cls (oX2 (p0a 0) p0a p0k p0n p0w_62 p0l_62) H → va_D A (oX2 (p0a 0) p0a p0k p0n p0w_62 p0l_62) → va_S A s.heap H locs → lv_has ls 5 [(0, .ref (p0a 0)), (1, .int p1), (2, .int p2), (3, .int v3_62)] → (∀ (H : Heap) (locs : List Loc) (ls : Array Slot), va_P (dC, dI) cls (oX2 (p0a 0) p0a p0k p0n (o62.1) (o62.2)) H → va_D A (oX2 (p0a 0) p0a p0k p0n (o62.1) (o62.2)) → va_S A s.heap H locs → lv_has ls 5 [] → W p l e ({ frames := 1, cells := 0, slots := 0, locals := 23 } : Room) s m ([.ref (p0a 0), .int p1, .int p2] : List Value).toArray below meth c H locs 0 0 Q (F0 m 134 ls [])) → W p l e ({ frames := 1, cells := 0, slots := 0, locals := 23 } : Room) s m ([.ref (p0a 0), .int p1, .int p2] : List Value).toArray below meth c H locs 0 0 Q (F0 m 62 ls []) := by
    intro n_62
    induction n_62 with
    | zero => intro v3_62 p0w_62 p0l_62 o62 H locs ls hrun; exact (no9 rfl hrun).elim
    | succ n_62 IH62 =>
      intro v3_62 p0w_62 p0l_62 o62 H locs ls hrun hP hD hS hl hk62
      unfold fX2_meet_L62 at hrun
      refine lv_iload_n hx hb dX2_meet_62 rfl (lv_at hl 3 rfl) ?_
      refine lv_aload_n hx hb dX2_meet_63 rfl (lv_at hl 0 rfl) ?_
      refine va_get (D := (dC, dI)) (ci := 9) (v := .int (p0w_62 0 8)) (C := RX2) (T := TX2) (N := 19) hx hb hts i_X2 hown hK hP 0 rfl rfl 8 (by decide) (hts _ qw630) (fun _ h9 => h9) rfl dX2_meet_64 ?_
      rcases br9 hrun with ⟨hc10, hrun⟩ | ⟨hc10, hrun⟩
      · refine lv_icmp_ge (tgt := 134) hx hb dX2_meet_67 (by decide) (fun _ => ?_) (fun c => absurd hc10 c)
        obtain rfl := (Option.some.inj hrun)
        exact hk62 _ _ _ hP hD hS (lv_sub hl [] rfl)
      · refine lv_icmp_ge (tgt := 134) hx hb dX2_meet_67 (by decide) (fun c => absurd c hc10) (fun _ => ?_)
        refine lv_aload_n hx hb dX2_meet_70 rfl (lv_at hl 0 rfl) ?_
        refine va_get (D := (dC, dI)) (ci := 9) (v := .ref (p0a 8)) (C := RX2) (T := TX2) (N := 19) hx hb hts i_X2 hown hK hP 0 rfl rfl 7 (by decide) (hts _ qw631) (fun _ h9 => h9) rfl dX2_meet_71 ?_
        refine lv_iload_n hx hb dX2_meet_74 rfl (lv_at hl 3 rfl) ?_
        obtain ⟨hq11, hrun⟩ := chk9 hrun
        refine va_iald hx hb hK hP 5 4 rfl rfl (ixb_in hq11) dX2_meet_75 ?_
        refine lv_istore (lv' := [(4, .int (p0w_62 8 (nn v3_62))), (0, .ref (p0a 0)), (1, .int p1), (2, .int p2), (3, .int v3_62)]) hx hb dX2_meet_76 hl (by decide) rfl (fun ls hl => ?_)
        refine lv_iload hx hb dX2_meet_78 (lv_at hl 0 rfl) ?_
        refine lv_iload_n hx hb dX2_meet_80 rfl (lv_at hl 2 rfl) ?_
        have J128 : ∀ (p0w_128 : ST) (p0l_128 : SL) (H : Heap) (locs : List Loc) (ls : Array Slot), (fX2_meet_J128 (fX2_meet_L62 p0n p1 p2 n_62) v3_62 p0w_128 p0l_128) = some o62 → va_P (dC, dI) cls (oX2 (p0a 0) p0a p0k p0n p0w_128 p0l_128) H → va_D A (oX2 (p0a 0) p0a p0k p0n p0w_128 p0l_128) → va_S A s.heap H locs → lv_has ls 5 [(0, .ref (p0a 0)), (1, .int p1), (2, .int p2), (3, .int v3_62)] → W p l e ({ frames := 1, cells := 0, slots := 0, locals := 23 } : Room) s m ([.ref (p0a 0), .int p1, .int p2] : List Value).toArray below meth c H locs 0 0 Q (F0 m 128 ls []) := by
          intro p0w_128 p0l_128 H locs ls hrun hP hD hS hl
          unfold fX2_meet_J128 at hrun
          refine lv_iinc (v := (v3_62 + 1)) (lv' := [(3, .int (v3_62 + 1)), (0, .ref (p0a 0)), (1, .int p1), (2, .int p2)]) hx hb dX2_meet_128 hl (k := 3) rfl rfl (by decide) rfl (fun ls hl => ?_)
          refine lv_goto (tgt := 62) hx hb dX2_meet_131 (by decide) ?_
          exact IH62 (v3_62 + 1) p0w_128 p0l_128 o62 _ _ _ hrun hP hD hS (lv_sub hl [1, 2, 3, 0] rfl) hk62
        rcases br9 hrun with ⟨hc12, hrun⟩ | ⟨hc12, hrun⟩
        · refine lv_icmp_eq (tgt := 128) hx hb dX2_meet_81 (by decide) (fun _ => ?_) (fun c => absurd hc12 c)
          exact J128 p0w_62 p0l_62 _ _ _ hrun hP hD hS (lv_sub hl [1, 2, 3, 4] rfl)
        · refine lv_icmp_eq (tgt := 128) hx hb dX2_meet_81 (by decide) (fun c => absurd c hc12) (fun _ => ?_)
          refine lv_iload hx hb dX2_meet_84 (lv_at hl 0 rfl) ?_
          refine lv_iload_n hx hb dX2_meet_86 rfl (lv_at hl 3 rfl) ?_
          rcases br9 hrun with ⟨hc13, hrun⟩ | ⟨hc13, hrun⟩
          · refine lv_icmp_eq (tgt := 128) hx hb dX2_meet_87 (by decide) (fun _ => ?_) (fun c => absurd hc13 c)
            exact J128 p0w_62 p0l_62 _ _ _ hrun hP hD hS (lv_sub hl [1, 2, 3, 4] rfl)
          · refine lv_icmp_eq (tgt := 128) hx hb dX2_meet_87 (by decide) (fun c => absurd c hc13) (fun _ => ?_)
            refine lv_iload_n hx hb dX2_meet_90 rfl (lv_at hl 2 rfl) ?_
            refine lv_aload_n hx hb dX2_meet_91 rfl (lv_at hl 1 rfl) ?_
            refine va_get (D := (dC, dI)) (ci := 9) (v := .int (p0w_62 0 0)) (C := RX2) (T := TX2) (N := 19) hx hb hts i_X2 hown hK hP 0 rfl rfl 0 (by decide) (hts _ qw588) (fun _ h9 => h9) rfl dX2_meet_92 ?_
            rcases br9 hrun with ⟨hc14, hrun⟩ | ⟨hc14, hrun⟩
            · refine lv_icmp_ge (tgt := 112) hx hb dX2_meet_95 (by decide) (fun _ => ?_) (fun c => absurd hc14 c)
              refine lv_aload_n hx hb dX2_meet_112 rfl (lv_at hl 1 rfl) ?_
              refine va_get (D := (dC, dI)) (ci := 9) (v := .ref (p0a 12)) (C := RX2) (T := TX2) (N := 19) hx hb hts i_X2 hown hK hP 0 rfl rfl 11 (by decide) (hts _ qw671) (fun _ h9 => h9) rfl dX2_meet_113 ?_
              refine lv_iload_n hx hb dX2_meet_116 rfl (lv_at hl 2 rfl) ?_
              refine lv_iload hx hb dX2_meet_117 (lv_at hl 0 rfl) ?_
              obtain ⟨hq15, hrun⟩ := chk9 hrun
              refine va_iast hx hb hK hP hD hS 8 7 rfl rfl (ixb_in hq15) dX2_meet_119 (fun H locs hP hD hS => ?_)
              have hP : va_P (dC, dI) cls (oX2 (p0a 0) p0a p0k p0n (upw p0w_62 12 (nn p1) (p0w_62 8 (nn v3_62))) p0l_62) H := hP
              have hD : va_D A (oX2 (p0a 0) p0a p0k p0n (upw p0w_62 12 (nn p1) (p0w_62 8 (nn v3_62))) p0l_62) := hD
              obtain ⟨w16, ew16, hrun⟩ := let9 hrun
              rw [← ew16] at hP hD
              refine lv_aload_n hx hb dX2_meet_120 rfl (lv_at hl 1 rfl) ?_
              refine va_get (D := (dC, dI)) (ci := 9) (v := .ref (p0a 12)) (C := RX2) (T := TX2) (N := 19) hx hb hts i_X2 hown hK hP 0 rfl rfl 11 (by decide) (hts _ qw671) (fun _ h9 => h9) rfl dX2_meet_121 ?_
              refine lv_iload hx hb dX2_meet_124 (lv_at hl 0 rfl) ?_
              refine lv_iload_n hx hb dX2_meet_126 rfl (lv_at hl 2 rfl) ?_
              obtain ⟨hq17, hrun⟩ := chk9 hrun
              refine va_iast hx hb hK hP hD hS 8 7 rfl rfl (ixb_in hq17) dX2_meet_127 (fun H locs hP hD hS => ?_)
              have hP : va_P (dC, dI) cls (oX2 (p0a 0) p0a p0k p0n (upw w16 12 (nn (p0w_62 8 (nn v3_62))) p1) p0l_62) H := hP
              have hD : va_D A (oX2 (p0a 0) p0a p0k p0n (upw w16 12 (nn (p0w_62 8 (nn v3_62))) p1) p0l_62) := hD
              obtain ⟨w18, ew18, hrun⟩ := let9 hrun
              rw [← ew18] at hP hD
              exact J128 w18 p0l_62 _ _ _ hrun hP hD hS (lv_sub hl [1, 2, 3, 4] rfl)
            · refine lv_icmp_ge (tgt := 112) hx hb dX2_meet_95 (by decide) (fun c => absurd c hc14) (fun _ => ?_)
              refine lv_aload_n hx hb dX2_meet_98 rfl (lv_at hl 1 rfl) ?_
              refine lv_aload_n hx hb dX2_meet_99 rfl (lv_at hl 1 rfl) ?_
              refine va_get (D := (dC, dI)) (ci := 9) (v := .ref (p0a 11)) (C := RX2) (T := TX2) (N := 19) hx hb hts i_X2 hown hK hP 0 rfl rfl 10 (by decide) (hts _ qw589) (fun _ h9 => h9) rfl dX2_meet_100 ?_
              refine lv_iload hx hb dX2_meet_103 (lv_at hl 0 rfl) ?_
              refine lv_iload_n hx hb dX2_meet_105 rfl (lv_at hl 2 rfl) ?_
              obtain ⟨o_19, hc_19, hrun⟩ := bnd9 hrun
              have hPc := hP.sub (ws' := ((oX2 (p0a 0) p0a p0k p0n p0w_62 p0l_62) ++ [((p0a 11), .inl ((p0k 11), (p0n 11), .inr (.inl (p0l_62 11))))])) [0, 1, 2, 3, 4, 5, 6, 7, 8, 9, 10, 11, 12, 13, 14, 15, 7] rfl
              have hDc := hD.sub (ws' := ((oX2 (p0a 0) p0a p0k p0n p0w_62 p0l_62) ++ [((p0a 11), .inl ((p0k 11), (p0n 11), .inr (.inl (p0l_62 11))))])) [0, 1, 2, 3, 4, 5, 6, 7, 8, 9, 10, 11, 12, 13, 14, 15, 7] (by decide) rfl
              have hKc := hK.sub (tys' := ((tX2 p0k) ++ [((p0k 11), .long)])) [0, 1, 2, 3, 4, 5, 6, 7, 8, 9, 10, 11, 12, 13, 14, 6] rfl
              have hFc := va_free (wc := ((oX2 (p0a 0) p0a p0k p0n p0w_62 p0l_62) ++ [((p0a 11), .inl ((p0k 11), (p0n 11), .inr (.inl (p0l_62 11))))])) hD hS hA [0, 1, 2, 3, 4, 5, 6, 7, 8, 9, 10, 11, 12, 13, 14, 15, 7] rfl
              refine va_callv (va_runV (As := [.ref (p0a 11), .int (p0w_62 8 (nn v3_62)), .int p1]) (rest := []) ⟨hx, hb, hml, hown, hts⟩ (kX2_put l dC dI (p0a := (st0 (p0a 0) p0a)) (p0k := p0k) (p0n := p0n) (p0w := p0w_62) (p0l := p0l_62) (p1a := (p0a 11)) (p1k := (p0k 11)) (p1n := (p0n 11)) (p1f := (p0l_62 11)) (p2 := (p0w_62 8 (nn v3_62))) (p3 := p1) (sz := _) (o := o_19) (hrun := hc_19)) (cwV 3 hts (gi_V qw634 qw635 qw636 qw595 (gi_z qw633)) rfl rfl rfl (by decide +kernel) ⟨Nat.le_of_ble_eq_true rfl, Nat.le_of_ble_eq_true rfl⟩) ⟨PRE.blind, va_recv hKc hPc (ci := 9) (q0 := 0) rfl rfl, PRE.of hE hS hFc hPc hKc hDc⟩ rfl rfl hl.1 rfl (lv_room (Nat.le_of_ble_eq_true rfl)) dX2_meet_106 ⟨Nat.le_of_ble_eq_true rfl, Nat.le_of_ble_eq_true rfl⟩) hS (fun q _ h => hFc q h) hFc (fun u t H locs ht hvm hw hB hz1 hk1 hS => ?_)
              obtain ⟨hP, hD, hK⟩ := JOIN (wr := ([] : va_W)) hP hD hK [0, 1, 2, 3, 4, 5, 6, 7, 8, 9, 10, 11, 12, 13, 14, 15, 7] [] [] rfl rfl (by decide) (by decide) rfl hk1 hFc ht hvm hB
              have hP : va_P (dC, dI) cls (oX2 (p0a 0) p0a p0k p0n p0w_62 (srl p0l_62 11 o_19)) H := hP.sub [0, 1, 2, 3, 4, 5, 6, 7, 8, 9, 10, 11, 12, 13, 14, 15] rfl
              have hD : va_D A (oX2 (p0a 0) p0a p0k p0n p0w_62 (srl p0l_62 11 o_19)) := hD.sub [0, 1, 2, 3, 4, 5, 6, 7, 8, 9, 10, 11, 12, 13, 14, 15] (by decide) rfl
              have hK : va_K (dC, dI) cls (tX2 p0k) s := hK.sub [0, 1, 2, 3, 4, 5, 6, 7, 8, 9, 10, 11, 12, 13, 14] rfl
              refine lv_goto (tgt := 128) hx hb dX2_meet_109 (by decide) ?_
              exact J128 p0w_62 (srl p0l_62 11 o_19) _ _ _ hrun hP hD hS (lv_sub hl [1, 2, 3, 4] rfl)
  obtain ⟨o62, hc62, hrun⟩ := bnd9 hrun
  refine L62 NF 0 p0w o2 o62 _ _ _ hc62 hP hD hS (lv_sub hl [1, 2, 3, 0] rfl) ?_
  intro H locs ls hP hD hS hl
  have hl := hl
  have ho9 : ((o62.1), (o62.2)) = o := Option.some.inj hrun
  have hP9 : va_P (dC, dI) cls (oX2 (p0a 0) p0a p0k p0n (o.1) (o.2)) H := by first | exact hP | (rw [← ho9]; exact hP)
  have hD9 : va_D A (oX2 (p0a 0) p0a p0k p0n (o.1) (o.2)) := by first | exact hD | (rw [← ho9]; exact hD)
  subst hQ
  exact W.vret hx hb hr (fun t ht hW => ⟨⟨(), rfl, trivial, ⟨by rw [ht]; exact hP9, va_K.moved hW.alike hK, hD9⟩⟩, hS.F ht⟩) hS.2.2 dX2_meet_134
def fX2_mirror_L34 (p0n : Nat → Nat) (p0w : ST) (v1_2 : Int32) (v2_12 : Int32) : Nat → Int64 → SL → Option SL
  | 0 => fun _ _ => none
  | n_34 + 1 => fun v3_34 p0l_34 => (if (lg_cmp v3_34 (0 : Int64)) = 0 then some p0l_34 else ((fX11_lowest v3_34).bind fun (o_5 : Int32) => ((fX2_put p0w (p0n 11) (p0l_34 11) ((v2_12 * 64) + o_5) v1_2).bind fun (o_7 : RL) => ((fX2_mirror_L34 p0n p0w v1_2 v2_12 n_34) (v3_34 &&& (v3_34 - (1 : Int64))) (srl p0l_34 11 o_7)))))
def fX2_mirror_L12 (p0n : Nat → Nat) (p0w : ST) (v1_2 : Int32) : Nat → Int32 → SL → Option SL
  | 0 => fun _ _ => none
  | n_12 + 1 => fun v2_12 p0l_12 => (if (p0w 0 2) ≤ v2_12 then some p0l_12 else (if ixb ((v1_2 * (p0w 0 2)) + v2_12) (p0n 11) = true then ((fX2_mirror_L34 p0n p0w v1_2 v2_12 NF (p0l_12 11 (nn ((v1_2 * (p0w 0 2)) + v2_12))) p0l_12).bind fun (o34 : SL) => ((fX2_mirror_L12 p0n p0w v1_2 n_12) (v2_12 + 1) o34)) else none))
def fX2_mirror_L2 (p0n : Nat → Nat) (p0w : ST) : Nat → Int32 → SL → Option SL
  | 0 => fun _ _ => none
  | n_2 + 1 => fun v1_2 p0l_2 => (if (p0w 0 0) ≤ v1_2 then some p0l_2 else ((fX2_mirror_L12 p0n p0w v1_2 NF 0 p0l_2).bind fun (o12 : SL) => ((fX2_mirror_L2 p0n p0w n_2) (v1_2 + 1) o12)))
def fX2_mirror (p0n : Nat → Nat) (p0w : ST) (p0l : SL) : Option SL := ((fX2_mirror_L2 p0n p0w NF 0 p0l).bind fun (o2 : SL) => some o2)
set_option maxHeartbeats 16000000 in
set_option maxRecDepth 100000 in
theorem kX2_mirror {zs : Nat × Nat} (l : Launch) (dC : Nat → ClassId) (dI : Nat → Nat → Nat) (p0a : Nat → Nat) (p0k : Nat → ClassId) (p0n : Nat → Nat) (p0w : ST) (p0l : SL) (sz : Nat) (o : SL) (hrun : fX2_mirror p0n p0w p0l = some o) : Met l yX2_mirror (wz yX2_mirror cX2_mirror 5 (Option.none : Option Jvm.ClassFile.FieldType)) ({ frames := 2, cells := 0, slots := 0, locals := 42 } : Room) (va_Pc [.ref (p0a 0)] (PRE zs dC dI (oX2 (p0a 0) p0a p0k p0n p0w p0l) (tX2 p0k) sz)) (va_Qv (fun (_ : Unit) => True) (fun _ t => POST dC dI (oX2 (p0a 0) p0a p0k p0n p0w o) (tX2 p0k) (va_A (oX2 (p0a 0) p0a p0k p0n p0w p0l) sz) t) (va_A (oX2 (p0a 0) p0a p0k p0n p0w p0l) sz)) 0 0 (va_A (oX2 (p0a 0) p0a p0k p0n p0w p0l) sz) := by
  refine Met.ofW (cc := cX2_mirror) (maxL := 5) (ret := (Option.none : Option Jvm.ClassFile.FieldType)) (by decide) rfl ?_
  intro p e s m args below meth c s₁ B hml hv
  obtain ⟨rfl, hsz, hP, hK, hD0, hE⟩ := hv
  have hx := B.exec
  have hb := B.bytes
  have hr := B.returns
  have hts0 := atoms_spec (ws := wz yX2_mirror cX2_mirror 5 (Option.none : Option Jvm.ClassFile.FieldType)) B.pre
  have hts : ∀ w ∈ gw, w.before _ s = true := fun w h => hts0 w (List.mem_cons_of_mem _ h)
  have hown : s.vm.findClass RX2 = some m.cls := findClass_of_methodNamed B.named
  have hlocks := B.notSynchronized
  subst hsz
  have hD := hD0.self (sz := s.heap.size)
  refine gQ9 ?_
  intro Q hQ
  generalize hAe : va_A (oX2 (p0a 0) p0a p0k p0n p0w p0l) s.heap.size = A at hD hE hQ
  have hA : ∀ q : Nat, s.heap.size ≤ q → A q := fun q h => by rw [← hAe]; exact Or.inr h
  have hS : va_S A s.heap s.heap [] := va_S.rf
  have hP : va_P (dC, dI) cls (oX2 (p0a 0) p0a p0k p0n p0w p0l) s.heap := hP
  have hl := lv_entry ([.ref (p0a 0)]) (n := 5) (Nat.le_of_ble_eq_true rfl)
  rw [lg_entry_eq]
  generalize (lg_sl ([.ref (p0a 0)]) ++ List.replicate (5 - (lg_sl ([.ref (p0a 0)])).length) Slot.unset).toArray = ls at hl ⊢
  have hl : lv_has ls 5 [(0, .ref (p0a 0))] := hl
  obtain ⟨H, hHe⟩ : ∃ H, H = s.heap := ⟨_, rfl⟩
  obtain ⟨locs, hle⟩ : ∃ locs : List Loc, locs = [] := ⟨_, rfl⟩
  rw [← hHe] at hP
  have hS : va_S A s.heap H locs := by rw [hHe, hle]; exact hS
  show W p l e ({ frames := 2, cells := 0, slots := 0, locals := 42 } : Room) s m ([.ref (p0a 0)] : List Value).toArray below meth c s.heap [] 0 0 Q (F0 m 0 ls [])
  rw [← hle]
  refine wH9 hHe ?_
  unfold fX2_mirror at hrun
  refine lv_iconst (v := 0) hx hb dX2_mirror_0 (by decide) ?_
  refine lv_istore_n (lv' := [(1, .int 0), (0, .ref (p0a 0))]) hx hb dX2_mirror_1 rfl hl (by decide) rfl (fun ls hl => ?_)
  have L2 : ∀ (n_2 : Nat) (v1_2 : Int32) (p0l_2 : SL) (o2 : SL) (H : Heap) (locs : List Loc) (ls : Array Slot), (fX2_mirror_L2 p0n p0w n_2) v1_2 p0l_2 = some o2 → va_P (dC, dI) cls (oX2 (p0a 0) p0a p0k p0n p0w p0l_2) H → va_D A (oX2 (p0a 0) p0a p0k p0n p0w p0l_2) → va_S A s.heap H locs → lv_has ls 5 [(0, .ref (p0a 0)), (1, .int v1_2)] → (∀ (H : Heap) (locs : List Loc) (ls : Array Slot), va_P (dC, dI) cls (oX2 (p0a 0) p0a p0k p0n p0w o2) H → va_D A (oX2 (p0a 0) p0a p0k p0n p0w o2) → va_S A s.heap H locs → lv_has ls 5 [] → W p l e ({ frames := 2, cells := 0, slots := 0, locals := 42 } : Room) s m ([.ref (p0a 0)] : List Value).toArray below meth c H locs 0 0 Q (F0 m 79 ls [])) → W p l e ({ frames := 2, cells := 0, slots := 0, locals := 42 } : Room) s m ([.ref (p0a 0)] : List Value).toArray below meth c H locs 0 0 Q (F0 m 2 ls []) := by
    intro n_2
    induction n_2 with
    | zero => intro v1_2 p0l_2 o2 H locs ls hrun; exact (no9 rfl hrun).elim
    | succ n_2 IH2 =>
      intro v1_2 p0l_2 o2 H locs ls hrun hP hD hS hl hk2
      unfold fX2_mirror_L2 at hrun
      refine lv_iload_n hx hb dX2_mirror_2 rfl (lv_at hl 1 rfl) ?_
      refine lv_aload_n hx hb dX2_mirror_3 rfl (lv_at hl 0 rfl) ?_
      refine va_get (D := (dC, dI)) (ci := 9) (v := .int (p0w 0 0)) (C := RX2) (T := TX2) (N := 19) hx hb hts i_X2 hown hK hP 0 rfl rfl 0 (by decide) (hts _ qw588) (fun _ h9 => h9) rfl dX2_mirror_4 ?_
      rcases br9 hrun with ⟨hc1, hrun⟩ | ⟨hc1, hrun⟩
      · refine lv_icmp_ge (tgt := 79) hx hb dX2_mirror_7 (by decide) (fun _ => ?_) (fun c => absurd hc1 c)
        obtain rfl := (Option.some.inj hrun)
        exact hk2 _ _ _ hP hD hS (lv_sub hl [] rfl)
      · refine lv_icmp_ge (tgt := 79) hx hb dX2_mirror_7 (by decide) (fun c => absurd c hc1) (fun _ => ?_)
        refine lv_iconst (v := 0) hx hb dX2_mirror_10 (by decide) ?_
        refine lv_istore_n (lv' := [(2, .int 0), (0, .ref (p0a 0)), (1, .int v1_2)]) hx hb dX2_mirror_11 rfl hl (by decide) rfl (fun ls hl => ?_)
        have L12 : ∀ (n_12 : Nat) (v2_12 : Int32) (p0l_12 : SL) (o12 : SL) (H : Heap) (locs : List Loc) (ls : Array Slot), (fX2_mirror_L12 p0n p0w v1_2 n_12) v2_12 p0l_12 = some o12 → va_P (dC, dI) cls (oX2 (p0a 0) p0a p0k p0n p0w p0l_12) H → va_D A (oX2 (p0a 0) p0a p0k p0n p0w p0l_12) → va_S A s.heap H locs → lv_has ls 5 [(0, .ref (p0a 0)), (1, .int v1_2), (2, .int v2_12)] → (∀ (H : Heap) (locs : List Loc) (ls : Array Slot), va_P (dC, dI) cls (oX2 (p0a 0) p0a p0k p0n p0w o12) H → va_D A (oX2 (p0a 0) p0a p0k p0n p0w o12) → va_S A s.heap H locs → lv_has ls 5 [(0, .ref (p0a 0)), (1, .int v1_2)] → W p l e ({ frames := 2, cells := 0, slots := 0, locals := 42 } : Room) s m ([.ref (p0a 0)] : List Value).toArray below meth c H locs 0 0 Q (F0 m 73 ls [])) → W p l e ({ frames := 2, cells := 0, slots := 0, locals := 42 } : Room) s m ([.ref (p0a 0)] : List Value).toArray below meth c H locs 0 0 Q (F0 m 12 ls []) := by
          intro n_12
          induction n_12 with
          | zero => intro v2_12 p0l_12 o12 H locs ls hrun; exact (no9 rfl hrun).elim
          | succ n_12 IH12 =>
            intro v2_12 p0l_12 o12 H locs ls hrun hP hD hS hl hk12
            unfold fX2_mirror_L12 at hrun
            refine lv_iload_n hx hb dX2_mirror_12 rfl (lv_at hl 2 rfl) ?_
            refine lv_aload_n hx hb dX2_mirror_13 rfl (lv_at hl 0 rfl) ?_
            refine va_get (D := (dC, dI)) (ci := 9) (v := .int (p0w 0 2)) (C := RX2) (T := TX2) (N := 19) hx hb hts i_X2 hown hK hP 0 rfl rfl 2 (by decide) (hts _ qw590) (fun _ h9 => h9) rfl dX2_mirror_14 ?_
            rcases br9 hrun with ⟨hc2, hrun⟩ | ⟨hc2, hrun⟩
            · refine lv_icmp_ge (tgt := 73) hx hb dX2_mirror_17 (by decide) (fun _ => ?_) (fun c => absurd hc2 c)
              obtain rfl := (Option.some.inj hrun)
              exact hk12 _ _ _ hP hD hS (lv_sub hl [0, 1] rfl)
            · refine lv_icmp_ge (tgt := 73) hx hb dX2_mirror_17 (by decide) (fun c => absurd c hc2) (fun _ => ?_)
              refine lv_aload_n hx hb dX2_mirror_20 rfl (lv_at hl 0 rfl) ?_
              refine va_get (D := (dC, dI)) (ci := 9) (v := .ref (p0a 11)) (C := RX2) (T := TX2) (N := 19) hx hb hts i_X2 hown hK hP 0 rfl rfl 10 (by decide) (hts _ qw589) (fun _ h9 => h9) rfl dX2_mirror_21 ?_
              refine lv_iload_n hx hb dX2_mirror_24 rfl (lv_at hl 1 rfl) ?_
              refine lv_aload_n hx hb dX2_mirror_25 rfl (lv_at hl 0 rfl) ?_
              refine va_get (D := (dC, dI)) (ci := 9) (v := .int (p0w 0 2)) (C := RX2) (T := TX2) (N := 19) hx hb hts i_X2 hown hK hP 0 rfl rfl 2 (by decide) (hts _ qw590) (fun _ h9 => h9) rfl dX2_mirror_26 ?_
              refine lv_imul hx hb dX2_mirror_29 ?_
              refine lv_iload_n hx hb dX2_mirror_30 rfl (lv_at hl 2 rfl) ?_
              refine lv_iadd hx hb dX2_mirror_31 ?_
              obtain ⟨hq3, hrun⟩ := chk9 hrun
              refine va_lald hx hb hK hP 7 6 rfl rfl (ixb_in hq3) dX2_mirror_32 ?_
              refine lv_lstore_n (lv' := [(3, .long (p0l_12 11 (nn ((v1_2 * (p0w 0 2)) + v2_12)))), (0, .ref (p0a 0)), (1, .int v1_2), (2, .int v2_12)]) hx hb dX2_mirror_33 rfl hl (by decide) rfl (fun ls hl => ?_)
              have L34 : ∀ (n_34 : Nat) (v3_34 : Int64) (p0l_34 : SL) (o34 : SL) (H : Heap) (locs : List Loc) (ls : Array Slot), (fX2_mirror_L34 p0n p0w v1_2 v2_12 n_34) v3_34 p0l_34 = some o34 → va_P (dC, dI) cls (oX2 (p0a 0) p0a p0k p0n p0w p0l_34) H → va_D A (oX2 (p0a 0) p0a p0k p0n p0w p0l_34) → va_S A s.heap H locs → lv_has ls 5 [(0, .ref (p0a 0)), (1, .int v1_2), (2, .int v2_12), (3, .long v3_34)] → (∀ (H : Heap) (locs : List Loc) (ls : Array Slot), va_P (dC, dI) cls (oX2 (p0a 0) p0a p0k p0n p0w o34) H → va_D A (oX2 (p0a 0) p0a p0k p0n p0w o34) → va_S A s.heap H locs → lv_has ls 5 [(0, .ref (p0a 0)), (1, .int v1_2), (2, .int v2_12)] → W p l e ({ frames := 2, cells := 0, slots := 0, locals := 42 } : Room) s m ([.ref (p0a 0)] : List Value).toArray below meth c H locs 0 0 Q (F0 m 67 ls [])) → W p l e ({ frames := 2, cells := 0, slots := 0, locals := 42 } : Room) s m ([.ref (p0a 0)] : List Value).toArray below meth c H locs 0 0 Q (F0 m 34 ls []) := by
                intro n_34
                induction n_34 with
                | zero => intro v3_34 p0l_34 o34 H locs ls hrun; exact (no9 rfl hrun).elim
                | succ n_34 IH34 =>
                  intro v3_34 p0l_34 o34 H locs ls hrun hP hD hS hl hk34
                  unfold fX2_mirror_L34 at hrun
                  refine lv_lload_n hx hb dX2_mirror_34 rfl (lv_at hl 3 rfl) ?_
                  refine lv_lconst (v := 0) hx hb dX2_mirror_35 (by decide) ?_
                  refine W.lcmp hx hb dX2_mirror_36 ?_
                  rcases br9 hrun with ⟨hc4, hrun⟩ | ⟨hc4, hrun⟩
                  · refine lv_if_eq (tgt := 67) hx hb dX2_mirror_37 (by decide) (fun _ => ?_) (fun c => absurd hc4 c)
                    obtain rfl := (Option.some.inj hrun)
                    exact hk34 _ _ _ hP hD hS (lv_sub hl [0, 1, 2] rfl)
                  · refine lv_if_eq (tgt := 67) hx hb dX2_mirror_37 (by decide) (fun c => absurd c hc4) (fun _ => ?_)
                    refine lv_aload_n hx hb dX2_mirror_40 rfl (lv_at hl 0 rfl) ?_
                    refine lv_aload_n hx hb dX2_mirror_41 rfl (lv_at hl 0 rfl) ?_
                    refine va_get (D := (dC, dI)) (ci := 9) (v := .ref (p0a 11)) (C := RX2) (T := TX2) (N := 19) hx hb hts i_X2 hown hK hP 0 rfl rfl 10 (by decide) (hts _ qw589) (fun _ h9 => h9) rfl dX2_mirror_42 ?_
                    refine lv_iload_n hx hb dX2_mirror_45 rfl (lv_at hl 2 rfl) ?_
                    refine lv_bipush (v := 64) hx hb dX2_mirror_46 (by decide) ?_
                    refine lv_imul hx hb dX2_mirror_48 ?_
                    refine lv_lload_n hx hb dX2_mirror_49 rfl (lv_at hl 3 rfl) ?_
                    obtain ⟨o_5, hc_5, hrun⟩ := bnd9 hrun
                    have hPc := hP.sub (ws' := ([] : va_W)) [] rfl
                    have hDc := hD.sub (ws' := ([] : va_W)) [] (by decide) rfl
                    have hKc := hK.sub (tys' := ([] : List (ClassId × FieldType))) [] rfl
                    have hFc := va_free (wc := ([] : va_W)) hD hS hA [] rfl
                    refine va_calli (va_runSN (As := [.long v3_34]) (rest := [.int (v2_12 * 64), .ref (p0a 11), .ref (p0a 0)]) ⟨hx, hb, hml, hown, hts⟩ (kX11_lowest l dC dI (p0 := v3_34) (sz := _) (o := o_5) (hrun := hc_5)) ⟨(va_cnB 1 hts (gi_z qw604) rfl rfl rfl (hE.nw (List.mem_append_right _ (tbl_9 (i := 34) rfl)) rfl) (hts _ qw159) (by decide +kernel) ⟨Nat.le_of_ble_eq_true rfl, Nat.le_of_ble_eq_true rfl⟩), (hts _ qw605), trivial⟩ ⟨PRE.blind, PRE.of hE hS hFc hPc hKc hDc⟩ rfl rfl hl.1 rfl (lv_room (Nat.le_of_ble_eq_true rfl)) dX2_mirror_50 ⟨Nat.le_of_ble_eq_true rfl, Nat.le_of_ble_eq_true rfl⟩) hS (fun q _ h => hFc q h) hFc (fun r6 u t H locs ht hvm hw hB hz1 hk1 hS => ?_)
                    obtain ⟨hP, hD, hK⟩ := JOIN (wr := (oX2 (p0a 0) p0a p0k p0n p0w p0l_34)) hP hD hK [] [0, 1, 2, 3, 4, 5, 6, 7, 8, 9, 10, 11, 12, 13, 14, 15] [0, 1, 2, 3, 4, 5, 6, 7, 8, 9, 10, 11, 12, 13, 14] rfl rfl (by decide) (by decide) rfl hk1 hFc ht hvm hB
                    have hP : va_P (dC, dI) cls (oX2 (p0a 0) p0a p0k p0n p0w p0l_34) H := hP.sub [0, 1, 2, 3, 4, 5, 6, 7, 8, 9, 10, 11, 12, 13, 14, 15] rfl
                    have hD : va_D A (oX2 (p0a 0) p0a p0k p0n p0w p0l_34) := hD.sub [0, 1, 2, 3, 4, 5, 6, 7, 8, 9, 10, 11, 12, 13, 14, 15] (by decide) rfl
                    have hK : va_K (dC, dI) cls (tX2 p0k) s := hK.sub [0, 1, 2, 3, 4, 5, 6, 7, 8, 9, 10, 11, 12, 13, 14] rfl
                    obtain rfl : o_5 = r6 := hw.symm
                    refine lv_iadd hx hb dX2_mirror_53 ?_
                    refine lv_iload_n hx hb dX2_mirror_54 rfl (lv_at hl 1 rfl) ?_
                    obtain ⟨o_7, hc_7, hrun⟩ := bnd9 hrun
                    have hPc := hP.sub (ws' := ((oX2 (p0a 0) p0a p0k p0n p0w p0l_34) ++ [((p0a 11), .inl ((p0k 11), (p0n 11), .inr (.inl (p0l_34 11))))])) [0, 1, 2, 3, 4, 5, 6, 7, 8, 9, 10, 11, 12, 13, 14, 15, 7] rfl
                    have hDc := hD.sub (ws' := ((oX2 (p0a 0) p0a p0k p0n p0w p0l_34) ++ [((p0a 11), .inl ((p0k 11), (p0n 11), .inr (.inl (p0l_34 11))))])) [0, 1, 2, 3, 4, 5, 6, 7, 8, 9, 10, 11, 12, 13, 14, 15, 7] (by decide) rfl
                    have hKc := hK.sub (tys' := ((tX2 p0k) ++ [((p0k 11), .long)])) [0, 1, 2, 3, 4, 5, 6, 7, 8, 9, 10, 11, 12, 13, 14, 6] rfl
                    have hFc := va_free (wc := ((oX2 (p0a 0) p0a p0k p0n p0w p0l_34) ++ [((p0a 11), .inl ((p0k 11), (p0n 11), .inr (.inl (p0l_34 11))))])) hD hS hA [0, 1, 2, 3, 4, 5, 6, 7, 8, 9, 10, 11, 12, 13, 14, 15, 7] rfl
                    refine va_callv (va_runV (As := [.ref (p0a 11), .int ((v2_12 * 64) + o_5), .int v1_2]) (rest := []) ⟨hx, hb, hml, hown, hts⟩ (kX2_put l dC dI (p0a := (st0 (p0a 0) p0a)) (p0k := p0k) (p0n := p0n) (p0w := p0w) (p0l := p0l_34) (p1a := (p0a 11)) (p1k := (p0k 11)) (p1n := (p0n 11)) (p1f := (p0l_34 11)) (p2 := ((v2_12 * 64) + o_5)) (p3 := v1_2) (sz := _) (o := o_7) (hrun := hc_7)) (cwV 3 hts (gi_V qw634 qw635 qw636 qw595 (gi_z qw633)) rfl rfl rfl (by decide +kernel) ⟨Nat.le_of_ble_eq_true rfl, Nat.le_of_ble_eq_true rfl⟩) ⟨PRE.blind, va_recv hKc hPc (ci := 9) (q0 := 0) rfl rfl, PRE.of hE hS hFc hPc hKc hDc⟩ rfl rfl hl.1 rfl (lv_room (Nat.le_of_ble_eq_true rfl)) dX2_mirror_55 ⟨Nat.le_of_ble_eq_true rfl, Nat.le_of_ble_eq_true rfl⟩) hS (fun q _ h => hFc q h) hFc (fun u t H locs ht hvm hw hB hz1 hk1 hS => ?_)
                    obtain ⟨hP, hD, hK⟩ := JOIN (wr := ([] : va_W)) hP hD hK [0, 1, 2, 3, 4, 5, 6, 7, 8, 9, 10, 11, 12, 13, 14, 15, 7] [] [] rfl rfl (by decide) (by decide) rfl hk1 hFc ht hvm hB
                    have hP : va_P (dC, dI) cls (oX2 (p0a 0) p0a p0k p0n p0w (srl p0l_34 11 o_7)) H := hP.sub [0, 1, 2, 3, 4, 5, 6, 7, 8, 9, 10, 11, 12, 13, 14, 15] rfl
                    have hD : va_D A (oX2 (p0a 0) p0a p0k p0n p0w (srl p0l_34 11 o_7)) := hD.sub [0, 1, 2, 3, 4, 5, 6, 7, 8, 9, 10, 11, 12, 13, 14, 15] (by decide) rfl
                    have hK : va_K (dC, dI) cls (tX2 p0k) s := hK.sub [0, 1, 2, 3, 4, 5, 6, 7, 8, 9, 10, 11, 12, 13, 14] rfl
                    refine lv_lload_n hx hb dX2_mirror_58 rfl (lv_at hl 3 rfl) ?_
                    refine lv_lload_n hx hb dX2_mirror_59 rfl (lv_at hl 3 rfl) ?_
                    refine lv_lconst (v := 1) hx hb dX2_mirror_60 (by decide) ?_
                    refine lv_lsub hx hb dX2_mirror_61 ?_
                    refine lv_land hx hb dX2_mirror_62 ?_
                    refine lv_lstore_n (lv' := [(3, .long (v3_34 &&& (v3_34 - (1 : Int64)))), (0, .ref (p0a 0)), (1, .int v1_2), (2, .int v2_12)]) hx hb dX2_mirror_63 rfl hl (by decide) rfl (fun ls hl => ?_)
                    refine lv_goto (tgt := 34) hx hb dX2_mirror_64 (by decide) ?_
                    exact IH34 (v3_34 &&& (v3_34 - (1 : Int64))) (srl p0l_34 11 o_7) o34 _ _ _ hrun hP hD hS (lv_sub hl [1, 2, 3, 0] rfl) hk34
              obtain ⟨o34, hc34, hrun⟩ := bnd9 hrun
              refine L34 NF (p0l_12 11 (nn ((v1_2 * (p0w 0 2)) + v2_12))) p0l_12 o34 _ _ _ hc34 hP hD hS (lv_sub hl [1, 2, 3, 0] rfl) ?_
              intro H locs ls hP hD hS hl
              have hl := hl
              refine lv_iinc (v := (v2_12 + 1)) (lv' := [(2, .int (v2_12 + 1)), (0, .ref (p0a 0)), (1, .int v1_2)]) hx hb dX2_mirror_67 hl (k := 2) rfl rfl (by decide) rfl (fun ls hl => ?_)
              refine lv_goto (tgt := 12) hx hb dX2_mirror_70 (by decide) ?_
              exact IH12 (v2_12 + 1) o34 o12 _ _ _ hrun hP hD hS (lv_sub hl [1, 2, 0] rfl) hk12
        obtain ⟨o12, hc12, hrun⟩ := bnd9 hrun
        refine L12 NF 0 p0l_2 o12 _ _ _ hc12 hP hD hS (lv_sub hl [1, 2, 0] rfl) ?_
        intro H locs ls hP hD hS hl
        have hl := hl
        refine lv_iinc (v := (v1_2 + 1)) (lv' := [(1, .int (v1_2 + 1)), (0, .ref (p0a 0))]) hx hb dX2_mirror_73 hl (k := 1) rfl rfl (by decide) rfl (fun ls hl => ?_)
        refine lv_goto (tgt := 2) hx hb dX2_mirror_76 (by decide) ?_
        exact IH2 (v1_2 + 1) o12 o2 _ _ _ hrun hP hD hS (lv_sub hl [1, 0] rfl) hk2
  obtain ⟨o2, hc2, hrun⟩ := bnd9 hrun
  refine L2 NF 0 p0l o2 _ _ _ hc2 hP hD hS (lv_sub hl [1, 0] rfl) ?_
  intro H locs ls hP hD hS hl
  have hl := hl
  have ho9 : o2 = o := Option.some.inj hrun
  have hP9 : va_P (dC, dI) cls (oX2 (p0a 0) p0a p0k p0n p0w o) H := by first | exact hP | (rw [← ho9]; exact hP)
  have hD9 : va_D A (oX2 (p0a 0) p0a p0k p0n p0w o) := by first | exact hD | (rw [← ho9]; exact hD)
  subst hQ
  exact W.vret hx hb hr (fun t ht hW => ⟨⟨(), rfl, trivial, ⟨by rw [ht]; exact hP9, va_K.moved hW.alike hK, hD9⟩⟩, hS.F ht⟩) hS.2.2 dX2_mirror_79
def fX2_noteUse_J31 (p0l_31 : SL) : Option SL := some p0l_31
def fX2_noteUse (p0n : Nat → Nat) (p0w : ST) (p0l : SL) (p1 : Int32) (p2 : Int32) : Option SL := (if (p0w 0 0) ≤ p2 then (fX2_noteUse_J31 p0l) else ((fX2_isIn p0w (p0n 5) (p0l 5) p1 p2).bind fun (o_2 : Int32) => (if o_2 = 0 then ((fX2_put p0w (p0n 4) (p0l 4) p1 p2).bind fun (o_5 : RL) => (fX2_noteUse_J31 (srl p0l 4 o_5))) else (fX2_noteUse_J31 p0l))))
set_option maxHeartbeats 16000000 in
set_option maxRecDepth 100000 in
theorem kX2_noteUse {zs : Nat × Nat} (l : Launch) (dC : Nat → ClassId) (dI : Nat → Nat → Nat) (p0a : Nat → Nat) (p0k : Nat → ClassId) (p0n : Nat → Nat) (p0w : ST) (p0l : SL) (p1 : Int32) (p2 : Int32) (sz : Nat) (o : SL) (hrun : fX2_noteUse p0n p0w p0l p1 p2 = some o) : Met l yX2_noteUse (wz yX2_noteUse cX2_noteUse 3 (Option.none : Option Jvm.ClassFile.FieldType)) ({ frames := 2, cells := 0, slots := 0, locals := 45 } : Room) (va_Pc [.ref (p0a 0), .int p1, .int p2] (PRE zs dC dI (oX2 (p0a 0) p0a p0k p0n p0w p0l) (tX2 p0k) sz)) (va_Qv (fun (_ : Unit) => True) (fun _ t => POST dC dI (oX2 (p0a 0) p0a p0k p0n p0w o) (tX2 p0k) (va_A (oX2 (p0a 0) p0a p0k p0n p0w p0l) sz) t) (va_A (oX2 (p0a 0) p0a p0k p0n p0w p0l) sz)) 0 0 (va_A (oX2 (p0a 0) p0a p0k p0n p0w p0l) sz) := by
  refine Met.ofW (cc := cX2_noteUse) (maxL := 3) (ret := (Option.none : Option Jvm.ClassFile.FieldType)) (by decide) rfl ?_
  intro p e s m args below meth c s₁ B hml hv
  obtain ⟨rfl, hsz, hP, hK, hD0, hE⟩ := hv
  have hx := B.exec
  have hb := B.bytes
  have hr := B.returns
  have hts0 := atoms_spec (ws := wz yX2_noteUse cX2_noteUse 3 (Option.none : Option Jvm.ClassFile.FieldType)) B.pre
  have hts : ∀ w ∈ gw, w.before _ s = true := fun w h => hts0 w (List.mem_cons_of_mem _ h)
  have hown : s.vm.findClass RX2 = some m.cls := findClass_of_methodNamed B.named
  have hlocks := B.notSynchronized
  subst hsz
  have hD := hD0.self (sz := s.heap.size)
  refine gQ9 ?_
  intro Q hQ
  generalize hAe : va_A (oX2 (p0a 0) p0a p0k p0n p0w p0l) s.heap.size = A at hD hE hQ
  have hA : ∀ q : Nat, s.heap.size ≤ q → A q := fun q h => by rw [← hAe]; exact Or.inr h
  have hS : va_S A s.heap s.heap [] := va_S.rf
  have hP : va_P (dC, dI) cls (oX2 (p0a 0) p0a p0k p0n p0w p0l) s.heap := hP
  have hl := lv_entry ([.ref (p0a 0), .int p1, .int p2]) (n := 3) (Nat.le_of_ble_eq_true rfl)
  rw [lg_entry_eq]
  generalize (lg_sl ([.ref (p0a 0), .int p1, .int p2]) ++ List.replicate (3 - (lg_sl ([.ref (p0a 0), .int p1, .int p2])).length) Slot.unset).toArray = ls at hl ⊢
  have hl : lv_has ls 3 [(0, .ref (p0a 0)), (1, .int p1), (2, .int p2)] := hl
  obtain ⟨H, hHe⟩ : ∃ H, H = s.heap := ⟨_, rfl⟩
  obtain ⟨locs, hle⟩ : ∃ locs : List Loc, locs = [] := ⟨_, rfl⟩
  rw [← hHe] at hP
  have hS : va_S A s.heap H locs := by rw [hHe, hle]; exact hS
  show W p l e ({ frames := 2, cells := 0, slots := 0, locals := 45 } : Room) s m ([.ref (p0a 0), .int p1, .int p2] : List Value).toArray below meth c s.heap [] 0 0 Q (F0 m 0 ls [])
  rw [← hle]
  refine wH9 hHe ?_
  unfold fX2_noteUse at hrun
  refine lv_iload_n hx hb dX2_noteUse_0 rfl (lv_at hl 2 rfl) ?_
  refine lv_aload_n hx hb dX2_noteUse_1 rfl (lv_at hl 0 rfl) ?_
  refine va_get (D := (dC, dI)) (ci := 9) (v := .int (p0w 0 0)) (C := RX2) (T := TX2) (N := 19) hx hb hts i_X2 hown hK hP 0 rfl rfl 0 (by decide) (hts _ qw588) (fun _ h9 => h9) rfl dX2_noteUse_2 ?_
  have J31 : ∀ (p0l_31 : SL) (H : Heap) (locs : List Loc) (ls : Array Slot), (fX2_noteUse_J31 p0l_31) = some o → va_P (dC, dI) cls (oX2 (p0a 0) p0a p0k p0n p0w p0l_31) H → va_D A (oX2 (p0a 0) p0a p0k p0n p0w p0l_31) → va_S A s.heap H locs → lv_has ls 3 [] → W p l e ({ frames := 2, cells := 0, slots := 0, locals := 45 } : Room) s m ([.ref (p0a 0), .int p1, .int p2] : List Value).toArray below meth c H locs 0 0 Q (F0 m 31 ls []) := by
    intro p0l_31 H locs ls hrun hP hD hS hl
    unfold fX2_noteUse_J31 at hrun
    have ho9 : p0l_31 = o := Option.some.inj hrun
    have hP9 : va_P (dC, dI) cls (oX2 (p0a 0) p0a p0k p0n p0w o) H := by first | exact hP | (rw [← ho9]; exact hP)
    have hD9 : va_D A (oX2 (p0a 0) p0a p0k p0n p0w o) := by first | exact hD | (rw [← ho9]; exact hD)
    subst hQ
    exact W.vret hx hb hr (fun t ht hW => ⟨⟨(), rfl, trivial, ⟨by rw [ht]; exact hP9, va_K.moved hW.alike hK, hD9⟩⟩, hS.F ht⟩) hS.2.2 dX2_noteUse_31
  rcases br9 hrun with ⟨hc1, hrun⟩ | ⟨hc1, hrun⟩
  · refine lv_icmp_ge (tgt := 31) hx hb dX2_noteUse_5 (by decide) (fun _ => ?_) (fun c => absurd hc1 c)
    exact J31 p0l _ _ _ hrun hP hD hS (lv_sub hl [] rfl)
  · refine lv_icmp_ge (tgt := 31) hx hb dX2_noteUse_5 (by decide) (fun c => absurd c hc1) (fun _ => ?_)
    refine lv_aload_n hx hb dX2_noteUse_8 rfl (lv_at hl 0 rfl) ?_
    refine lv_aload_n hx hb dX2_noteUse_9 rfl (lv_at hl 0 rfl) ?_
    refine va_get (D := (dC, dI)) (ci := 9) (v := .ref (p0a 5)) (C := RX2) (T := TX2) (N := 19) hx hb hts i_X2 hown hK hP 0 rfl rfl 4 (by decide) (hts _ qw699) (fun _ h9 => h9) rfl dX2_noteUse_10 ?_
    refine lv_iload_n hx hb dX2_noteUse_13 rfl (lv_at hl 1 rfl) ?_
    refine lv_iload_n hx hb dX2_noteUse_14 rfl (lv_at hl 2 rfl) ?_
    obtain ⟨o_2, hc_2, hrun⟩ := bnd9 hrun
    have hPc := hP.sub (ws' := ((oX2 (p0a 0) p0a p0k p0n p0w p0l) ++ [((p0a 5), .inl ((p0k 5), (p0n 5), .inr (.inl (p0l 5))))])) [0, 1, 2, 3, 4, 5, 6, 7, 8, 9, 10, 11, 12, 13, 14, 15, 2] rfl
    have hDc := hD.sub (ws' := ((oX2 (p0a 0) p0a p0k p0n p0w p0l) ++ [((p0a 5), .inl ((p0k 5), (p0n 5), .inr (.inl (p0l 5))))])) [0, 1, 2, 3, 4, 5, 6, 7, 8, 9, 10, 11, 12, 13, 14, 15, 2] (by decide) rfl
    have hKc := hK.sub (tys' := ((tX2 p0k) ++ [((p0k 5), .long)])) [0, 1, 2, 3, 4, 5, 6, 7, 8, 9, 10, 11, 12, 13, 14, 1] rfl
    have hFc := va_free (wc := ((oX2 (p0a 0) p0a p0k p0n p0w p0l) ++ [((p0a 5), .inl ((p0k 5), (p0n 5), .inr (.inl (p0l 5))))])) hD hS hA [0, 1, 2, 3, 4, 5, 6, 7, 8, 9, 10, 11, 12, 13, 14, 15, 2] rfl
    refine va_calli (va_runV (As := [.ref (p0a 5), .int p1, .int p2]) (rest := []) ⟨hx, hb, hml, hown, hts⟩ (kX2_isIn l dC dI (p0a := (st0 (p0a 0) p0a)) (p0k := p0k) (p0n := p0n) (p0w := p0w) (p0l := p0l) (p1a := (p0a 5)) (p1k := (p0k 5)) (p1n := (p0n 5)) (p1f := (p0l 5)) (p2 := p1) (p3 := p2) (sz := _) (o := o_2) (hrun := hc_2)) (cwV 3 hts (gi_V qw592 qw593 qw594 qw595 (gi_z qw591)) rfl rfl rfl (by decide +kernel) ⟨Nat.le_of_ble_eq_true rfl, Nat.le_of_ble_eq_true rfl⟩) ⟨PRE.blind, va_recv hKc hPc (ci := 9) (q0 := 0) rfl rfl, PRE.of hE hS hFc hPc hKc hDc⟩ rfl rfl hl.1 rfl (lv_room (Nat.le_of_ble_eq_true rfl)) dX2_noteUse_15 ⟨Nat.le_of_ble_eq_true rfl, Nat.le_of_ble_eq_true rfl⟩) hS (fun q _ h => hFc q h) hFc (fun r3 u t H locs ht hvm hw hB hz1 hk1 hS => ?_)
    obtain ⟨hP, hD, hK⟩ := JOIN (wr := ([] : va_W)) hP hD hK [0, 1, 2, 3, 4, 5, 6, 7, 8, 9, 10, 11, 12, 13, 14, 15, 2] [] [] rfl rfl (by decide) (by decide) rfl hk1 hFc ht hvm hB
    have hP : va_P (dC, dI) cls (oX2 (p0a 0) p0a p0k p0n p0w p0l) H := hP.sub [0, 1, 2, 3, 4, 5, 6, 7, 8, 9, 10, 11, 12, 13, 14, 15] rfl
    have hD : va_D A (oX2 (p0a 0) p0a p0k p0n p0w p0l) := hD.sub [0, 1, 2, 3, 4, 5, 6, 7, 8, 9, 10, 11, 12, 13, 14, 15] (by decide) rfl
    have hK : va_K (dC, dI) cls (tX2 p0k) s := hK.sub [0, 1, 2, 3, 4, 5, 6, 7, 8, 9, 10, 11, 12, 13, 14] rfl
    obtain rfl : o_2 = r3 := hw.symm
    rcases br9 hrun with ⟨hc4, hrun⟩ | ⟨hc4, hrun⟩
    · refine lv_if_ne (tgt := 31) hx hb dX2_noteUse_18 (by decide) (fun c => absurd hc4 c) (fun _ => ?_)
      refine lv_aload_n hx hb dX2_noteUse_21 rfl (lv_at hl 0 rfl) ?_
      refine lv_aload_n hx hb dX2_noteUse_22 rfl (lv_at hl 0 rfl) ?_
      refine va_get (D := (dC, dI)) (ci := 9) (v := .ref (p0a 4)) (C := RX2) (T := TX2) (N := 19) hx hb hts i_X2 hown hK hP 0 rfl rfl 3 (by decide) (hts _ qw686) (fun _ h9 => h9) rfl dX2_noteUse_23 ?_
      refine lv_iload_n hx hb dX2_noteUse_26 rfl (lv_at hl 1 rfl) ?_
      refine lv_iload_n hx hb dX2_noteUse_27 rfl (lv_at hl 2 rfl) ?_
      obtain ⟨o_5, hc_5, hrun⟩ := bnd9 hrun
      have hPc := hP.sub (ws' := ((oX2 (p0a 0) p0a p0k p0n p0w p0l) ++ [((p0a 4), .inl ((p0k 4), (p0n 4), .inr (.inl (p0l 4))))])) [0, 1, 2, 3, 4, 5, 6, 7, 8, 9, 10, 11, 12, 13, 14, 15, 1] rfl
      have hDc := hD.sub (ws' := ((oX2 (p0a 0) p0a p0k p0n p0w p0l) ++ [((p0a 4), .inl ((p0k 4), (p0n 4), .inr (.inl (p0l 4))))])) [0, 1, 2, 3, 4, 5, 6, 7, 8, 9, 10, 11, 12, 13, 14, 15, 1] (by decide) rfl
      have hKc := hK.sub (tys' := ((tX2 p0k) ++ [((p0k 4), .long)])) [0, 1, 2, 3, 4, 5, 6, 7, 8, 9, 10, 11, 12, 13, 14, 0] rfl
      have hFc := va_free (wc := ((oX2 (p0a 0) p0a p0k p0n p0w p0l) ++ [((p0a 4), .inl ((p0k 4), (p0n 4), .inr (.inl (p0l 4))))])) hD hS hA [0, 1, 2, 3, 4, 5, 6, 7, 8, 9, 10, 11, 12, 13, 14, 15, 1] rfl
      refine va_callv (va_runV (As := [.ref (p0a 4), .int p1, .int p2]) (rest := []) ⟨hx, hb, hml, hown, hts⟩ (kX2_put l dC dI (p0a := (st0 (p0a 0) p0a)) (p0k := p0k) (p0n := p0n) (p0w := p0w) (p0l := p0l) (p1a := (p0a 4)) (p1k := (p0k 4)) (p1n := (p0n 4)) (p1f := (p0l 4)) (p2 := p1) (p3 := p2) (sz := _) (o := o_5) (hrun := hc_5)) (cwV 3 hts (gi_V qw634 qw635 qw636 qw595 (gi_z qw633)) rfl rfl rfl (by decide +kernel) ⟨Nat.le_of_ble_eq_true rfl, Nat.le_of_ble_eq_true rfl⟩) ⟨PRE.blind, va_recv hKc hPc (ci := 9) (q0 := 0) rfl rfl, PRE.of hE hS hFc hPc hKc hDc⟩ rfl rfl hl.1 rfl (lv_room (Nat.le_of_ble_eq_true rfl)) dX2_noteUse_28 ⟨Nat.le_of_ble_eq_true rfl, Nat.le_of_ble_eq_true rfl⟩) hS (fun q _ h => hFc q h) hFc (fun u t H locs ht hvm hw hB hz1 hk1 hS => ?_)
      obtain ⟨hP, hD, hK⟩ := JOIN (wr := ([] : va_W)) hP hD hK [0, 1, 2, 3, 4, 5, 6, 7, 8, 9, 10, 11, 12, 13, 14, 15, 1] [] [] rfl rfl (by decide) (by decide) rfl hk1 hFc ht hvm hB
      have hP : va_P (dC, dI) cls (oX2 (p0a 0) p0a p0k p0n p0w (srl p0l 4 o_5)) H := hP.sub [0, 1, 2, 3, 4, 5, 6, 7, 8, 9, 10, 11, 12, 13, 14, 15] rfl
      have hD : va_D A (oX2 (p0a 0) p0a p0k p0n p0w (srl p0l 4 o_5)) := hD.sub [0, 1, 2, 3, 4, 5, 6, 7, 8, 9, 10, 11, 12, 13, 14, 15] (by decide) rfl
      have hK : va_K (dC, dI) cls (tX2 p0k) s := hK.sub [0, 1, 2, 3, 4, 5, 6, 7, 8, 9, 10, 11, 12, 13, 14] rfl
      exact J31 (srl p0l 4 o_5) _ _ _ hrun hP hD hS (lv_sub hl [] rfl)
    · refine lv_if_ne (tgt := 31) hx hb dX2_noteUse_18 (by decide) (fun _ => ?_) (fun c => absurd c hc4)
      exact J31 p0l _ _ _ hrun hP hD hS (lv_sub hl [] rfl)
def fX2_noteBlock_J152 (kk57 : Int32 → SL → Option SL) (p1_2n : Nat → Nat) (p1_2w : ST) (v4_57 : Int32) (p0l_152 : SL) : Option SL := (if ixb v4_57 (p1_2n 6) = true then (kk57 (p1_2w 6 (nn v4_57)) p0l_152) else none)
def fX2_noteBlock_J112 (kk57 : Int32 → SL → Option SL) (p0n : Nat → Nat) (p0w : ST) (p2 : Int32) (p1_2n : Nat → Nat) (p1_2w : ST) (v4_57 : Int32) (p0l_112 : SL) : Option SL := (if ixb v4_57 (p1_2n 3) = true then (if (p1_2w 3 (nn v4_57)) < 0 then (fX2_noteBlock_J152 kk57 p1_2n p1_2w v4_57 p0l_112) else (if ixb v4_57 (p1_2n 3) = true then (if (p0w 0 0) ≤ (p1_2w 3 (nn v4_57)) then (fX2_noteBlock_J152 kk57 p1_2n p1_2w v4_57 p0l_112) else (if ixb v4_57 (p1_2n 3) = true then ((fX2_put p0w (p0n 5) (p0l_112 5) p2 (p1_2w 3 (nn v4_57))).bind fun (o_17 : RL) => (fX2_noteBlock_J152 kk57 p1_2n p1_2w v4_57 (srl p0l_112 5 o_17))) else none)) else none)) else none)
def fX2_noteBlock_J87 (kk57 : Int32 → SL → Option SL) (p0n : Nat → Nat) (p0w : ST) (p2 : Int32) (p1_2n : Nat → Nat) (p1_2w : ST) (v4_57 : Int32) (p0l_87 : SL) : Option SL := (if ixb v4_57 (p1_2n 2) = true then ((fX11_usesRight (p1_2w 2 (nn v4_57))).bind fun (o_9 : Int32) => (if o_9 = 0 then (fX2_noteBlock_J112 kk57 p0n p0w p2 p1_2n p1_2w v4_57 p0l_87) else (if ixb v4_57 (p1_2n 5) = true then ((fX2_noteUse p0n p0w p0l_87 p2 (p1_2w 5 (nn v4_57))).bind fun (o_20 : SL) => (fX2_noteBlock_J112 kk57 p0n p0w p2 p1_2n p1_2w v4_57 o_20)) else none))) else none)
def fX2_noteBlock_L57 (p0n : Nat → Nat) (p0w : ST) (p2 : Int32) (p1_2n : Nat → Nat) (p1_2w : ST) : Nat → Int32 → SL → Option SL
  | 0 => fun _ _ => none
  | n_57 + 1 => fun v4_57 p0l_57 => (if v4_57 < 0 then some p0l_57 else (if ixb v4_57 (p1_2n 2) = true then ((fX11_usesLeft (p1_2w 2 (nn v4_57))).bind fun (o_6 : Int32) => (if o_6 = 0 then (fX2_noteBlock_J87 (fX2_noteBlock_L57 p0n p0w p2 p1_2n p1_2w n_57) p0n p0w p2 p1_2n p1_2w v4_57 p0l_57) else (if ixb v4_57 (p1_2n 4) = true then ((fX2_noteUse p0n p0w p0l_57 p2 (p1_2w 4 (nn v4_57))).bind fun (o_23 : SL) => (fX2_noteBlock_J87 (fX2_noteBlock_L57 p0n p0w p2 p1_2n p1_2w n_57) p0n p0w p2 p1_2n p1_2w v4_57 o_23)) else none))) else none))
def fX2_noteBlock_J184 (p0l_184 : SL) : Option SL := some p0l_184
def fX2_noteBlock (p0n : Nat → Nat) (p0w : ST) (p0l : SL) (p1w : ST) (p2 : Int32) (p1_2n : Nat → Nat) (p1_2w : ST) : Option SL := ((fJ7_fill_bad5a (p0n 4) (p0l 4) (p2 * (p0w 0 2)) ((p2 + 1) * (p0w 0 2)) 0).bind fun (o_1 : RL) => ((fJ7_fill_bad5a (p0n 5) ((srl p0l 4 o_1) 5) (p2 * (p0w 0 2)) ((p2 + 1) * (p0w 0 2)) 0).bind fun (o_2 : RL) => (if ixb p2 60 = true then ((fX2_noteBlock_L57 p0n p0w p2 p1_2n p1_2w NF (p1w 4 (nn p2)) (srl (srl p0l 4 o_1) 5 o_2)).bind fun (o57 : SL) => (if ixb p2 60 = true then (if (p1w 9 (nn p2)) < 0 then (fX2_noteBlock_J184 o57) else (if ixb p2 60 = true then ((fX2_noteUse p0n p0w o57 p2 (p1w 9 (nn p2))).bind fun (o_27 : SL) => (fX2_noteBlock_J184 o_27)) else none)) else none)) else none)))
set_option maxHeartbeats 16000000 in
set_option maxRecDepth 100000 in
theorem kX2_noteBlock {zs : Nat × Nat} (l : Launch) (dC : Nat → ClassId) (dI : Nat → Nat → Nat) (p0a : Nat → Nat) (p0k : Nat → ClassId) (p0n : Nat → Nat) (p0w : ST) (p0l : SL) (p1a : Nat → Nat) (p1k : Nat → ClassId) (p1n : Nat → Nat) (p1w : ST) (p1l : SL) (p2 : Int32) (p1_2a : Nat → Nat) (p1_2k : Nat → ClassId) (p1_2n : Nat → Nat) (p1_2w : ST) (sz : Nat) (o : SL) (hrun : fX2_noteBlock p0n p0w p0l p1w p2 p1_2n p1_2w = some o) : Met l yX2_noteBlock (wz yX2_noteBlock cX2_noteBlock 5 (Option.none : Option Jvm.ClassFile.FieldType)) ({ frames := 3, cells := 0, slots := 0, locals := 67 } : Room) (va_Pc [.ref (p0a 0), .ref (p1a 0), .int p2] (PRE zs dC dI ((oX2 (p0a 0) p0a p0k p0n p0w p0l) ++ (oX1 (p1a 0) p1a p1k p1n p1w p1l) ++ (oX9 (p1a 3) p1_2a p1_2k p1_2n p1_2w)) ((tX2 p0k) ++ (tX1 p1k) ++ (tX9 p1_2k)) sz)) (va_Qv (fun (_ : Unit) => True) (fun _ t => POST dC dI ((oX2 (p0a 0) p0a p0k p0n p0w o) ++ (oX1 (p1a 0) p1a p1k p1n p1w p1l) ++ (oX9 (p1a 3) p1_2a p1_2k p1_2n p1_2w)) ((tX2 p0k) ++ (tX1 p1k) ++ (tX9 p1_2k)) (va_A ((oX2 (p0a 0) p0a p0k p0n p0w p0l) ++ (oX1 (p1a 0) p1a p1k p1n p1w p1l) ++ (oX9 (p1a 3) p1_2a p1_2k p1_2n p1_2w)) sz) t) (va_A ((oX2 (p0a 0) p0a p0k p0n p0w p0l) ++ (oX1 (p1a 0) p1a p1k p1n p1w p1l) ++ (oX9 (p1a 3) p1_2a p1_2k p1_2n p1_2w)) sz)) 0 0 (va_A ((oX2 (p0a 0) p0a p0k p0n p0w p0l) ++ (oX1 (p1a 0) p1a p1k p1n p1w p1l) ++ (oX9 (p1a 3) p1_2a p1_2k p1_2n p1_2w)) sz) := by
  refine Met.ofW (cc := cX2_noteBlock) (maxL := 5) (ret := (Option.none : Option Jvm.ClassFile.FieldType)) (by decide) rfl ?_
  intro p e s m args below meth c s₁ B hml hv
  obtain ⟨rfl, hsz, hP, hK, hD0, hE⟩ := hv
  have hx := B.exec
  have hb := B.bytes
  have hr := B.returns
  have hts0 := atoms_spec (ws := wz yX2_noteBlock cX2_noteBlock 5 (Option.none : Option Jvm.ClassFile.FieldType)) B.pre
  have hts : ∀ w ∈ gw, w.before _ s = true := fun w h => hts0 w (List.mem_cons_of_mem _ h)
  have hown : s.vm.findClass RX2 = some m.cls := findClass_of_methodNamed B.named
  have hlocks := B.notSynchronized
  subst hsz
  have hD := hD0.self (sz := s.heap.size)
  refine gQ9 ?_
  intro Q hQ
  generalize hAe : va_A ((oX2 (p0a 0) p0a p0k p0n p0w p0l) ++ (oX1 (p1a 0) p1a p1k p1n p1w p1l) ++ (oX9 (p1a 3) p1_2a p1_2k p1_2n p1_2w)) s.heap.size = A at hD hE hQ
  have hA : ∀ q : Nat, s.heap.size ≤ q → A q := fun q h => by rw [← hAe]; exact Or.inr h
  have hS : va_S A s.heap s.heap [] := va_S.rf
  have hP : va_P (dC, dI) cls ((oX2 (p0a 0) p0a p0k p0n p0w p0l) ++ (oX1 (p1a 0) p1a p1k p1n p1w p1l) ++ (oX9 (p1a 3) p1_2a p1_2k p1_2n p1_2w)) s.heap := hP
  have hl := lv_entry ([.ref (p0a 0), .ref (p1a 0), .int p2]) (n := 5) (Nat.le_of_ble_eq_true rfl)
  rw [lg_entry_eq]
  generalize (lg_sl ([.ref (p0a 0), .ref (p1a 0), .int p2]) ++ List.replicate (5 - (lg_sl ([.ref (p0a 0), .ref (p1a 0), .int p2])).length) Slot.unset).toArray = ls at hl ⊢
  have hl : lv_has ls 5 [(0, .ref (p0a 0)), (1, .ref (p1a 0)), (2, .int p2)] := hl
  obtain ⟨H, hHe⟩ : ∃ H, H = s.heap := ⟨_, rfl⟩
  obtain ⟨locs, hle⟩ : ∃ locs : List Loc, locs = [] := ⟨_, rfl⟩
  rw [← hHe] at hP
  have hS : va_S A s.heap H locs := by rw [hHe, hle]; exact hS
  show W p l e ({ frames := 3, cells := 0, slots := 0, locals := 67 } : Room) s m ([.ref (p0a 0), .ref (p1a 0), .int p2] : List Value).toArray below meth c s.heap [] 0 0 Q (F0 m 0 ls [])
  rw [← hle]
  refine wH9 hHe ?_
  unfold fX2_noteBlock at hrun
  refine lv_aload_n hx hb dX2_noteBlock_0 rfl (lv_at hl 0 rfl) ?_
  refine va_get (D := (dC, dI)) (ci := 9) (v := .ref (p0a 4)) (C := RX2) (T := TX2) (N := 19) hx hb hts i_X2 hown hK hP 0 rfl rfl 3 (by decide) (hts _ qw686) (fun _ h9 => h9) rfl dX2_noteBlock_1 ?_
  refine lv_iload_n hx hb dX2_noteBlock_4 rfl (lv_at hl 2 rfl) ?_
  refine lv_aload_n hx hb dX2_noteBlock_5 rfl (lv_at hl 0 rfl) ?_
  refine va_get (D := (dC, dI)) (ci := 9) (v := .int (p0w 0 2)) (C := RX2) (T := TX2) (N := 19) hx hb hts i_X2 hown hK hP 0 rfl rfl 2 (by decide) (hts _ qw590) (fun _ h9 => h9) rfl dX2_noteBlock_6 ?_
  refine lv_imul hx hb dX2_noteBlock_9 ?_
  refine lv_iload_n hx hb dX2_noteBlock_10 rfl (lv_at hl 2 rfl) ?_
  refine lv_iconst (v := 1) hx hb dX2_noteBlock_11 (by decide) ?_
  refine lv_iadd hx hb dX2_noteBlock_12 ?_
  refine lv_aload_n hx hb dX2_noteBlock_13 rfl (lv_at hl 0 rfl) ?_
  refine va_get (D := (dC, dI)) (ci := 9) (v := .int (p0w 0 2)) (C := RX2) (T := TX2) (N := 19) hx hb hts i_X2 hown hK hP 0 rfl rfl 2 (by decide) (hts _ qw590) (fun _ h9 => h9) rfl dX2_noteBlock_14 ?_
  refine lv_imul hx hb dX2_noteBlock_17 ?_
  refine lv_lconst (v := 0) hx hb dX2_noteBlock_18 (by decide) ?_
  obtain ⟨o_1, hc_1, hrun⟩ := bnd9 hrun
  have hPc := hP.sub (ws' := [((p0a 4), .inl ((p0k 4), (p0n 4), .inr (.inl (p0l 4))))]) [1] rfl
  have hDc := hD.sub (ws' := [((p0a 4), .inl ((p0k 4), (p0n 4), .inr (.inl (p0l 4))))]) [1] (by decide) rfl
  have hKc := hK.sub (tys' := [((p0k 4), .long)]) [0] rfl
  have hFc := va_free (wc := [((p0a 4), .inl ((p0k 4), (p0n 4), .inr (.inl (p0l 4))))]) hD hS hA [1] rfl
  refine va_callv (va_runS (As := [.ref (p0a 4), .int (p2 * (p0w 0 2)), .int ((p2 + 1) * (p0w 0 2)), .long 0]) (rest := []) ⟨hx, hb, hml, hown, hts⟩ (kJ7_fill_bad5a l dC dI (p0a := (p0a 4)) (p0k := (p0k 4)) (p0n := (p0n 4)) (p0f := (p0l 4)) (p1 := (p2 * (p0w 0 2))) (p2 := ((p2 + 1) * (p0w 0 2))) (p3 := 0) (sz := _) (o := o_1) (hrun := hc_1)) (va_cwS 4 hts (gi_S qw640 qw641 qw186 (gi_z qw639)) rfl rfl rfl (by decide +kernel) ⟨Nat.le_of_ble_eq_true rfl, Nat.le_of_ble_eq_true rfl⟩) ⟨PRE.blind, PRE.of hE hS hFc hPc hKc hDc⟩ rfl rfl hl.1 rfl (lv_room (Nat.le_of_ble_eq_true rfl)) dX2_noteBlock_19 ⟨Nat.le_of_ble_eq_true rfl, Nat.le_of_ble_eq_true rfl⟩) hS (fun q _ h => hFc q h) hFc (fun u t H locs ht hvm hw hB hz1 hk1 hS => ?_)
  obtain ⟨hP, hD, hK⟩ := JOIN (wr := ([((p0a 0), .inr (9, [.int (p0w 0 0), .int (p0w 0 1), .int (p0w 0 2), .ref (p0a 4), .ref (p0a 5), .ref (p0a 6), .ref (p0a 7), .ref (p0a 8), .int (p0w 0 8), .ref (p0a 10), .ref (p0a 11), .ref (p0a 12), .ref (p0a 13), .ref (p0a 14), .ref (p0a 15), .ref (p0a 16), .ref (p0a 17), .ref (p0a 18), .ref (p0a 19)])), ((p0a 5), .inl ((p0k 5), (p0n 5), .inr (.inl (p0l 5)))), ((p0a 6), .inl ((p0k 6), (p0n 6), .inr (.inl (p0l 6)))), ((p0a 7), .inl ((p0k 7), (p0n 7), .inr (.inl (p0l 7)))), ((p0a 8), .inl ((p0k 8), 2, .inl (p0w 8))), ((p0a 10), .inl ((p0k 10), (p0n 10), .inl (p0w 10))), ((p0a 11), .inl ((p0k 11), (p0n 11), .inr (.inl (p0l 11)))), ((p0a 12), .inl ((p0k 12), (p0n 12), .inl (p0w 12))), ((p0a 13), .inl ((p0k 13), (p0n 13), .inl (p0w 13))), ((p0a 14), .inl ((p0k 14), (p0n 14), .inr (.inl (p0l 14)))), ((p0a 15), .inl ((p0k 15), (p0n 15), .inl (p0w 15))), ((p0a 16), .inl ((p0k 16), (p0n 16), .inl (p0w 16))), ((p0a 17), .inl ((p0k 17), (p0n 17), .inl (p0w 17))), ((p0a 18), .inl ((p0k 18), (p0n 18), .inl (p0w 18))), ((p0a 19), .inl ((p0k 19), (p0n 19), .inl (p0w 19)))] ++ (oX1 (p1a 0) p1a p1k p1n p1w p1l) ++ (oX9 (p1a 3) p1_2a p1_2k p1_2n p1_2w))) hP hD hK [1] [0, 2, 3, 4, 5, 6, 7, 8, 9, 10, 11, 12, 13, 14, 15, 16, 17, 18, 19, 20, 21, 22, 23, 24, 25, 26, 27, 28, 29, 30, 31, 32, 33, 34, 35, 36, 37, 38, 39] [1, 2, 3, 4, 5, 6, 7, 8, 9, 10, 11, 12, 13, 14, 15, 16, 17, 18, 19, 20, 21, 22, 23, 24, 25, 26, 27, 28, 29, 30, 31, 32, 33, 34, 35, 36] rfl rfl (by decide) (by decide) rfl hk1 hFc ht hvm hB
  have hP : va_P (dC, dI) cls ((oX2 (p0a 0) p0a p0k p0n p0w (srl p0l 4 o_1)) ++ (oX1 (p1a 0) p1a p1k p1n p1w p1l) ++ (oX9 (p1a 3) p1_2a p1_2k p1_2n p1_2w)) H := hP.sub [0, 39, 1, 2, 3, 4, 5, 6, 7, 8, 9, 10, 11, 12, 13, 14, 15, 16, 17, 18, 19, 20, 21, 22, 23, 24, 25, 26, 27, 28, 29, 30, 31, 32, 33, 34, 35, 36, 37, 38] rfl
  have hD : va_D A ((oX2 (p0a 0) p0a p0k p0n p0w (srl p0l 4 o_1)) ++ (oX1 (p1a 0) p1a p1k p1n p1w p1l) ++ (oX9 (p1a 3) p1_2a p1_2k p1_2n p1_2w)) := hD.sub [0, 39, 1, 2, 3, 4, 5, 6, 7, 8, 9, 10, 11, 12, 13, 14, 15, 16, 17, 18, 19, 20, 21, 22, 23, 24, 25, 26, 27, 28, 29, 30, 31, 32, 33, 34, 35, 36, 37, 38] (by decide) rfl
  have hK : va_K (dC, dI) cls ((tX2 p0k) ++ (tX1 p1k) ++ (tX9 p1_2k)) s := hK.sub [36, 0, 1, 2, 3, 4, 5, 6, 7, 8, 9, 10, 11, 12, 13, 14, 15, 16, 17, 18, 19, 20, 21, 22, 23, 24, 25, 26, 27, 28, 29, 30, 31, 32, 33, 34, 35] rfl
  refine lv_aload_n hx hb dX2_noteBlock_22 rfl (lv_at hl 0 rfl) ?_
  refine va_get (D := (dC, dI)) (ci := 9) (v := .ref (p0a 5)) (C := RX2) (T := TX2) (N := 19) hx hb hts i_X2 hown hK hP 0 rfl rfl 4 (by decide) (hts _ qw699) (fun _ h9 => h9) rfl dX2_noteBlock_23 ?_
  refine lv_iload_n hx hb dX2_noteBlock_26 rfl (lv_at hl 2 rfl) ?_
  refine lv_aload_n hx hb dX2_noteBlock_27 rfl (lv_at hl 0 rfl) ?_
  refine va_get (D := (dC, dI)) (ci := 9) (v := .int (p0w 0 2)) (C := RX2) (T := TX2) (N := 19) hx hb hts i_X2 hown hK hP 0 rfl rfl 2 (by decide) (hts _ qw590) (fun _ h9 => h9) rfl dX2_noteBlock_28 ?_
  refine lv_imul hx hb dX2_noteBlock_31 ?_
  refine lv_iload_n hx hb dX2_noteBlock_32 rfl (lv_at hl 2 rfl) ?_
  refine lv_iconst (v := 1) hx hb dX2_noteBlock_33 (by decide) ?_
  refine lv_iadd hx hb dX2_noteBlock_34 ?_
  refine lv_aload_n hx hb dX2_noteBlock_35 rfl (lv_at hl 0 rfl) ?_
  refine va_get (D := (dC, dI)) (ci := 9) (v := .int (p0w 0 2)) (C := RX2) (T := TX2) (N := 19) hx hb hts i_X2 hown hK hP 0 rfl rfl 2 (by decide) (hts _ qw590) (fun _ h9 => h9) rfl dX2_noteBlock_36 ?_
  refine lv_imul hx hb dX2_noteBlock_39 ?_
  refine lv_lconst (v := 0) hx hb dX2_noteBlock_40 (by decide) ?_
  obtain ⟨o_2, hc_2, hrun⟩ := bnd9 hrun
  have hPc := hP.sub (ws' := [((p0a 5), .inl ((p0k 5), (p0n 5), .inr (.inl ((srl p0l 4 o_1) 5))))]) [2] rfl
  have hDc := hD.sub (ws' := [((p0a 5), .inl ((p0k 5), (p0n 5), .inr (.inl ((srl p0l 4 o_1) 5))))]) [2] (by decide) rfl
  have hKc := hK.sub (tys' := [((p0k 5), .long)]) [1] rfl
  have hFc := va_free (wc := [((p0a 5), .inl ((p0k 5), (p0n 5), .inr (.inl ((srl p0l 4 o_1) 5))))]) hD hS hA [2] rfl
  refine va_callv (va_runS (As := [.ref (p0a 5), .int (p2 * (p0w 0 2)), .int ((p2 + 1) * (p0w 0 2)), .long 0]) (rest := []) ⟨hx, hb, hml, hown, hts⟩ (kJ7_fill_bad5a l dC dI (p0a := (p0a 5)) (p0k := (p0k 5)) (p0n := (p0n 5)) (p0f := ((srl p0l 4 o_1) 5)) (p1 := (p2 * (p0w 0 2))) (p2 := ((p2 + 1) * (p0w 0 2))) (p3 := 0) (sz := _) (o := o_2) (hrun := hc_2)) (va_cwS 4 hts (gi_S qw640 qw641 qw186 (gi_z qw639)) rfl rfl rfl (by decide +kernel) ⟨Nat.le_of_ble_eq_true rfl, Nat.le_of_ble_eq_true rfl⟩) ⟨PRE.blind, PRE.of hE hS hFc hPc hKc hDc⟩ rfl rfl hl.1 rfl (lv_room (Nat.le_of_ble_eq_true rfl)) dX2_noteBlock_41 ⟨Nat.le_of_ble_eq_true rfl, Nat.le_of_ble_eq_true rfl⟩) hS (fun q _ h => hFc q h) hFc (fun u t H locs ht hvm hw hB hz1 hk1 hS => ?_)
  obtain ⟨hP, hD, hK⟩ := JOIN (wr := ([((p0a 0), .inr (9, [.int (p0w 0 0), .int (p0w 0 1), .int (p0w 0 2), .ref (p0a 4), .ref (p0a 5), .ref (p0a 6), .ref (p0a 7), .ref (p0a 8), .int (p0w 0 8), .ref (p0a 10), .ref (p0a 11), .ref (p0a 12), .ref (p0a 13), .ref (p0a 14), .ref (p0a 15), .ref (p0a 16), .ref (p0a 17), .ref (p0a 18), .ref (p0a 19)])), ((p0a 4), .inl ((p0k 4), (p0n 4), .inr (.inl ((srl p0l 4 o_1) 4)))), ((p0a 6), .inl ((p0k 6), (p0n 6), .inr (.inl ((srl p0l 4 o_1) 6)))), ((p0a 7), .inl ((p0k 7), (p0n 7), .inr (.inl ((srl p0l 4 o_1) 7)))), ((p0a 8), .inl ((p0k 8), 2, .inl (p0w 8))), ((p0a 10), .inl ((p0k 10), (p0n 10), .inl (p0w 10))), ((p0a 11), .inl ((p0k 11), (p0n 11), .inr (.inl ((srl p0l 4 o_1) 11)))), ((p0a 12), .inl ((p0k 12), (p0n 12), .inl (p0w 12))), ((p0a 13), .inl ((p0k 13), (p0n 13), .inl (p0w 13))), ((p0a 14), .inl ((p0k 14), (p0n 14), .inr (.inl ((srl p0l 4 o_1) 14)))), ((p0a 15), .inl ((p0k 15), (p0n 15), .inl (p0w 15))), ((p0a 16), .inl ((p0k 16), (p0n 16), .inl (p0w 16))), ((p0a 17), .inl ((p0k 17), (p0n 17), .inl (p0w 17))), ((p0a 18), .inl ((p0k 18), (p0n 18), .inl (p0w 18))), ((p0a 19), .inl ((p0k 19), (p0n 19), .inl (p0w 19)))] ++ (oX1 (p1a 0) p1a p1k p1n p1w p1l) ++ (oX9 (p1a 3) p1_2a p1_2k p1_2n p1_2w))) hP hD hK [2] [0, 1, 3, 4, 5, 6, 7, 8, 9, 10, 11, 12, 13, 14, 15, 16, 17, 18, 19, 20, 21, 22, 23, 24, 25, 26, 27, 28, 29, 30, 31, 32, 33, 34, 35, 36, 37, 38, 39] [0, 2, 3, 4, 5, 6, 7, 8, 9, 10, 11, 12, 13, 14, 15, 16, 17, 18, 19, 20, 21, 22, 23, 24, 25, 26, 27, 28, 29, 30, 31, 32, 33, 34, 35, 36] rfl rfl (by decide) (by decide) rfl hk1 hFc ht hvm hB
  have hP : va_P (dC, dI) cls ((oX2 (p0a 0) p0a p0k p0n p0w (srl (srl p0l 4 o_1) 5 o_2)) ++ (oX1 (p1a 0) p1a p1k p1n p1w p1l) ++ (oX9 (p1a 3) p1_2a p1_2k p1_2n p1_2w)) H := hP.sub [0, 1, 39, 2, 3, 4, 5, 6, 7, 8, 9, 10, 11, 12, 13, 14, 15, 16, 17, 18, 19, 20, 21, 22, 23, 24, 25, 26, 27, 28, 29, 30, 31, 32, 33, 34, 35, 36, 37, 38] rfl
  have hD : va_D A ((oX2 (p0a 0) p0a p0k p0n p0w (srl (srl p0l 4 o_1) 5 o_2)) ++ (oX1 (p1a 0) p1a p1k p1n p1w p1l) ++ (oX9 (p1a 3) p1_2a p1_2k p1_2n p1_2w)) := hD.sub [0, 1, 39, 2, 3, 4, 5, 6, 7, 8, 9, 10, 11, 12, 13, 14, 15, 16, 17, 18, 19, 20, 21, 22, 23, 24, 25, 26, 27, 28, 29, 30, 31, 32, 33, 34, 35, 36, 37, 38] (by decide) rfl
  have hK : va_K (dC, dI) cls ((tX2 p0k) ++ (tX1 p1k) ++ (tX9 p1_2k)) s := hK.sub [0, 36, 1, 2, 3, 4, 5, 6, 7, 8, 9, 10, 11, 12, 13, 14, 15, 16, 17, 18, 19, 20, 21, 22, 23, 24, 25, 26, 27, 28, 29, 30, 31, 32, 33, 34, 35] rfl
  refine lv_aload_n hx hb dX2_noteBlock_44 rfl (lv_at hl 1 rfl) ?_
  refine va_get (D := (dC, dI)) (ci := 4) (v := .ref (p1a 3)) (C := RX1) (T := TX1) (N := 21) hx hb hts i_X1 hown hK hP 16 rfl rfl 2 (by decide) (hts _ qw644) (fun _ h9 => h9) rfl dX2_noteBlock_45 ?_
  refine lv_astore_n (lv' := [(3, .ref (p1a 3)), (0, .ref (p0a 0)), (1, .ref (p1a 0)), (2, .int p2)]) hx hb dX2_noteBlock_48 rfl hl (by decide) rfl (fun ls hl => ?_)
  refine lv_aload_n hx hb dX2_noteBlock_49 rfl (lv_at hl 2 rfl) ?_
  refine va_get (D := (dC, dI)) (ci := 4) (v := .ref (p1a 4)) (C := RX1) (T := TX1) (N := 21) hx hb hts i_X1 hown hK hP 16 rfl rfl 3 (by decide) (hts _ qw648) (fun _ h9 => h9) rfl dX2_noteBlock_50 ?_
  refine lv_iload_n hx hb dX2_noteBlock_53 rfl (lv_at hl 3 rfl) ?_
  obtain ⟨hq3, hrun⟩ := chk9 hrun
  refine va_iald hx hb hK hP 17 15 rfl rfl (ixb_in hq3) dX2_noteBlock_54 ?_
  refine lv_istore (lv' := [(4, .int (p1w 4 (nn p2))), (3, .ref (p1a 3)), (0, .ref (p0a 0)), (1, .ref (p1a 0)), (2, .int p2)]) hx hb dX2_noteBlock_55 hl (by decide) rfl (fun ls hl => ?_)
  have L57 : ∀ (n_57 : Nat) (v4_57 : Int32) (p0l_57 : SL) (o57 : SL) (H : Heap) (locs : List Loc) (ls : Array Slot), (fX2_noteBlock_L57 p0n p0w p2 p1_2n p1_2w n_57) v4_57 p0l_57 = some o57 → va_P (dC, dI) cls ((oX2 (p0a 0) p0a p0k p0n p0w p0l_57) ++ (oX1 (p1a 0) p1a p1k p1n p1w p1l) ++ (oX9 (p1a 3) p1_2a p1_2k p1_2n p1_2w)) H → va_D A ((oX2 (p0a 0) p0a p0k p0n p0w p0l_57) ++ (oX1 (p1a 0) p1a p1k p1n p1w p1l) ++ (oX9 (p1a 3) p1_2a p1_2k p1_2n p1_2w)) → va_S A s.heap H locs → lv_has ls 5 [(0, .ref (p0a 0)), (1, .ref (p1a 0)), (2, .int p2), (3, .ref (p1a 3)), (4, .int v4_57)] → (∀ (H : Heap) (locs : List Loc) (ls : Array Slot), va_P (dC, dI) cls ((oX2 (p0a 0) p0a p0k p0n p0w o57) ++ (oX1 (p1a 0) p1a p1k p1n p1w p1l) ++ (oX9 (p1a 3) p1_2a p1_2k p1_2n p1_2w)) H → va_D A ((oX2 (p0a 0) p0a p0k p0n p0w o57) ++ (oX1 (p1a 0) p1a p1k p1n p1w p1l) ++ (oX9 (p1a 3) p1_2a p1_2k p1_2n p1_2w)) → va_S A s.heap H locs → lv_has ls 5 [(0, .ref (p0a 0)), (1, .ref (p1a 0)), (2, .int p2)] → W p l e ({ frames := 3, cells := 0, slots := 0, locals := 67 } : Room) s m ([.ref (p0a 0), .ref (p1a 0), .int p2] : List Value).toArray below meth c H locs 0 0 Q (F0 m 164 ls [])) → W p l e ({ frames := 3, cells := 0, slots := 0, locals := 67 } : Room) s m ([.ref (p0a 0), .ref (p1a 0), .int p2] : List Value).toArray below meth c H locs 0 0 Q (F0 m 57 ls []) := by
    intro n_57
    induction n_57 with
    | zero => intro v4_57 p0l_57 o57 H locs ls hrun; exact (no9 rfl hrun).elim
    | succ n_57 IH57 =>
      intro v4_57 p0l_57 o57 H locs ls hrun hP hD hS hl hk57
      unfold fX2_noteBlock_L57 at hrun
      refine lv_iload hx hb dX2_noteBlock_57 (lv_at hl 4 rfl) ?_
      rcases br9 hrun with ⟨hc4, hrun⟩ | ⟨hc4, hrun⟩
      · refine lv_if_lt (tgt := 164) hx hb dX2_noteBlock_59 (by decide) (fun _ => ?_) (fun c => absurd hc4 c)
        obtain rfl := (Option.some.inj hrun)
        exact hk57 _ _ _ hP hD hS (lv_sub hl [0, 1, 2] rfl)
      · refine lv_if_lt (tgt := 164) hx hb dX2_noteBlock_59 (by decide) (fun c => absurd c hc4) (fun _ => ?_)
        refine lv_aload_n hx hb dX2_noteBlock_62 rfl (lv_at hl 3 rfl) ?_
        refine va_get (D := (dC, dI)) (ci := 3) (v := .ref (p1_2a 2)) (C := RX9) (T := TX9) (N := 6) hx hb hts i_X9 hown hK hP 34 rfl rfl 1 (by decide) (hts _ qw649) (fun _ h9 => h9) rfl dX2_noteBlock_63 ?_
        refine lv_iload hx hb dX2_noteBlock_66 (lv_at hl 4 rfl) ?_
        obtain ⟨hq5, hrun⟩ := chk9 hrun
        refine va_iald hx hb hK hP 35 32 rfl rfl (ixb_in hq5) dX2_noteBlock_68 ?_
        obtain ⟨o_6, hc_6, hrun⟩ := bnd9 hrun
        have hPc := hP.sub (ws' := ([] : va_W)) [] rfl
        have hDc := hD.sub (ws' := ([] : va_W)) [] (by decide) rfl
        have hKc := hK.sub (tys' := ([] : List (ClassId × FieldType))) [] rfl
        have hFc := va_free (wc := ([] : va_W)) hD hS hA [] rfl
        refine va_calli (va_runSN (As := [.int (p1_2w 2 (nn v4_57))]) (rest := []) ⟨hx, hb, hml, hown, hts⟩ (kX11_usesLeft l dC dI (p0 := (p1_2w 2 (nn v4_57))) (sz := _) (o := o_6) (hrun := hc_6)) ⟨(va_cnB 1 hts (gi_z qw394) rfl rfl rfl (hE.nw (List.mem_append_right _ (tbl_8 (i := 214) rfl)) rfl) (hts _ qw159) (by decide +kernel) ⟨Nat.le_of_ble_eq_true rfl, Nat.le_of_ble_eq_true rfl⟩), (hts _ qw395), trivial⟩ ⟨PRE.blind, PRE.of hE hS hFc hPc hKc hDc⟩ rfl rfl hl.1 rfl (lv_room (Nat.le_of_ble_eq_true rfl)) dX2_noteBlock_69 ⟨Nat.le_of_ble_eq_true rfl, Nat.le_of_ble_eq_true rfl⟩) hS (fun q _ h => hFc q h) hFc (fun r7 u t H locs ht hvm hw hB hz1 hk1 hS => ?_)
        obtain ⟨hP, hD, hK⟩ := JOIN (wr := ((oX2 (p0a 0) p0a p0k p0n p0w p0l_57) ++ (oX1 (p1a 0) p1a p1k p1n p1w p1l) ++ (oX9 (p1a 3) p1_2a p1_2k p1_2n p1_2w))) hP hD hK [] [0, 1, 2, 3, 4, 5, 6, 7, 8, 9, 10, 11, 12, 13, 14, 15, 16, 17, 18, 19, 20, 21, 22, 23, 24, 25, 26, 27, 28, 29, 30, 31, 32, 33, 34, 35, 36, 37, 38, 39] [0, 1, 2, 3, 4, 5, 6, 7, 8, 9, 10, 11, 12, 13, 14, 15, 16, 17, 18, 19, 20, 21, 22, 23, 24, 25, 26, 27, 28, 29, 30, 31, 32, 33, 34, 35, 36] rfl rfl (by decide) (by decide) rfl hk1 hFc ht hvm hB
        have hP : va_P (dC, dI) cls ((oX2 (p0a 0) p0a p0k p0n p0w p0l_57) ++ (oX1 (p1a 0) p1a p1k p1n p1w p1l) ++ (oX9 (p1a 3) p1_2a p1_2k p1_2n p1_2w)) H := hP.sub [0, 1, 2, 3, 4, 5, 6, 7, 8, 9, 10, 11, 12, 13, 14, 15, 16, 17, 18, 19, 20, 21, 22, 23, 24, 25, 26, 27, 28, 29, 30, 31, 32, 33, 34, 35, 36, 37, 38, 39] rfl
        have hD : va_D A ((oX2 (p0a 0) p0a p0k p0n p0w p0l_57) ++ (oX1 (p1a 0) p1a p1k p1n p1w p1l) ++ (oX9 (p1a 3) p1_2a p1_2k p1_2n p1_2w)) := hD.sub [0, 1, 2, 3, 4, 5, 6, 7, 8, 9, 10, 11, 12, 13, 14, 15, 16, 17, 18, 19, 20, 21, 22, 23, 24, 25, 26, 27, 28, 29, 30, 31, 32, 33, 34, 35, 36, 37, 38, 39] (by decide) rfl
        have hK : va_K (dC, dI) cls ((tX2 p0k) ++ (tX1 p1k) ++ (tX9 p1_2k)) s := hK.sub [0, 1, 2, 3, 4, 5, 6, 7, 8, 9, 10, 11, 12, 13, 14, 15, 16, 17, 18, 19, 20, 21, 22, 23, 24, 25, 26, 27, 28, 29, 30, 31, 32, 33, 34, 35, 36] rfl
        obtain rfl : o_6 = r7 := hw.symm
        have J87 : ∀ (p0l_87 : SL) (H : Heap) (locs : List Loc) (ls : Array Slot), (fX2_noteBlock_J87 (fX2_noteBlock_L57 p0n p0w p2 p1_2n p1_2w n_57) p0n p0w p2 p1_2n p1_2w v4_57 p0l_87) = some o57 → va_P (dC, dI) cls ((oX2 (p0a 0) p0a p0k p0n p0w p0l_87) ++ (oX1 (p1a 0) p1a p1k p1n p1w p1l) ++ (oX9 (p1a 3) p1_2a p1_2k p1_2n p1_2w)) H → va_D A ((oX2 (p0a 0) p0a p0k p0n p0w p0l_87) ++ (oX1 (p1a 0) p1a p1k p1n p1w p1l) ++ (oX9 (p1a 3) p1_2a p1_2k p1_2n p1_2w)) → va_S A s.heap H locs → lv_has ls 5 [(0, .ref (p0a 0)), (1, .ref (p1a 0)), (2, .int p2), (3, .ref (p1a 3)), (4, .int v4_57)] → W p l e ({ frames := 3, cells := 0, slots := 0, locals := 67 } : Room) s m ([.ref (p0a 0), .ref (p1a 0), .int p2] : List Value).toArray below meth c H locs 0 0 Q (F0 m 87 ls []) := by
          intro p0l_87 H locs ls hrun hP hD hS hl
          unfold fX2_noteBlock_J87 at hrun
          refine lv_aload_n hx hb dX2_noteBlock_87 rfl (lv_at hl 3 rfl) ?_
          refine va_get (D := (dC, dI)) (ci := 3) (v := .ref (p1_2a 2)) (C := RX9) (T := TX9) (N := 6) hx hb hts i_X9 hown hK hP 34 rfl rfl 1 (by decide) (hts _ qw649) (fun _ h9 => h9) rfl dX2_noteBlock_88 ?_
          refine lv_iload hx hb dX2_noteBlock_91 (lv_at hl 4 rfl) ?_
          obtain ⟨hq8, hrun⟩ := chk9 hrun
          refine va_iald hx hb hK hP 35 32 rfl rfl (ixb_in hq8) dX2_noteBlock_93 ?_
          obtain ⟨o_9, hc_9, hrun⟩ := bnd9 hrun
          have hPc := hP.sub (ws' := ([] : va_W)) [] rfl
          have hDc := hD.sub (ws' := ([] : va_W)) [] (by decide) rfl
          have hKc := hK.sub (tys' := ([] : List (ClassId × FieldType))) [] rfl
          have hFc := va_free (wc := ([] : va_W)) hD hS hA [] rfl
          refine va_calli (va_runSN (As := [.int (p1_2w 2 (nn v4_57))]) (rest := []) ⟨hx, hb, hml, hown, hts⟩ (kX11_usesRight l dC dI (p0 := (p1_2w 2 (nn v4_57))) (sz := _) (o := o_9) (hrun := hc_9)) ⟨(va_cnB 1 hts (gi_z qw314) rfl rfl rfl (hE.nw (List.mem_append_right _ (tbl_8 (i := 228) rfl)) rfl) (hts _ qw159) (by decide +kernel) ⟨Nat.le_of_ble_eq_true rfl, Nat.le_of_ble_eq_true rfl⟩), (hts _ qw315), trivial⟩ ⟨PRE.blind, PRE.of hE hS hFc hPc hKc hDc⟩ rfl rfl hl.1 rfl (lv_room (Nat.le_of_ble_eq_true rfl)) dX2_noteBlock_94 ⟨Nat.le_of_ble_eq_true rfl, Nat.le_of_ble_eq_true rfl⟩) hS (fun q _ h => hFc q h) hFc (fun r10 u t H locs ht hvm hw hB hz1 hk1 hS => ?_)
          obtain ⟨hP, hD, hK⟩ := JOIN (wr := ((oX2 (p0a 0) p0a p0k p0n p0w p0l_87) ++ (oX1 (p1a 0) p1a p1k p1n p1w p1l) ++ (oX9 (p1a 3) p1_2a p1_2k p1_2n p1_2w))) hP hD hK [] [0, 1, 2, 3, 4, 5, 6, 7, 8, 9, 10, 11, 12, 13, 14, 15, 16, 17, 18, 19, 20, 21, 22, 23, 24, 25, 26, 27, 28, 29, 30, 31, 32, 33, 34, 35, 36, 37, 38, 39] [0, 1, 2, 3, 4, 5, 6, 7, 8, 9, 10, 11, 12, 13, 14, 15, 16, 17, 18, 19, 20, 21, 22, 23, 24, 25, 26, 27, 28, 29, 30, 31, 32, 33, 34, 35, 36] rfl rfl (by decide) (by decide) rfl hk1 hFc ht hvm hB
          have hP : va_P (dC, dI) cls ((oX2 (p0a 0) p0a p0k p0n p0w p0l_87) ++ (oX1 (p1a 0) p1a p1k p1n p1w p1l) ++ (oX9 (p1a 3) p1_2a p1_2k p1_2n p1_2w)) H := hP.sub [0, 1, 2, 3, 4, 5, 6, 7, 8, 9, 10, 11, 12, 13, 14, 15, 16, 17, 18, 19, 20, 21, 22, 23, 24, 25, 26, 27, 28, 29, 30, 31, 32, 33, 34, 35, 36, 37, 38, 39] rfl
          have hD : va_D A ((oX2 (p0a 0) p0a p0k p0n p0w p0l_87) ++ (oX1 (p1a 0) p1a p1k p1n p1w p1l) ++ (oX9 (p1a 3) p1_2a p1_2k p1_2n p1_2w)) := hD.sub [0, 1, 2, 3, 4, 5, 6, 7, 8, 9, 10, 11, 12, 13, 14, 15, 16, 17, 18, 19, 20, 21, 22, 23, 24, 25, 26, 27, 28, 29, 30, 31, 32, 33, 34, 35, 36, 37, 38, 39] (by decide) rfl
          have hK : va_K (dC, dI) cls ((tX2 p0k) ++ (tX1 p1k) ++ (tX9 p1_2k)) s := hK.sub [0, 1, 2, 3, 4, 5, 6, 7, 8, 9, 10, 11, 12, 13, 14, 15, 16, 17, 18, 19, 20, 21, 22, 23, 24, 25, 26, 27, 28, 29, 30, 31, 32, 33, 34, 35, 36] rfl
          obtain rfl : o_9 = r10 := hw.symm
          have J112 : ∀ (p0l_112 : SL) (H : Heap) (locs : List Loc) (ls : Array Slot), (fX2_noteBlock_J112 (fX2_noteBlock_L57 p0n p0w p2 p1_2n p1_2w n_57) p0n p0w p2 p1_2n p1_2w v4_57 p0l_112) = some o57 → va_P (dC, dI) cls ((oX2 (p0a 0) p0a p0k p0n p0w p0l_112) ++ (oX1 (p1a 0) p1a p1k p1n p1w p1l) ++ (oX9 (p1a 3) p1_2a p1_2k p1_2n p1_2w)) H → va_D A ((oX2 (p0a 0) p0a p0k p0n p0w p0l_112) ++ (oX1 (p1a 0) p1a p1k p1n p1w p1l) ++ (oX9 (p1a 3) p1_2a p1_2k p1_2n p1_2w)) → va_S A s.heap H locs → lv_has ls 5 [(0, .ref (p0a 0)), (1, .ref (p1a 0)), (2, .int p2), (3, .ref (p1a 3)), (4, .int v4_57)] → W p l e ({ frames := 3, cells := 0, slots := 0, locals := 67 } : Room) s m ([.ref (p0a 0), .ref (p1a 0), .int p2] : List Value).toArray below meth c H locs 0 0 Q (F0 m 112 ls []) := by
            intro p0l_112 H locs ls hrun hP hD hS hl
            unfold fX2_noteBlock_J112 at hrun
            refine lv_aload_n hx hb dX2_noteBlock_112 rfl (lv_at hl 3 rfl) ?_
            refine va_get (D := (dC, dI)) (ci := 3) (v := .ref (p1_2a 3)) (C := RX9) (T := TX9) (N := 6) hx hb hts i_X9 hown hK hP 34 rfl rfl 2 (by decide) (hts _ qw650) (fun _ h9 => h9) rfl dX2_noteBlock_113 ?_
            refine lv_iload hx hb dX2_noteBlock_116 (lv_at hl 4 rfl) ?_
            obtain ⟨hq11, hrun⟩ := chk9 hrun
            refine va_iald hx hb hK hP 36 33 rfl rfl (ixb_in hq11) dX2_noteBlock_118 ?_
            have J152 : ∀ (p0l_152 : SL) (H : Heap) (locs : List Loc) (ls : Array Slot), (fX2_noteBlock_J152 (fX2_noteBlock_L57 p0n p0w p2 p1_2n p1_2w n_57) p1_2n p1_2w v4_57 p0l_152) = some o57 → va_P (dC, dI) cls ((oX2 (p0a 0) p0a p0k p0n p0w p0l_152) ++ (oX1 (p1a 0) p1a p1k p1n p1w p1l) ++ (oX9 (p1a 3) p1_2a p1_2k p1_2n p1_2w)) H → va_D A ((oX2 (p0a 0) p0a p0k p0n p0w p0l_152) ++ (oX1 (p1a 0) p1a p1k p1n p1w p1l) ++ (oX9 (p1a 3) p1_2a p1_2k p1_2n p1_2w)) → va_S A s.heap H locs → lv_has ls 5 [(0, .ref (p0a 0)), (1, .ref (p1a 0)), (2, .int p2), (3, .ref (p1a 3)), (4, .int v4_57)] → W p l e ({ frames := 3, cells := 0, slots := 0, locals := 67 } : Room) s m ([.ref (p0a 0), .ref (p1a 0), .int p2] : List Value).toArray below meth c H locs 0 0 Q (F0 m 152 ls []) := by
              intro p0l_152 H locs ls hrun hP hD hS hl
              unfold fX2_noteBlock_J152 at hrun
              refine lv_aload_n hx hb dX2_noteBlock_152 rfl (lv_at hl 3 rfl) ?_
              refine va_get (D := (dC, dI)) (ci := 3) (v := .ref (p1_2a 6)) (C := RX9) (T := TX9) (N := 6) hx hb hts i_X9 hown hK hP 34 rfl rfl 5 (by decide) (hts _ qw651) (fun _ h9 => h9) rfl dX2_noteBlock_153 ?_
              refine lv_iload hx hb dX2_noteBlock_156 (lv_at hl 4 rfl) ?_
              obtain ⟨hq12, hrun⟩ := chk9 hrun
              refine va_iald hx hb hK hP 39 36 rfl rfl (ixb_in hq12) dX2_noteBlock_158 ?_
              refine lv_istore (lv' := [(4, .int (p1_2w 6 (nn v4_57))), (0, .ref (p0a 0)), (1, .ref (p1a 0)), (2, .int p2), (3, .ref (p1a 3))]) hx hb dX2_noteBlock_159 hl (by decide) rfl (fun ls hl => ?_)
              refine lv_goto (tgt := 57) hx hb dX2_noteBlock_161 (by decide) ?_
              exact IH57 (p1_2w 6 (nn v4_57)) p0l_152 o57 _ _ _ hrun hP hD hS (lv_sub hl [1, 2, 3, 4, 0] rfl) hk57
            rcases br9 hrun with ⟨hc13, hrun⟩ | ⟨hc13, hrun⟩
            · refine lv_if_lt (tgt := 152) hx hb dX2_noteBlock_119 (by decide) (fun _ => ?_) (fun c => absurd hc13 c)
              exact J152 p0l_112 _ _ _ hrun hP hD hS (lv_sub hl [0, 1, 2, 3, 4] rfl)
            · refine lv_if_lt (tgt := 152) hx hb dX2_noteBlock_119 (by decide) (fun c => absurd c hc13) (fun _ => ?_)
              refine lv_aload_n hx hb dX2_noteBlock_122 rfl (lv_at hl 3 rfl) ?_
              refine va_get (D := (dC, dI)) (ci := 3) (v := .ref (p1_2a 3)) (C := RX9) (T := TX9) (N := 6) hx hb hts i_X9 hown hK hP 34 rfl rfl 2 (by decide) (hts _ qw650) (fun _ h9 => h9) rfl dX2_noteBlock_123 ?_
              refine lv_iload hx hb dX2_noteBlock_126 (lv_at hl 4 rfl) ?_
              obtain ⟨hq14, hrun⟩ := chk9 hrun
              refine va_iald hx hb hK hP 36 33 rfl rfl (ixb_in hq14) dX2_noteBlock_128 ?_
              refine lv_aload_n hx hb dX2_noteBlock_129 rfl (lv_at hl 0 rfl) ?_
              refine va_get (D := (dC, dI)) (ci := 9) (v := .int (p0w 0 0)) (C := RX2) (T := TX2) (N := 19) hx hb hts i_X2 hown hK hP 0 rfl rfl 0 (by decide) (hts _ qw588) (fun _ h9 => h9) rfl dX2_noteBlock_130 ?_
              rcases br9 hrun with ⟨hc15, hrun⟩ | ⟨hc15, hrun⟩
              · refine lv_icmp_ge (tgt := 152) hx hb dX2_noteBlock_133 (by decide) (fun _ => ?_) (fun c => absurd hc15 c)
                exact J152 p0l_112 _ _ _ hrun hP hD hS (lv_sub hl [0, 1, 2, 3, 4] rfl)
              · refine lv_icmp_ge (tgt := 152) hx hb dX2_noteBlock_133 (by decide) (fun c => absurd c hc15) (fun _ => ?_)
                refine lv_aload_n hx hb dX2_noteBlock_136 rfl (lv_at hl 0 rfl) ?_
                refine lv_aload_n hx hb dX2_noteBlock_137 rfl (lv_at hl 0 rfl) ?_
                refine va_get (D := (dC, dI)) (ci := 9) (v := .ref (p0a 5)) (C := RX2) (T := TX2) (N := 19) hx hb hts i_X2 hown hK hP 0 rfl rfl 4 (by decide) (hts _ qw699) (fun _ h9 => h9) rfl dX2_noteBlock_138 ?_
                refine lv_iload_n hx hb dX2_noteBlock_141 rfl (lv_at hl 2 rfl) ?_
                refine lv_aload_n hx hb dX2_noteBlock_142 rfl (lv_at hl 3 rfl) ?_
                refine va_get (D := (dC, dI)) (ci := 3) (v := .ref (p1_2a 3)) (C := RX9) (T := TX9) (N := 6) hx hb hts i_X9 hown hK hP 34 rfl rfl 2 (by decide) (hts _ qw650) (fun _ h9 => h9) rfl dX2_noteBlock_143 ?_
                refine lv_iload hx hb dX2_noteBlock_146 (lv_at hl 4 rfl) ?_
                obtain ⟨hq16, hrun⟩ := chk9 hrun
                refine va_iald hx hb hK hP 36 33 rfl rfl (ixb_in hq16) dX2_noteBlock_148 ?_
                obtain ⟨o_17, hc_17, hrun⟩ := bnd9 hrun
                have hPc := hP.sub (ws' := ((oX2 (p0a 0) p0a p0k p0n p0w p0l_112) ++ [((p0a 5), .inl ((p0k 5), (p0n 5), .inr (.inl (p0l_112 5))))])) [0, 1, 2, 3, 4, 5, 6, 7, 8, 9, 10, 11, 12, 13, 14, 15, 2] rfl
                have hDc := hD.sub (ws' := ((oX2 (p0a 0) p0a p0k p0n p0w p0l_112) ++ [((p0a 5), .inl ((p0k 5), (p0n 5), .inr (.inl (p0l_112 5))))])) [0, 1, 2, 3, 4, 5, 6, 7, 8, 9, 10, 11, 12, 13, 14, 15, 2] (by decide) rfl
                have hKc := hK.sub (tys' := ((tX2 p0k) ++ [((p0k 5), .long)])) [0, 1, 2, 3, 4, 5, 6, 7, 8, 9, 10, 11, 12, 13, 14, 1] rfl
                have hFc := va_free (wc := ((oX2 (p0a 0) p0a p0k p0n p0w p0l_112) ++ [((p0a 5), .inl ((p0k 5), (p0n 5), .inr (.inl (p0l_112 5))))])) hD hS hA [0, 1, 2, 3, 4, 5, 6, 7, 8, 9, 10, 11, 12, 13, 14, 15, 2] rfl
                refine va_callv (va_runV (As := [.ref (p0a 5), .int p2, .int (p1_2w 3 (nn v4_57))]) (rest := []) ⟨hx, hb, hml, hown, hts⟩ (kX2_put l dC dI (p0a := (st0 (p0a 0) p0a)) (p0k := p0k) (p0n := p0n) (p0w := p0w) (p0l := p0l_112) (p1a := (p0a 5)) (p1k := (p0k 5)) (p1n := (p0n 5)) (p1f := (p0l_112 5)) (p2 := p2) (p3 := (p1_2w 3 (nn v4_57))) (sz := _) (o := o_17) (hrun := hc_17)) (cwV 3 hts (gi_V qw634 qw635 qw636 qw595 (gi_z qw633)) rfl rfl rfl (by decide +kernel) ⟨Nat.le_of_ble_eq_true rfl, Nat.le_of_ble_eq_true rfl⟩) ⟨PRE.blind, va_recv hKc hPc (ci := 9) (q0 := 0) rfl rfl, PRE.of hE hS hFc hPc hKc hDc⟩ rfl rfl hl.1 rfl (lv_room (Nat.le_of_ble_eq_true rfl)) dX2_noteBlock_149 ⟨Nat.le_of_ble_eq_true rfl, Nat.le_of_ble_eq_true rfl⟩) hS (fun q _ h => hFc q h) hFc (fun u t H locs ht hvm hw hB hz1 hk1 hS => ?_)
                obtain ⟨hP, hD, hK⟩ := JOIN (wr := ((oX1 (p1a 0) p1a p1k p1n p1w p1l) ++ (oX9 (p1a 3) p1_2a p1_2k p1_2n p1_2w))) hP hD hK [0, 1, 2, 3, 4, 5, 6, 7, 8, 9, 10, 11, 12, 13, 14, 15, 2] [16, 17, 18, 19, 20, 21, 22, 23, 24, 25, 26, 27, 28, 29, 30, 31, 32, 33, 34, 35, 36, 37, 38, 39] [15, 16, 17, 18, 19, 20, 21, 22, 23, 24, 25, 26, 27, 28, 29, 30, 31, 32, 33, 34, 35, 36] rfl rfl (by decide) (by decide) rfl hk1 hFc ht hvm hB
                have hP : va_P (dC, dI) cls ((oX2 (p0a 0) p0a p0k p0n p0w (srl p0l_112 5 o_17)) ++ (oX1 (p1a 0) p1a p1k p1n p1w p1l) ++ (oX9 (p1a 3) p1_2a p1_2k p1_2n p1_2w)) H := hP.sub [24, 25, 26, 27, 28, 29, 30, 31, 32, 33, 34, 35, 36, 37, 38, 39, 0, 1, 2, 3, 4, 5, 6, 7, 8, 9, 10, 11, 12, 13, 14, 15, 16, 17, 18, 19, 20, 21, 22, 23] rfl
                have hD : va_D A ((oX2 (p0a 0) p0a p0k p0n p0w (srl p0l_112 5 o_17)) ++ (oX1 (p1a 0) p1a p1k p1n p1w p1l) ++ (oX9 (p1a 3) p1_2a p1_2k p1_2n p1_2w)) := hD.sub [24, 25, 26, 27, 28, 29, 30, 31, 32, 33, 34, 35, 36, 37, 38, 39, 0, 1, 2, 3, 4, 5, 6, 7, 8, 9, 10, 11, 12, 13, 14, 15, 16, 17, 18, 19, 20, 21, 22, 23] (by decide) rfl
                have hK : va_K (dC, dI) cls ((tX2 p0k) ++ (tX1 p1k) ++ (tX9 p1_2k)) s := hK.sub [22, 23, 24, 25, 26, 27, 28, 29, 30, 31, 32, 33, 34, 35, 36, 0, 1, 2, 3, 4, 5, 6, 7, 8, 9, 10, 11, 12, 13, 14, 15, 16, 17, 18, 19, 20, 21] rfl
                exact J152 (srl p0l_112 5 o_17) _ _ _ hrun hP hD hS (lv_sub hl [0, 1, 2, 3, 4] rfl)
          rcases br9 hrun with ⟨hc18, hrun⟩ | ⟨hc18, hrun⟩
          · refine lv_if_eq (tgt := 112) hx hb dX2_noteBlock_97 (by decide) (fun _ => ?_) (fun c => absurd hc18 c)
            exact J112 p0l_87 _ _ _ hrun hP hD hS (lv_sub hl [0, 1, 2, 3, 4] rfl)
          · refine lv_if_eq (tgt := 112) hx hb dX2_noteBlock_97 (by decide) (fun c => absurd c hc18) (fun _ => ?_)
            refine lv_aload_n hx hb dX2_noteBlock_100 rfl (lv_at hl 0 rfl) ?_
            refine lv_iload_n hx hb dX2_noteBlock_101 rfl (lv_at hl 2 rfl) ?_
            refine lv_aload_n hx hb dX2_noteBlock_102 rfl (lv_at hl 3 rfl) ?_
            refine va_get (D := (dC, dI)) (ci := 3) (v := .ref (p1_2a 5)) (C := RX9) (T := TX9) (N := 6) hx hb hts i_X9 hown hK hP 34 rfl rfl 4 (by decide) (hts _ qw653) (fun _ h9 => h9) rfl dX2_noteBlock_103 ?_
            refine lv_iload hx hb dX2_noteBlock_106 (lv_at hl 4 rfl) ?_
            obtain ⟨hq19, hrun⟩ := chk9 hrun
            refine va_iald hx hb hK hP 38 35 rfl rfl (ixb_in hq19) dX2_noteBlock_108 ?_
            obtain ⟨o_20, hc_20, hrun⟩ := bnd9 hrun
            have hPc := hP.sub (ws' := (oX2 (p0a 0) p0a p0k p0n p0w p0l_87)) [0, 1, 2, 3, 4, 5, 6, 7, 8, 9, 10, 11, 12, 13, 14, 15] rfl
            have hDc := hD.sub (ws' := (oX2 (p0a 0) p0a p0k p0n p0w p0l_87)) [0, 1, 2, 3, 4, 5, 6, 7, 8, 9, 10, 11, 12, 13, 14, 15] (by decide) rfl
            have hKc := hK.sub (tys' := (tX2 p0k)) [0, 1, 2, 3, 4, 5, 6, 7, 8, 9, 10, 11, 12, 13, 14] rfl
            have hFc := va_free (wc := (oX2 (p0a 0) p0a p0k p0n p0w p0l_87)) hD hS hA [0, 1, 2, 3, 4, 5, 6, 7, 8, 9, 10, 11, 12, 13, 14, 15] rfl
            refine va_callv (va_runV (As := [.int p2, .int (p1_2w 5 (nn v4_57))]) (rest := []) ⟨hx, hb, hml, hown, hts⟩ (kX2_noteUse l dC dI (p0a := (st0 (p0a 0) p0a)) (p0k := p0k) (p0n := p0n) (p0w := p0w) (p0l := p0l_87) (p1 := p2) (p2 := (p1_2w 5 (nn v4_57))) (sz := _) (o := o_20) (hrun := hc_20)) (cwV 2 hts (gi_V qw701 qw702 qw703 qw595 (gi_z qw700)) rfl rfl rfl (by decide +kernel) ⟨Nat.le_of_ble_eq_true rfl, Nat.le_of_ble_eq_true rfl⟩) ⟨PRE.blind, va_recv hKc hPc (ci := 9) (q0 := 0) rfl rfl, PRE.of hE hS hFc hPc hKc hDc⟩ rfl rfl hl.1 rfl (lv_room (Nat.le_of_ble_eq_true rfl)) dX2_noteBlock_109 ⟨Nat.le_of_ble_eq_true rfl, Nat.le_of_ble_eq_true rfl⟩) hS (fun q _ h => hFc q h) hFc (fun u t H locs ht hvm hw hB hz1 hk1 hS => ?_)
            obtain ⟨hP, hD, hK⟩ := JOIN (wr := ((oX1 (p1a 0) p1a p1k p1n p1w p1l) ++ (oX9 (p1a 3) p1_2a p1_2k p1_2n p1_2w))) hP hD hK [0, 1, 2, 3, 4, 5, 6, 7, 8, 9, 10, 11, 12, 13, 14, 15] [16, 17, 18, 19, 20, 21, 22, 23, 24, 25, 26, 27, 28, 29, 30, 31, 32, 33, 34, 35, 36, 37, 38, 39] [15, 16, 17, 18, 19, 20, 21, 22, 23, 24, 25, 26, 27, 28, 29, 30, 31, 32, 33, 34, 35, 36] rfl rfl (by decide) (by decide) rfl hk1 hFc ht hvm hB
            have hP : va_P (dC, dI) cls ((oX2 (p0a 0) p0a p0k p0n p0w o_20) ++ (oX1 (p1a 0) p1a p1k p1n p1w p1l) ++ (oX9 (p1a 3) p1_2a p1_2k p1_2n p1_2w)) H := hP.sub [24, 25, 26, 27, 28, 29, 30, 31, 32, 33, 34, 35, 36, 37, 38, 39, 0, 1, 2, 3, 4, 5, 6, 7, 8, 9, 10, 11, 12, 13, 14, 15, 16, 17, 18, 19, 20, 21, 22, 23] rfl
            have hD : va_D A ((oX2 (p0a 0) p0a p0k p0n p0w o_20) ++ (oX1 (p1a 0) p1a p1k p1n p1w p1l) ++ (oX9 (p1a 3) p1_2a p1_2k p1_2n p1_2w)) := hD.sub [24, 25, 26, 27, 28, 29, 30, 31, 32, 33, 34, 35, 36, 37, 38, 39, 0, 1, 2, 3, 4, 5, 6, 7, 8, 9, 10, 11, 12, 13, 14, 15, 16, 17, 18, 19, 20, 21, 22, 23] (by decide) rfl
            have hK : va_K (dC, dI) cls ((tX2 p0k) ++ (tX1 p1k) ++ (tX9 p1_2k)) s := hK.sub [22, 23, 24, 25, 26, 27, 28, 29, 30, 31, 32, 33, 34, 35, 36, 0, 1, 2, 3, 4, 5, 6, 7, 8, 9, 10, 11, 12, 13, 14, 15, 16, 17, 18, 19, 20, 21] rfl
            exact J112 o_20 _ _ _ hrun hP hD hS (lv_sub hl [0, 1, 2, 3, 4] rfl)
        rcases br9 hrun with ⟨hc21, hrun⟩ | ⟨hc21, hrun⟩
        · refine lv_if_eq (tgt := 87) hx hb dX2_noteBlock_72 (by decide) (fun _ => ?_) (fun c => absurd hc21 c)
          exact J87 p0l_57 _ _ _ hrun hP hD hS (lv_sub hl [0, 1, 2, 3, 4] rfl)
        · refine lv_if_eq (tgt := 87) hx hb dX2_noteBlock_72 (by decide) (fun c => absurd c hc21) (fun _ => ?_)
          refine lv_aload_n hx hb dX2_noteBlock_75 rfl (lv_at hl 0 rfl) ?_
          refine lv_iload_n hx hb dX2_noteBlock_76 rfl (lv_at hl 2 rfl) ?_
          refine lv_aload_n hx hb dX2_noteBlock_77 rfl (lv_at hl 3 rfl) ?_
          refine va_get (D := (dC, dI)) (ci := 3) (v := .ref (p1_2a 4)) (C := RX9) (T := TX9) (N := 6) hx hb hts i_X9 hown hK hP 34 rfl rfl 3 (by decide) (hts _ qw654) (fun _ h9 => h9) rfl dX2_noteBlock_78 ?_
          refine lv_iload hx hb dX2_noteBlock_81 (lv_at hl 4 rfl) ?_
          obtain ⟨hq22, hrun⟩ := chk9 hrun
          refine va_iald hx hb hK hP 37 34 rfl rfl (ixb_in hq22) dX2_noteBlock_83 ?_
          obtain ⟨o_23, hc_23, hrun⟩ := bnd9 hrun
          have hPc := hP.sub (ws' := (oX2 (p0a 0) p0a p0k p0n p0w p0l_57)) [0, 1, 2, 3, 4, 5, 6, 7, 8, 9, 10, 11, 12, 13, 14, 15] rfl
          have hDc := hD.sub (ws' := (oX2 (p0a 0) p0a p0k p0n p0w p0l_57)) [0, 1, 2, 3, 4, 5, 6, 7, 8, 9, 10, 11, 12, 13, 14, 15] (by decide) rfl
          have hKc := hK.sub (tys' := (tX2 p0k)) [0, 1, 2, 3, 4, 5, 6, 7, 8, 9, 10, 11, 12, 13, 14] rfl
          have hFc := va_free (wc := (oX2 (p0a 0) p0a p0k p0n p0w p0l_57)) hD hS hA [0, 1, 2, 3, 4, 5, 6, 7, 8, 9, 10, 11, 12, 13, 14, 15] rfl
          refine va_callv (va_runV (As := [.int p2, .int (p1_2w 4 (nn v4_57))]) (rest := []) ⟨hx, hb, hml, hown, hts⟩ (kX2_noteUse l dC dI (p0a := (st0 (p0a 0) p0a)) (p0k := p0k) (p0n := p0n) (p0w := p0w) (p0l := p0l_57) (p1 := p2) (p2 := (p1_2w 4 (nn v4_57))) (sz := _) (o := o_23) (hrun := hc_23)) (cwV 2 hts (gi_V qw701 qw702 qw703 qw595 (gi_z qw700)) rfl rfl rfl (by decide +kernel) ⟨Nat.le_of_ble_eq_true rfl, Nat.le_of_ble_eq_true rfl⟩) ⟨PRE.blind, va_recv hKc hPc (ci := 9) (q0 := 0) rfl rfl, PRE.of hE hS hFc hPc hKc hDc⟩ rfl rfl hl.1 rfl (lv_room (Nat.le_of_ble_eq_true rfl)) dX2_noteBlock_84 ⟨Nat.le_of_ble_eq_true rfl, Nat.le_of_ble_eq_true rfl⟩) hS (fun q _ h => hFc q h) hFc (fun u t H locs ht hvm hw hB hz1 hk1 hS => ?_)
          obtain ⟨hP, hD, hK⟩ := JOIN (wr := ((oX1 (p1a 0) p1a p1k p1n p1w p1l) ++ (oX9 (p1a 3) p1_2a p1_2k p1_2n p1_2w))) hP hD hK [0, 1, 2, 3, 4, 5, 6, 7, 8, 9, 10, 11, 12, 13, 14, 15] [16, 17, 18, 19, 20, 21, 22, 23, 24, 25, 26, 27, 28, 29, 30, 31, 32, 33, 34, 35, 36, 37, 38, 39] [15, 16, 17, 18, 19, 20, 21, 22, 23, 24, 25, 26, 27, 28, 29, 30, 31, 32, 33, 34, 35, 36] rfl rfl (by decide) (by decide) rfl hk1 hFc ht hvm hB
          have hP : va_P (dC, dI) cls ((oX2 (p0a 0) p0a p0k p0n p0w o_23) ++ (oX1 (p1a 0) p1a p1k p1n p1w p1l) ++ (oX9 (p1a 3) p1_2a p1_2k p1_2n p1_2w)) H := hP.sub [24, 25, 26, 27, 28, 29, 30, 31, 32, 33, 34, 35, 36, 37, 38, 39, 0, 1, 2, 3, 4, 5, 6, 7, 8, 9, 10, 11, 12, 13, 14, 15, 16, 17, 18, 19, 20, 21, 22, 23] rfl
          have hD : va_D A ((oX2 (p0a 0) p0a p0k p0n p0w o_23) ++ (oX1 (p1a 0) p1a p1k p1n p1w p1l) ++ (oX9 (p1a 3) p1_2a p1_2k p1_2n p1_2w)) := hD.sub [24, 25, 26, 27, 28, 29, 30, 31, 32, 33, 34, 35, 36, 37, 38, 39, 0, 1, 2, 3, 4, 5, 6, 7, 8, 9, 10, 11, 12, 13, 14, 15, 16, 17, 18, 19, 20, 21, 22, 23] (by decide) rfl
          have hK : va_K (dC, dI) cls ((tX2 p0k) ++ (tX1 p1k) ++ (tX9 p1_2k)) s := hK.sub [22, 23, 24, 25, 26, 27, 28, 29, 30, 31, 32, 33, 34, 35, 36, 0, 1, 2, 3, 4, 5, 6, 7, 8, 9, 10, 11, 12, 13, 14, 15, 16, 17, 18, 19, 20, 21] rfl
          exact J87 o_23 _ _ _ hrun hP hD hS (lv_sub hl [0, 1, 2, 3, 4] rfl)
  obtain ⟨o57, hc57, hrun⟩ := bnd9 hrun
  refine L57 NF (p1w 4 (nn p2)) (srl (srl p0l 4 o_1) 5 o_2) o57 _ _ _ hc57 hP hD hS (lv_sub hl [2, 3, 4, 1, 0] rfl) ?_
  intro H locs ls hP hD hS hl
  have hl := hl
  refine lv_aload_n hx hb dX2_noteBlock_164 rfl (lv_at hl 1 rfl) ?_
  refine va_get (D := (dC, dI)) (ci := 4) (v := .ref (p1a 9)) (C := RX1) (T := TX1) (N := 21) hx hb hts i_X1 hown hK hP 16 rfl rfl 8 (by decide) (hts _ qw655) (fun _ h9 => h9) rfl dX2_noteBlock_165 ?_
  refine lv_iload_n hx hb dX2_noteBlock_168 rfl (lv_at hl 2 rfl) ?_
  obtain ⟨hq24, hrun⟩ := chk9 hrun
  refine va_iald hx hb hK hP 22 20 rfl rfl (ixb_in hq24) dX2_noteBlock_169 ?_
  have J184 : ∀ (p0l_184 : SL) (H : Heap) (locs : List Loc) (ls : Array Slot), (fX2_noteBlock_J184 p0l_184) = some o → va_P (dC, dI) cls ((oX2 (p0a 0) p0a p0k p0n p0w p0l_184) ++ (oX1 (p1a 0) p1a p1k p1n p1w p1l) ++ (oX9 (p1a 3) p1_2a p1_2k p1_2n p1_2w)) H → va_D A ((oX2 (p0a 0) p0a p0k p0n p0w p0l_184) ++ (oX1 (p1a 0) p1a p1k p1n p1w p1l) ++ (oX9 (p1a 3) p1_2a p1_2k p1_2n p1_2w)) → va_S A s.heap H locs → lv_has ls 5 [] → W p l e ({ frames := 3, cells := 0, slots := 0, locals := 67 } : Room) s m ([.ref (p0a 0), .ref (p1a 0), .int p2] : List Value).toArray below meth c H locs 0 0 Q (F0 m 184 ls []) := by
    intro p0l_184 H locs ls hrun hP hD hS hl
    unfold fX2_noteBlock_J184 at hrun
    have ho9 : p0l_184 = o := Option.some.inj hrun
    have hP9 : va_P (dC, dI) cls ((oX2 (p0a 0) p0a p0k p0n p0w o) ++ (oX1 (p1a 0) p1a p1k p1n p1w p1l) ++ (oX9 (p1a 3) p1_2a p1_2k p1_2n p1_2w)) H := by first | exact hP | (rw [← ho9]; exact hP)
    have hD9 : va_D A ((oX2 (p0a 0) p0a p0k p0n p0w o) ++ (oX1 (p1a 0) p1a p1k p1n p1w p1l) ++ (oX9 (p1a 3) p1_2a p1_2k p1_2n p1_2w)) := by first | exact hD | (rw [← ho9]; exact hD)
    subst hQ
    exact W.vret hx hb hr (fun t ht hW => ⟨⟨(), rfl, trivial, ⟨by rw [ht]; exact hP9, va_K.moved hW.alike hK, hD9⟩⟩, hS.F ht⟩) hS.2.2 dX2_noteBlock_184
  rcases br9 hrun with ⟨hc25, hrun⟩ | ⟨hc25, hrun⟩
  · refine lv_if_lt (tgt := 184) hx hb dX2_noteBlock_170 (by decide) (fun _ => ?_) (fun c => absurd hc25 c)
    exact J184 o57 _ _ _ hrun hP hD hS (lv_sub hl [] rfl)
  · refine lv_if_lt (tgt := 184) hx hb dX2_noteBlock_170 (by decide) (fun c => absurd c hc25) (fun _ => ?_)
    refine lv_aload_n hx hb dX2_noteBlock_173 rfl (lv_at hl 0 rfl) ?_
    refine lv_iload_n hx hb dX2_noteBlock_174 rfl (lv_at hl 2 rfl) ?_
    refine lv_aload_n hx hb dX2_noteBlock_175 rfl (lv_at hl 1 rfl) ?_
    refine va_get (D := (dC, dI)) (ci := 4) (v := .ref (p1a 9)) (C := RX1) (T := TX1) (N := 21) hx hb hts i_X1 hown hK hP 16 rfl rfl 8 (by decide) (hts _ qw655) (fun _ h9 => h9) rfl dX2_noteBlock_176 ?_
    refine lv_iload_n hx hb dX2_noteBlock_179 rfl (lv_at hl 2 rfl) ?_
    obtain ⟨hq26, hrun⟩ := chk9 hrun
    refine va_iald hx hb hK hP 22 20 rfl rfl (ixb_in hq26) dX2_noteBlock_180 ?_
    obtain ⟨o_27, hc_27, hrun⟩ := bnd9 hrun
    have hPc := hP.sub (ws' := (oX2 (p0a 0) p0a p0k p0n p0w o57)) [0, 1, 2, 3, 4, 5, 6, 7, 8, 9, 10, 11, 12, 13, 14, 15] rfl
    have hDc := hD.sub (ws' := (oX2 (p0a 0) p0a p0k p0n p0w o57)) [0, 1, 2, 3, 4, 5, 6, 7, 8, 9, 10, 11, 12, 13, 14, 15] (by decide) rfl
    have hKc := hK.sub (tys' := (tX2 p0k)) [0, 1, 2, 3, 4, 5, 6, 7, 8, 9, 10, 11, 12, 13, 14] rfl
    have hFc := va_free (wc := (oX2 (p0a 0) p0a p0k p0n p0w o57)) hD hS hA [0, 1, 2, 3, 4, 5, 6, 7, 8, 9, 10, 11, 12, 13, 14, 15] rfl
    refine va_callv (va_runV (As := [.int p2, .int (p1w 9 (nn p2))]) (rest := []) ⟨hx, hb, hml, hown, hts⟩ (kX2_noteUse l dC dI (p0a := (st0 (p0a 0) p0a)) (p0k := p0k) (p0n := p0n) (p0w := p0w) (p0l := o57) (p1 := p2) (p2 := (p1w 9 (nn p2))) (sz := _) (o := o_27) (hrun := hc_27)) (cwV 2 hts (gi_V qw701 qw702 qw703 qw595 (gi_z qw700)) rfl rfl rfl (by decide +kernel) ⟨Nat.le_of_ble_eq_true rfl, Nat.le_of_ble_eq_true rfl⟩) ⟨PRE.blind, va_recv hKc hPc (ci := 9) (q0 := 0) rfl rfl, PRE.of hE hS hFc hPc hKc hDc⟩ rfl rfl hl.1 rfl (lv_room (Nat.le_of_ble_eq_true rfl)) dX2_noteBlock_181 ⟨Nat.le_of_ble_eq_true rfl, Nat.le_of_ble_eq_true rfl⟩) hS (fun q _ h => hFc q h) hFc (fun u t H locs ht hvm hw hB hz1 hk1 hS => ?_)
    obtain ⟨hP, hD, hK⟩ := JOIN (wr := ((oX1 (p1a 0) p1a p1k p1n p1w p1l) ++ (oX9 (p1a 3) p1_2a p1_2k p1_2n p1_2w))) hP hD hK [0, 1, 2, 3, 4, 5, 6, 7, 8, 9, 10, 11, 12, 13, 14, 15] [16, 17, 18, 19, 20, 21, 22, 23, 24, 25, 26, 27, 28, 29, 30, 31, 32, 33, 34, 35, 36, 37, 38, 39] [15, 16, 17, 18, 19, 20, 21, 22, 23, 24, 25, 26, 27, 28, 29, 30, 31, 32, 33, 34, 35, 36] rfl rfl (by decide) (by decide) rfl hk1 hFc ht hvm hB
    have hP : va_P (dC, dI) cls ((oX2 (p0a 0) p0a p0k p0n p0w o_27) ++ (oX1 (p1a 0) p1a p1k p1n p1w p1l) ++ (oX9 (p1a 3) p1_2a p1_2k p1_2n p1_2w)) H := hP.sub [24, 25, 26, 27, 28, 29, 30, 31, 32, 33, 34, 35, 36, 37, 38, 39, 0, 1, 2, 3, 4, 5, 6, 7, 8, 9, 10, 11, 12, 13, 14, 15, 16, 17, 18, 19, 20, 21, 22, 23] rfl
    have hD : va_D A ((oX2 (p0a 0) p0a p0k p0n p0w o_27) ++ (oX1 (p1a 0) p1a p1k p1n p1w p1l) ++ (oX9 (p1a 3) p1_2a p1_2k p1_2n p1_2w)) := hD.sub [24, 25, 26, 27, 28, 29, 30, 31, 32, 33, 34, 35, 36, 37, 38, 39, 0, 1, 2, 3, 4, 5, 6, 7, 8, 9, 10, 11, 12, 13, 14, 15, 16, 17, 18, 19, 20, 21, 22, 23] (by decide) rfl
    have hK : va_K (dC, dI) cls ((tX2 p0k) ++ (tX1 p1k) ++ (tX9 p1_2k)) s := hK.sub [22, 23, 24, 25, 26, 27, 28, 29, 30, 31, 32, 33, 34, 35, 36, 0, 1, 2, 3, 4, 5, 6, 7, 8, 9, 10, 11, 12, 13, 14, 15, 16, 17, 18, 19, 20, 21] rfl
    exact J184 o_27 _ _ _ hrun hP hD hS (lv_sub hl [] rfl)
