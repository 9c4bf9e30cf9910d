abbrev cX2_colour : ByteArray := prog_4_method_20_code
def yX2_colour : MethodName := ⟨RX2, "colour", "(LGearbox$Flow;I)Z"⟩
abbrev cX2_nextToTake : ByteArray := prog_4_method_22_code
def yX2_nextToTake : MethodName := ⟨RX2, "nextToTake", "(I)I"⟩
abbrev cX2_takeAway : ByteArray := prog_4_method_23_code
def yX2_takeAway : MethodName := ⟨RX2, "takeAway", "(I)V"⟩
abbrev cX2_lowerLeft : ByteArray := prog_4_method_24_code
def yX2_lowerLeft : MethodName := ⟨RX2, "lowerLeft", "(I)V"⟩
abbrev cX2_freeRegister : ByteArray := prog_4_method_25_code
def yX2_freeRegister : MethodName := ⟨RX2, "freeRegister", "(II)I"⟩
abbrev cX2_registerBit : ByteArray := prog_4_method_26_code
def yX2_registerBit : MethodName := ⟨RX2, "registerBit", "(I)I"⟩
abbrev cX0_putAway : ByteArray := prog_2_method_9_code
def yX0_putAway : MethodName := ⟨RX0, "putAway", "()V"⟩
abbrev cX0_putAwayIn : ByteArray := prog_2_method_11_code
def yX0_putAwayIn : MethodName := ⟨RX0, "putAwayIn", "(III)V"⟩
theorem dX0_putAway_0 : decode cX0_putAway 0 = .ok (.aload_n 0, 1) := by decide +kernel
theorem dX0_putAway_1 : decode cX0_putAway 1 = .ok (.getfield 90, 3) := by decide +kernel
theorem dX0_putAway_4 : decode cX0_putAway 4 = .ok (.istore_n 1, 1) := by decide +kernel
theorem dX0_putAway_5 : decode cX0_putAway 5 = .ok (.aload_n 0, 1) := by decide +kernel
theorem dX0_putAway_6 : decode cX0_putAway 6 = .ok (.aload_n 0, 1) := by decide +kernel
theorem dX0_putAway_7 : decode cX0_putAway 7 = .ok (.getfield 41, 3) := by decide +kernel
theorem dX0_putAway_10 : decode cX0_putAway 10 = .ok (.iload_n 1, 1) := by decide +kernel
theorem dX0_putAway_11 : decode cX0_putAway 11 = .ok (.invokestatic 205, 3) := by decide +kernel
theorem dX0_putAway_14 : decode cX0_putAway 14 = .ok (.putfield 41, 3) := by decide +kernel
theorem dX0_putAway_17 : decode cX0_putAway 17 = .ok (.aload_n 0, 1) := by decide +kernel
theorem dX0_putAway_18 : decode cX0_putAway 18 = .ok (.aload_n 0, 1) := by decide +kernel
theorem dX0_putAway_19 : decode cX0_putAway 19 = .ok (.getfield 44, 3) := by decide +kernel
theorem dX0_putAway_22 : decode cX0_putAway 22 = .ok (.iload_n 1, 1) := by decide +kernel
theorem dX0_putAway_23 : decode cX0_putAway 23 = .ok (.invokestatic 205, 3) := by decide +kernel
theorem dX0_putAway_26 : decode cX0_putAway 26 = .ok (.putfield 44, 3) := by decide +kernel
theorem dX0_putAway_29 : decode cX0_putAway 29 = .ok (.iconst 0, 1) := by decide +kernel
theorem dX0_putAway_30 : decode cX0_putAway 30 = .ok (.istore_n 2, 1) := by decide +kernel
theorem dX0_putAway_31 : decode cX0_putAway 31 = .ok (.iload_n 2, 1) := by decide +kernel
theorem dX0_putAway_32 : decode cX0_putAway 32 = .ok (.iload_n 1, 1) := by decide +kernel
theorem dX0_putAway_33 : decode cX0_putAway 33 = .ok (.if_icmp .ge 45, 3) := by decide +kernel
theorem dX0_putAway_36 : decode cX0_putAway 36 = .ok (.aload_n 0, 1) := by decide +kernel
theorem dX0_putAway_37 : decode cX0_putAway 37 = .ok (.getfield 41, 3) := by decide +kernel
theorem dX0_putAway_40 : decode cX0_putAway 40 = .ok (.iload_n 2, 1) := by decide +kernel
theorem dX0_putAway_41 : decode cX0_putAway 41 = .ok (.iconst (-1), 1) := by decide +kernel
theorem dX0_putAway_42 : decode cX0_putAway 42 = .ok (.iastore, 1) := by decide +kernel
theorem dX0_putAway_43 : decode cX0_putAway 43 = .ok (.aload_n 0, 1) := by decide +kernel
theorem dX0_putAway_44 : decode cX0_putAway 44 = .ok (.getfield 37, 3) := by decide +kernel
theorem dX0_putAway_47 : decode cX0_putAway 47 = .ok (.getfield 209, 3) := by decide +kernel
theorem dX0_putAway_50 : decode cX0_putAway 50 = .ok (.iload_n 2, 1) := by decide +kernel
theorem dX0_putAway_51 : decode cX0_putAway 51 = .ok (.iaload, 1) := by decide +kernel
theorem dX0_putAway_52 : decode cX0_putAway 52 = .ok (.ifCond .le 20, 3) := by decide +kernel
theorem dX0_putAway_55 : decode cX0_putAway 55 = .ok (.aload_n 0, 1) := by decide +kernel
theorem dX0_putAway_56 : decode cX0_putAway 56 = .ok (.getfield 37, 3) := by decide +kernel
theorem dX0_putAway_59 : decode cX0_putAway 59 = .ok (.getfield 212, 3) := by decide +kernel
theorem dX0_putAway_62 : decode cX0_putAway 62 = .ok (.iload_n 2, 1) := by decide +kernel
theorem dX0_putAway_63 : decode cX0_putAway 63 = .ok (.iaload, 1) := by decide +kernel
theorem dX0_putAway_64 : decode cX0_putAway 64 = .ok (.ifCond .ge 8, 3) := by decide +kernel
theorem dX0_putAway_67 : decode cX0_putAway 67 = .ok (.aload_n 0, 1) := by decide +kernel
theorem dX0_putAway_68 : decode cX0_putAway 68 = .ok (.iload_n 2, 1) := by decide +kernel
theorem dX0_putAway_69 : decode cX0_putAway 69 = .ok (.invokevirtual 215, 3) := by decide +kernel
theorem dX0_putAway_72 : decode cX0_putAway 72 = .ok (.iinc 2 1, 3) := by decide +kernel
theorem dX0_putAway_75 : decode cX0_putAway 75 = .ok (.goto (-44), 3) := by decide +kernel
theorem dX0_putAway_78 : decode cX0_putAway 78 = .ok (.iconst 0, 1) := by decide +kernel
theorem dX0_putAway_79 : decode cX0_putAway 79 = .ok (.istore_n 2, 1) := by decide +kernel
theorem dX0_putAway_80 : decode cX0_putAway 80 = .ok (.iload_n 2, 1) := by decide +kernel
theorem dX0_putAway_81 : decode cX0_putAway 81 = .ok (.aload_n 0, 1) := by decide +kernel
theorem dX0_putAway_82 : decode cX0_putAway 82 = .ok (.getfield 12, 3) := by decide +kernel
theorem dX0_putAway_85 : decode cX0_putAway 85 = .ok (.getfield 93, 3) := by decide +kernel
theorem dX0_putAway_88 : decode cX0_putAway 88 = .ok (.if_icmp .ge 95, 3) := by decide +kernel
theorem dX0_putAway_91 : decode cX0_putAway 91 = .ok (.aload_n 0, 1) := by decide +kernel
theorem dX0_putAway_92 : decode cX0_putAway 92 = .ok (.getfield 12, 3) := by decide +kernel
theorem dX0_putAway_95 : decode cX0_putAway 95 = .ok (.iload_n 2, 1) := by decide +kernel
theorem dX0_putAway_96 : decode cX0_putAway 96 = .ok (.invokevirtual 186, 3) := by decide +kernel
theorem dX0_putAway_99 : decode cX0_putAway 99 = .ok (.istore 4, 2) := by decide +kernel
theorem dX0_putAway_101 : decode cX0_putAway 101 = .ok (.iload 4, 2) := by decide +kernel
theorem dX0_putAway_103 : decode cX0_putAway 103 = .ok (.ifCond .lt 31, 3) := by decide +kernel
theorem dX0_putAway_106 : decode cX0_putAway 106 = .ok (.aload_n 0, 1) := by decide +kernel
theorem dX0_putAway_107 : decode cX0_putAway 107 = .ok (.getfield 12, 3) := by decide +kernel
theorem dX0_putAway_110 : decode cX0_putAway 110 = .ok (.getfield 155, 3) := by decide +kernel
theorem dX0_putAway_113 : decode cX0_putAway 113 = .ok (.getfield 183, 3) := by decide +kernel
theorem dX0_putAway_116 : decode cX0_putAway 116 = .ok (.iload 4, 2) := by decide +kernel
theorem dX0_putAway_118 : decode cX0_putAway 118 = .ok (.iaload, 1) := by decide +kernel
theorem dX0_putAway_119 : decode cX0_putAway 119 = .ok (.istore_n 3, 1) := by decide +kernel
theorem dX0_putAway_120 : decode cX0_putAway 120 = .ok (.aload_n 0, 1) := by decide +kernel
theorem dX0_putAway_121 : decode cX0_putAway 121 = .ok (.iload_n 2, 1) := by decide +kernel
theorem dX0_putAway_122 : decode cX0_putAway 122 = .ok (.iload 4, 2) := by decide +kernel
theorem dX0_putAway_124 : decode cX0_putAway 124 = .ok (.iload_n 1, 1) := by decide +kernel
theorem dX0_putAway_125 : decode cX0_putAway 125 = .ok (.invokevirtual 218, 3) := by decide +kernel
theorem dX0_putAway_128 : decode cX0_putAway 128 = .ok (.iload_n 3, 1) := by decide +kernel
theorem dX0_putAway_129 : decode cX0_putAway 129 = .ok (.istore 4, 2) := by decide +kernel
theorem dX0_putAway_131 : decode cX0_putAway 131 = .ok (.goto (-30), 3) := by decide +kernel
theorem dX0_putAway_134 : decode cX0_putAway 134 = .ok (.aload_n 0, 1) := by decide +kernel
theorem dX0_putAway_135 : decode cX0_putAway 135 = .ok (.getfield 12, 3) := by decide +kernel
theorem dX0_putAway_138 : decode cX0_putAway 138 = .ok (.getfield 202, 3) := by decide +kernel
theorem dX0_putAway_141 : decode cX0_putAway 141 = .ok (.iload_n 2, 1) := by decide +kernel
theorem dX0_putAway_142 : decode cX0_putAway 142 = .ok (.iaload, 1) := by decide +kernel
theorem dX0_putAway_143 : decode cX0_putAway 143 = .ok (.istore 4, 2) := by decide +kernel
theorem dX0_putAway_145 : decode cX0_putAway 145 = .ok (.iload 4, 2) := by decide +kernel
theorem dX0_putAway_147 : decode cX0_putAway 147 = .ok (.ifCond .lt 30, 3) := by decide +kernel
theorem dX0_putAway_150 : decode cX0_putAway 150 = .ok (.aload_n 0, 1) := by decide +kernel
theorem dX0_putAway_151 : decode cX0_putAway 151 = .ok (.getfield 41, 3) := by decide +kernel
theorem dX0_putAway_154 : decode cX0_putAway 154 = .ok (.iload 4, 2) := by decide +kernel
theorem dX0_putAway_156 : decode cX0_putAway 156 = .ok (.iaload, 1) := by decide +kernel
theorem dX0_putAway_157 : decode cX0_putAway 157 = .ok (.iconst (-1), 1) := by decide +kernel
theorem dX0_putAway_158 : decode cX0_putAway 158 = .ok (.if_icmp .eq 19, 3) := by decide +kernel
theorem dX0_putAway_161 : decode cX0_putAway 161 = .ok (.aload_n 0, 1) := by decide +kernel
theorem dX0_putAway_162 : decode cX0_putAway 162 = .ok (.getfield 12, 3) := by decide +kernel
theorem dX0_putAway_165 : decode cX0_putAway 165 = .ok (.getfield 202, 3) := by decide +kernel
theorem dX0_putAway_168 : decode cX0_putAway 168 = .ok (.iload_n 2, 1) := by decide +kernel
theorem dX0_putAway_169 : decode cX0_putAway 169 = .ok (.aload_n 0, 1) := by decide +kernel
theorem dX0_putAway_170 : decode cX0_putAway 170 = .ok (.iload_n 2, 1) := by decide +kernel
theorem dX0_putAway_171 : decode cX0_putAway 171 = .ok (.iload 4, 2) := by decide +kernel
theorem dX0_putAway_173 : decode cX0_putAway 173 = .ok (.invokevirtual 222, 3) := by decide +kernel
theorem dX0_putAway_176 : decode cX0_putAway 176 = .ok (.iastore, 1) := by decide +kernel
theorem dX0_putAway_177 : decode cX0_putAway 177 = .ok (.iinc 2 1, 3) := by decide +kernel
theorem dX0_putAway_180 : decode cX0_putAway 180 = .ok (.goto (-100), 3) := by decide +kernel
theorem dX0_putAway_183 : decode cX0_putAway 183 = .ok (.return_, 1) := by decide +kernel
theorem dX0_putAwayIn_0 : decode cX0_putAwayIn 0 = .ok (.aload_n 0, 1) := by decide +kernel
theorem dX0_putAwayIn_1 : decode cX0_putAwayIn 1 = .ok (.getfield 12, 3) := by decide +kernel
theorem dX0_putAwayIn_4 : decode cX0_putAwayIn 4 = .ok (.getfield 155, 3) := by decide +kernel
theorem dX0_putAwayIn_7 : decode cX0_putAwayIn 7 = .ok (.astore 4, 2) := by decide +kernel
theorem dX0_putAwayIn_9 : decode cX0_putAwayIn 9 = .ok (.aload 4, 2) := by decide +kernel
theorem dX0_putAwayIn_11 : decode cX0_putAwayIn 11 = .ok (.getfield 165, 3) := by decide +kernel
theorem dX0_putAwayIn_14 : decode cX0_putAwayIn 14 = .ok (.iload_n 2, 1) := by decide +kernel
theorem dX0_putAwayIn_15 : decode cX0_putAwayIn 15 = .ok (.iaload, 1) := by decide +kernel
theorem dX0_putAwayIn_16 : decode cX0_putAwayIn 16 = .ok (.istore 5, 2) := by decide +kernel
theorem dX0_putAwayIn_18 : decode cX0_putAwayIn 18 = .ok (.aload 4, 2) := by decide +kernel
theorem dX0_putAwayIn_20 : decode cX0_putAwayIn 20 = .ok (.getfield 159, 3) := by decide +kernel
theorem dX0_putAwayIn_23 : decode cX0_putAwayIn 23 = .ok (.iload_n 2, 1) := by decide +kernel
theorem dX0_putAwayIn_24 : decode cX0_putAwayIn 24 = .ok (.iaload, 1) := by decide +kernel
theorem dX0_putAwayIn_25 : decode cX0_putAwayIn 25 = .ok (.invokestatic 189, 3) := by decide +kernel
theorem dX0_putAwayIn_28 : decode cX0_putAwayIn 28 = .ok (.ifCond .eq 72, 3) := by decide +kernel
theorem dX0_putAwayIn_31 : decode cX0_putAwayIn 31 = .ok (.iload 5, 2) := by decide +kernel
theorem dX0_putAwayIn_33 : decode cX0_putAwayIn 33 = .ok (.iload_n 3, 1) := by decide +kernel
theorem dX0_putAwayIn_34 : decode cX0_putAwayIn 34 = .ok (.if_icmp .ge 66, 3) := by decide +kernel
theorem dX0_putAwayIn_37 : decode cX0_putAwayIn 37 = .ok (.aload_n 0, 1) := by decide +kernel
theorem dX0_putAwayIn_38 : decode cX0_putAwayIn 38 = .ok (.getfield 41, 3) := by decide +kernel
theorem dX0_putAwayIn_41 : decode cX0_putAwayIn 41 = .ok (.iload 5, 2) := by decide +kernel
theorem dX0_putAwayIn_43 : decode cX0_putAwayIn 43 = .ok (.iaload, 1) := by decide +kernel
theorem dX0_putAwayIn_44 : decode cX0_putAwayIn 44 = .ok (.iconst (-1), 1) := by decide +kernel
theorem dX0_putAwayIn_45 : decode cX0_putAwayIn 45 = .ok (.if_icmp .eq 55, 3) := by decide +kernel
theorem dX0_putAwayIn_48 : decode cX0_putAwayIn 48 = .ok (.aload_n 0, 1) := by decide +kernel
theorem dX0_putAwayIn_49 : decode cX0_putAwayIn 49 = .ok (.iload_n 1, 1) := by decide +kernel
theorem dX0_putAwayIn_50 : decode cX0_putAwayIn 50 = .ok (.iload 5, 2) := by decide +kernel
theorem dX0_putAwayIn_52 : decode cX0_putAwayIn 52 = .ok (.invokevirtual 222, 3) := by decide +kernel
theorem dX0_putAwayIn_55 : decode cX0_putAwayIn 55 = .ok (.istore 6, 2) := by decide +kernel
theorem dX0_putAwayIn_57 : decode cX0_putAwayIn 57 = .ok (.aload 4, 2) := by decide +kernel
theorem dX0_putAwayIn_59 : decode cX0_putAwayIn 59 = .ok (.getfield 165, 3) := by decide +kernel
theorem dX0_putAwayIn_62 : decode cX0_putAwayIn 62 = .ok (.iload_n 2, 1) := by decide +kernel
theorem dX0_putAwayIn_63 : decode cX0_putAwayIn 63 = .ok (.iload 6, 2) := by decide +kernel
theorem dX0_putAwayIn_65 : decode cX0_putAwayIn 65 = .ok (.iastore, 1) := by decide +kernel
theorem dX0_putAwayIn_66 : decode cX0_putAwayIn 66 = .ok (.aload 4, 2) := by decide +kernel
theorem dX0_putAwayIn_68 : decode cX0_putAwayIn 68 = .ok (.getfield 159, 3) := by decide +kernel
theorem dX0_putAwayIn_71 : decode cX0_putAwayIn 71 = .ok (.iload_n 2, 1) := by decide +kernel
theorem dX0_putAwayIn_72 : decode cX0_putAwayIn 72 = .ok (.iaload, 1) := by decide +kernel
theorem dX0_putAwayIn_73 : decode cX0_putAwayIn 73 = .ok (.invokestatic 193, 3) := by decide +kernel
theorem dX0_putAwayIn_76 : decode cX0_putAwayIn 76 = .ok (.ifCond .eq 24, 3) := by decide +kernel
theorem dX0_putAwayIn_79 : decode cX0_putAwayIn 79 = .ok (.aload 4, 2) := by decide +kernel
theorem dX0_putAwayIn_81 : decode cX0_putAwayIn 81 = .ok (.getfield 196, 3) := by decide +kernel
theorem dX0_putAwayIn_84 : decode cX0_putAwayIn 84 = .ok (.iload_n 2, 1) := by decide +kernel
theorem dX0_putAwayIn_85 : decode cX0_putAwayIn 85 = .ok (.iaload, 1) := by decide +kernel
theorem dX0_putAwayIn_86 : decode cX0_putAwayIn 86 = .ok (.iload 5, 2) := by decide +kernel
theorem dX0_putAwayIn_88 : decode cX0_putAwayIn 88 = .ok (.if_icmp .ne 12, 3) := by decide +kernel
theorem dX0_putAwayIn_91 : decode cX0_putAwayIn 91 = .ok (.aload 4, 2) := by decide +kernel
theorem dX0_putAwayIn_93 : decode cX0_putAwayIn 93 = .ok (.getfield 196, 3) := by decide +kernel
theorem dX0_putAwayIn_96 : decode cX0_putAwayIn 96 = .ok (.iload_n 2, 1) := by decide +kernel
theorem dX0_putAwayIn_97 : decode cX0_putAwayIn 97 = .ok (.iload 6, 2) := by decide +kernel
theorem dX0_putAwayIn_99 : decode cX0_putAwayIn 99 = .ok (.iastore, 1) := by decide +kernel
theorem dX0_putAwayIn_100 : decode cX0_putAwayIn 100 = .ok (.aload 4, 2) := by decide +kernel
theorem dX0_putAwayIn_102 : decode cX0_putAwayIn 102 = .ok (.getfield 196, 3) := by decide +kernel
theorem dX0_putAwayIn_105 : decode cX0_putAwayIn 105 = .ok (.iload_n 2, 1) := by decide +kernel
theorem dX0_putAwayIn_106 : decode cX0_putAwayIn 106 = .ok (.iaload, 1) := by decide +kernel
theorem dX0_putAwayIn_107 : decode cX0_putAwayIn 107 = .ok (.istore 6, 2) := by decide +kernel
theorem dX0_putAwayIn_109 : decode cX0_putAwayIn 109 = .ok (.aload 4, 2) := by decide +kernel
theorem dX0_putAwayIn_111 : decode cX0_putAwayIn 111 = .ok (.getfield 159, 3) := by decide +kernel
theorem dX0_putAwayIn_114 : decode cX0_putAwayIn 114 = .ok (.iload_n 2, 1) := by decide +kernel
theorem dX0_putAwayIn_115 : decode cX0_putAwayIn 115 = .ok (.iaload, 1) := by decide +kernel
theorem dX0_putAwayIn_116 : decode cX0_putAwayIn 116 = .ok (.invokestatic 193, 3) := by decide +kernel
theorem dX0_putAwayIn_119 : decode cX0_putAwayIn 119 = .ok (.ifCond .eq 38, 3) := by decide +kernel
theorem dX0_putAwayIn_122 : decode cX0_putAwayIn 122 = .ok (.iload 6, 2) := by decide +kernel
theorem dX0_putAwayIn_124 : decode cX0_putAwayIn 124 = .ok (.iload_n 3, 1) := by decide +kernel
theorem dX0_putAwayIn_125 : decode cX0_putAwayIn 125 = .ok (.if_icmp .ge 32, 3) := by decide +kernel
theorem dX0_putAwayIn_128 : decode cX0_putAwayIn 128 = .ok (.aload_n 0, 1) := by decide +kernel
theorem dX0_putAwayIn_129 : decode cX0_putAwayIn 129 = .ok (.getfield 41, 3) := by decide +kernel
theorem dX0_putAwayIn_132 : decode cX0_putAwayIn 132 = .ok (.iload 6, 2) := by decide +kernel
theorem dX0_putAwayIn_134 : decode cX0_putAwayIn 134 = .ok (.iaload, 1) := by decide +kernel
theorem dX0_putAwayIn_135 : decode cX0_putAwayIn 135 = .ok (.iconst (-1), 1) := by decide +kernel
theorem dX0_putAwayIn_136 : decode cX0_putAwayIn 136 = .ok (.if_icmp .eq 21, 3) := by decide +kernel
theorem dX0_putAwayIn_139 : decode cX0_putAwayIn 139 = .ok (.aload_n 0, 1) := by decide +kernel
theorem dX0_putAwayIn_140 : decode cX0_putAwayIn 140 = .ok (.iload_n 1, 1) := by decide +kernel
theorem dX0_putAwayIn_141 : decode cX0_putAwayIn 141 = .ok (.iload 6, 2) := by decide +kernel
theorem dX0_putAwayIn_143 : decode cX0_putAwayIn 143 = .ok (.invokevirtual 222, 3) := by decide +kernel
theorem dX0_putAwayIn_146 : decode cX0_putAwayIn 146 = .ok (.istore 7, 2) := by decide +kernel
theorem dX0_putAwayIn_148 : decode cX0_putAwayIn 148 = .ok (.aload 4, 2) := by decide +kernel
theorem dX0_putAwayIn_150 : decode cX0_putAwayIn 150 = .ok (.getfield 196, 3) := by decide +kernel
theorem dX0_putAwayIn_153 : decode cX0_putAwayIn 153 = .ok (.iload_n 2, 1) := by decide +kernel
theorem dX0_putAwayIn_154 : decode cX0_putAwayIn 154 = .ok (.iload 7, 2) := by decide +kernel
theorem dX0_putAwayIn_156 : decode cX0_putAwayIn 156 = .ok (.iastore, 1) := by decide +kernel
theorem dX0_putAwayIn_157 : decode cX0_putAwayIn 157 = .ok (.aload 4, 2) := by decide +kernel
theorem dX0_putAwayIn_159 : decode cX0_putAwayIn 159 = .ok (.getfield 162, 3) := by decide +kernel
theorem dX0_putAwayIn_162 : decode cX0_putAwayIn 162 = .ok (.iload_n 2, 1) := by decide +kernel
theorem dX0_putAwayIn_163 : decode cX0_putAwayIn 163 = .ok (.iaload, 1) := by decide +kernel
theorem dX0_putAwayIn_164 : decode cX0_putAwayIn 164 = .ok (.istore 7, 2) := by decide +kernel
theorem dX0_putAwayIn_166 : decode cX0_putAwayIn 166 = .ok (.iload 7, 2) := by decide +kernel
theorem dX0_putAwayIn_168 : decode cX0_putAwayIn 168 = .ok (.ifCond .ge 7, 3) := by decide +kernel
theorem dX0_putAwayIn_171 : decode cX0_putAwayIn 171 = .ok (.iconst (-1), 1) := by decide +kernel
theorem dX0_putAwayIn_172 : decode cX0_putAwayIn 172 = .ok (.goto 10, 3) := by decide +kernel
theorem dX0_putAwayIn_175 : decode cX0_putAwayIn 175 = .ok (.aload_n 0, 1) := by decide +kernel
theorem dX0_putAwayIn_176 : decode cX0_putAwayIn 176 = .ok (.getfield 41, 3) := by decide +kernel
theorem dX0_putAwayIn_179 : decode cX0_putAwayIn 179 = .ok (.iload 7, 2) := by decide +kernel
theorem dX0_putAwayIn_181 : decode cX0_putAwayIn 181 = .ok (.iaload, 1) := by decide +kernel
theorem dX0_putAwayIn_182 : decode cX0_putAwayIn 182 = .ok (.istore 8, 2) := by decide +kernel
theorem dX0_putAwayIn_184 : decode cX0_putAwayIn 184 = .ok (.iload 8, 2) := by decide +kernel
theorem dX0_putAwayIn_186 : decode cX0_putAwayIn 186 = .ok (.bipush (-2), 2) := by decide +kernel
theorem dX0_putAwayIn_188 : decode cX0_putAwayIn 188 = .ok (.if_icmp .ne 4, 3) := by decide +kernel
theorem dX0_putAwayIn_191 : decode cX0_putAwayIn 191 = .ok (.return_, 1) := by decide +kernel
theorem dX0_putAwayIn_192 : decode cX0_putAwayIn 192 = .ok (.aload_n 0, 1) := by decide +kernel
theorem dX0_putAwayIn_193 : decode cX0_putAwayIn 193 = .ok (.getfield 12, 3) := by decide +kernel
theorem dX0_putAwayIn_196 : decode cX0_putAwayIn 196 = .ok (.iload_n 1, 1) := by decide +kernel
theorem dX0_putAwayIn_197 : decode cX0_putAwayIn 197 = .ok (.iload_n 2, 1) := by decide +kernel
theorem dX0_putAwayIn_198 : decode cX0_putAwayIn 198 = .ok (.invokevirtual 199, 3) := by decide +kernel
theorem dX0_putAwayIn_201 : decode cX0_putAwayIn 201 = .ok (.iload 8, 2) := by decide +kernel
theorem dX0_putAwayIn_203 : decode cX0_putAwayIn 203 = .ok (.iconst (-1), 1) := by decide +kernel
theorem dX0_putAwayIn_204 : decode cX0_putAwayIn 204 = .ok (.if_icmp .eq 42, 3) := by decide +kernel
theorem dX0_putAwayIn_207 : decode cX0_putAwayIn 207 = .ok (.aload 4, 2) := by decide +kernel
theorem dX0_putAwayIn_209 : decode cX0_putAwayIn 209 = .ok (.getfield 162, 3) := by decide +kernel
theorem dX0_putAwayIn_212 : decode cX0_putAwayIn 212 = .ok (.iload_n 2, 1) := by decide +kernel
theorem dX0_putAwayIn_213 : decode cX0_putAwayIn 213 = .ok (.aload_n 0, 1) := by decide +kernel
theorem dX0_putAwayIn_214 : decode cX0_putAwayIn 214 = .ok (.getfield 90, 3) := by decide +kernel
theorem dX0_putAwayIn_217 : decode cX0_putAwayIn 217 = .ok (.iastore, 1) := by decide +kernel
theorem dX0_putAwayIn_218 : decode cX0_putAwayIn 218 = .ok (.aload_n 0, 1) := by decide +kernel
theorem dX0_putAwayIn_219 : decode cX0_putAwayIn 219 = .ok (.getfield 12, 3) := by decide +kernel
theorem dX0_putAwayIn_222 : decode cX0_putAwayIn 222 = .ok (.iload_n 1, 1) := by decide +kernel
theorem dX0_putAwayIn_223 : decode cX0_putAwayIn 223 = .ok (.bipush 27, 2) := by decide +kernel
theorem dX0_putAwayIn_225 : decode cX0_putAwayIn 225 = .ok (.iconst (-1), 1) := by decide +kernel
theorem dX0_putAwayIn_226 : decode cX0_putAwayIn 226 = .ok (.aload_n 0, 1) := by decide +kernel
theorem dX0_putAwayIn_227 : decode cX0_putAwayIn 227 = .ok (.getfield 90, 3) := by decide +kernel
theorem dX0_putAwayIn_230 : decode cX0_putAwayIn 230 = .ok (.iload 8, 2) := by decide +kernel
theorem dX0_putAwayIn_232 : decode cX0_putAwayIn 232 = .ok (.invokevirtual 145, 3) := by decide +kernel
theorem dX0_putAwayIn_235 : decode cX0_putAwayIn 235 = .ok (.pop, 1) := by decide +kernel
theorem dX0_putAwayIn_236 : decode cX0_putAwayIn 236 = .ok (.aload_n 0, 1) := by decide +kernel
theorem dX0_putAwayIn_237 : decode cX0_putAwayIn 237 = .ok (.dup, 1) := by decide +kernel
theorem dX0_putAwayIn_238 : decode cX0_putAwayIn 238 = .ok (.getfield 90, 3) := by decide +kernel
theorem dX0_putAwayIn_241 : decode cX0_putAwayIn 241 = .ok (.iconst 1, 1) := by decide +kernel
theorem dX0_putAwayIn_242 : decode cX0_putAwayIn 242 = .ok (.iadd, 1) := by decide +kernel
theorem dX0_putAwayIn_243 : decode cX0_putAwayIn 243 = .ok (.putfield 90, 3) := by decide +kernel
theorem dX0_putAwayIn_246 : decode cX0_putAwayIn 246 = .ok (.return_, 1) := by decide +kernel
theorem dX2_colour_0 : decode cX2_colour 0 = .ok (.aload_n 0, 1) := by decide +kernel
theorem dX2_colour_1 : decode cX2_colour 1 = .ok (.aload_n 1, 1) := by decide +kernel
theorem dX2_colour_2 : decode cX2_colour 2 = .ok (.invokevirtual 212, 3) := by decide +kernel
theorem dX2_colour_5 : decode cX2_colour 5 = .ok (.iconst 0, 1) := by decide +kernel
theorem dX2_colour_6 : decode cX2_colour 6 = .ok (.istore_n 3, 1) := by decide +kernel
theorem dX2_colour_7 : decode cX2_colour 7 = .ok (.iconst 0, 1) := by decide +kernel
theorem dX2_colour_8 : decode cX2_colour 8 = .ok (.istore 4, 2) := by decide +kernel
theorem dX2_colour_10 : decode cX2_colour 10 = .ok (.iload 4, 2) := by decide +kernel
theorem dX2_colour_12 : decode cX2_colour 12 = .ok (.aload_n 0, 1) := by decide +kernel
theorem dX2_colour_13 : decode cX2_colour 13 = .ok (.getfield 62, 3) := by decide +kernel
theorem dX2_colour_16 : decode cX2_colour 16 = .ok (.if_icmp .ge 63, 3) := by decide +kernel
theorem dX2_colour_19 : decode cX2_colour 19 = .ok (.aload_n 0, 1) := by decide +kernel
theorem dX2_colour_20 : decode cX2_colour 20 = .ok (.getfield 52, 3) := by decide +kernel
theorem dX2_colour_23 : decode cX2_colour 23 = .ok (.iload 4, 2) := by decide +kernel
theorem dX2_colour_25 : decode cX2_colour 25 = .ok (.aload_n 0, 1) := by decide +kernel
theorem dX2_colour_26 : decode cX2_colour 26 = .ok (.getfield 43, 3) := by decide +kernel
theorem dX2_colour_29 : decode cX2_colour 29 = .ok (.iload 4, 2) := by decide +kernel
theorem dX2_colour_31 : decode cX2_colour 31 = .ok (.iaload, 1) := by decide +kernel
theorem dX2_colour_32 : decode cX2_colour 32 = .ok (.ifCond .le 13, 3) := by decide +kernel
theorem dX2_colour_35 : decode cX2_colour 35 = .ok (.aload_n 0, 1) := by decide +kernel
theorem dX2_colour_36 : decode cX2_colour 36 = .ok (.getfield 37, 3) := by decide +kernel
theorem dX2_colour_39 : decode cX2_colour 39 = .ok (.iload 4, 2) := by decide +kernel
theorem dX2_colour_41 : decode cX2_colour 41 = .ok (.iaload, 1) := by decide +kernel
theorem dX2_colour_42 : decode cX2_colour 42 = .ok (.goto 4, 3) := by decide +kernel
theorem dX2_colour_45 : decode cX2_colour 45 = .ok (.iconst (-1), 1) := by decide +kernel
theorem dX2_colour_46 : decode cX2_colour 46 = .ok (.iastore, 1) := by decide +kernel
theorem dX2_colour_47 : decode cX2_colour 47 = .ok (.aload_n 0, 1) := by decide +kernel
theorem dX2_colour_48 : decode cX2_colour 48 = .ok (.getfield 49, 3) := by decide +kernel
theorem dX2_colour_51 : decode cX2_colour 51 = .ok (.iload 4, 2) := by decide +kernel
theorem dX2_colour_53 : decode cX2_colour 53 = .ok (.iconst (-1), 1) := by decide +kernel
theorem dX2_colour_54 : decode cX2_colour 54 = .ok (.iastore, 1) := by decide +kernel
theorem dX2_colour_55 : decode cX2_colour 55 = .ok (.iload_n 3, 1) := by decide +kernel
theorem dX2_colour_56 : decode cX2_colour 56 = .ok (.aload_n 0, 1) := by decide +kernel
theorem dX2_colour_57 : decode cX2_colour 57 = .ok (.getfield 43, 3) := by decide +kernel
theorem dX2_colour_60 : decode cX2_colour 60 = .ok (.iload 4, 2) := by decide +kernel
theorem dX2_colour_62 : decode cX2_colour 62 = .ok (.iaload, 1) := by decide +kernel
theorem dX2_colour_63 : decode cX2_colour 63 = .ok (.ifCond .le 7, 3) := by decide +kernel
theorem dX2_colour_66 : decode cX2_colour 66 = .ok (.iconst 1, 1) := by decide +kernel
theorem dX2_colour_67 : decode cX2_colour 67 = .ok (.goto 4, 3) := by decide +kernel
theorem dX2_colour_70 : decode cX2_colour 70 = .ok (.iconst 0, 1) := by decide +kernel
theorem dX2_colour_71 : decode cX2_colour 71 = .ok (.iadd, 1) := by decide +kernel
theorem dX2_colour_72 : decode cX2_colour 72 = .ok (.istore_n 3, 1) := by decide +kernel
theorem dX2_colour_73 : decode cX2_colour 73 = .ok (.iinc 4 1, 3) := by decide +kernel
theorem dX2_colour_76 : decode cX2_colour 76 = .ok (.goto (-66), 3) := by decide +kernel
theorem dX2_colour_79 : decode cX2_colour 79 = .ok (.iconst 0, 1) := by decide +kernel
theorem dX2_colour_80 : decode cX2_colour 80 = .ok (.istore 4, 2) := by decide +kernel
theorem dX2_colour_82 : decode cX2_colour 82 = .ok (.iload 4, 2) := by decide +kernel
theorem dX2_colour_84 : decode cX2_colour 84 = .ok (.iload_n 3, 1) := by decide +kernel
theorem dX2_colour_85 : decode cX2_colour 85 = .ok (.if_icmp .ge 32, 3) := by decide +kernel
theorem dX2_colour_88 : decode cX2_colour 88 = .ok (.aload_n 0, 1) := by decide +kernel
theorem dX2_colour_89 : decode cX2_colour 89 = .ok (.getfield 55, 3) := by decide +kernel
theorem dX2_colour_92 : decode cX2_colour 92 = .ok (.iload 4, 2) := by decide +kernel
theorem dX2_colour_94 : decode cX2_colour 94 = .ok (.aload_n 0, 1) := by decide +kernel
theorem dX2_colour_95 : decode cX2_colour 95 = .ok (.iload_n 2, 1) := by decide +kernel
theorem dX2_colour_96 : decode cX2_colour 96 = .ok (.invokevirtual 215, 3) := by decide +kernel
theorem dX2_colour_99 : decode cX2_colour 99 = .ok (.iastore, 1) := by decide +kernel
theorem dX2_colour_100 : decode cX2_colour 100 = .ok (.aload_n 0, 1) := by decide +kernel
theorem dX2_colour_101 : decode cX2_colour 101 = .ok (.aload_n 0, 1) := by decide +kernel
theorem dX2_colour_102 : decode cX2_colour 102 = .ok (.getfield 55, 3) := by decide +kernel
theorem dX2_colour_105 : decode cX2_colour 105 = .ok (.iload 4, 2) := by decide +kernel
theorem dX2_colour_107 : decode cX2_colour 107 = .ok (.iaload, 1) := by decide +kernel
theorem dX2_colour_108 : decode cX2_colour 108 = .ok (.invokevirtual 219, 3) := by decide +kernel
theorem dX2_colour_111 : decode cX2_colour 111 = .ok (.iinc 4 1, 3) := by decide +kernel
theorem dX2_colour_114 : decode cX2_colour 114 = .ok (.goto (-32), 3) := by decide +kernel
theorem dX2_colour_117 : decode cX2_colour 117 = .ok (.iconst 1, 1) := by decide +kernel
theorem dX2_colour_118 : decode cX2_colour 118 = .ok (.istore 4, 2) := by decide +kernel
theorem dX2_colour_120 : decode cX2_colour 120 = .ok (.iload_n 3, 1) := by decide +kernel
theorem dX2_colour_121 : decode cX2_colour 121 = .ok (.iconst 1, 1) := by decide +kernel
theorem dX2_colour_122 : decode cX2_colour 122 = .ok (.isub, 1) := by decide +kernel
theorem dX2_colour_123 : decode cX2_colour 123 = .ok (.istore 5, 2) := by decide +kernel
theorem dX2_colour_125 : decode cX2_colour 125 = .ok (.iload 5, 2) := by decide +kernel
theorem dX2_colour_127 : decode cX2_colour 127 = .ok (.ifCond .lt 60, 3) := by decide +kernel
theorem dX2_colour_130 : decode cX2_colour 130 = .ok (.aload_n 0, 1) := by decide +kernel
theorem dX2_colour_131 : decode cX2_colour 131 = .ok (.getfield 49, 3) := by decide +kernel
theorem dX2_colour_134 : decode cX2_colour 134 = .ok (.aload_n 0, 1) := by decide +kernel
theorem dX2_colour_135 : decode cX2_colour 135 = .ok (.getfield 55, 3) := by decide +kernel
theorem dX2_colour_138 : decode cX2_colour 138 = .ok (.iload 5, 2) := by decide +kernel
theorem dX2_colour_140 : decode cX2_colour 140 = .ok (.iaload, 1) := by decide +kernel
theorem dX2_colour_141 : decode cX2_colour 141 = .ok (.aload_n 0, 1) := by decide +kernel
theorem dX2_colour_142 : decode cX2_colour 142 = .ok (.aload_n 0, 1) := by decide +kernel
theorem dX2_colour_143 : decode cX2_colour 143 = .ok (.getfield 55, 3) := by decide +kernel
theorem dX2_colour_146 : decode cX2_colour 146 = .ok (.iload 5, 2) := by decide +kernel
theorem dX2_colour_148 : decode cX2_colour 148 = .ok (.iaload, 1) := by decide +kernel
theorem dX2_colour_149 : decode cX2_colour 149 = .ok (.iload_n 2, 1) := by decide +kernel
theorem dX2_colour_150 : decode cX2_colour 150 = .ok (.invokevirtual 222, 3) := by decide +kernel
theorem dX2_colour_153 : decode cX2_colour 153 = .ok (.iastore, 1) := by decide +kernel
theorem dX2_colour_154 : decode cX2_colour 154 = .ok (.iload 4, 2) := by decide +kernel
theorem dX2_colour_156 : decode cX2_colour 156 = .ok (.ifCond .eq 22, 3) := by decide +kernel
theorem dX2_colour_159 : decode cX2_colour 159 = .ok (.aload_n 0, 1) := by decide +kernel
theorem dX2_colour_160 : decode cX2_colour 160 = .ok (.getfield 49, 3) := by decide +kernel
theorem dX2_colour_163 : decode cX2_colour 163 = .ok (.aload_n 0, 1) := by decide +kernel
theorem dX2_colour_164 : decode cX2_colour 164 = .ok (.getfield 55, 3) := by decide +kernel
theorem dX2_colour_167 : decode cX2_colour 167 = .ok (.iload 5, 2) := by decide +kernel
theorem dX2_colour_169 : decode cX2_colour 169 = .ok (.iaload, 1) := by decide +kernel
theorem dX2_colour_170 : decode cX2_colour 170 = .ok (.iaload, 1) := by decide +kernel
theorem dX2_colour_171 : decode cX2_colour 171 = .ok (.ifCond .lt 7, 3) := by decide +kernel
theorem dX2_colour_174 : decode cX2_colour 174 = .ok (.iconst 1, 1) := by decide +kernel
theorem dX2_colour_175 : decode cX2_colour 175 = .ok (.goto 4, 3) := by decide +kernel
theorem dX2_colour_178 : decode cX2_colour 178 = .ok (.iconst 0, 1) := by decide +kernel
theorem dX2_colour_179 : decode cX2_colour 179 = .ok (.istore 4, 2) := by decide +kernel
theorem dX2_colour_181 : decode cX2_colour 181 = .ok (.iinc 5 (-1), 3) := by decide +kernel
theorem dX2_colour_184 : decode cX2_colour 184 = .ok (.goto (-59), 3) := by decide +kernel
theorem dX2_colour_187 : decode cX2_colour 187 = .ok (.iload 4, 2) := by decide +kernel
theorem dX2_colour_189 : decode cX2_colour 189 = .ok (.ireturn, 1) := by decide +kernel
theorem dX2_freeRegister_0 : decode cX2_freeRegister 0 = .ok (.iconst 0, 1) := by decide +kernel
theorem dX2_freeRegister_1 : decode cX2_freeRegister 1 = .ok (.istore_n 3, 1) := by decide +kernel
theorem dX2_freeRegister_2 : decode cX2_freeRegister 2 = .ok (.iconst 0, 1) := by decide +kernel
theorem dX2_freeRegister_3 : decode cX2_freeRegister 3 = .ok (.istore 4, 2) := by decide +kernel
theorem dX2_freeRegister_5 : decode cX2_freeRegister 5 = .ok (.iload 4, 2) := by decide +kernel
theorem dX2_freeRegister_7 : decode cX2_freeRegister 7 = .ok (.aload_n 0, 1) := by decide +kernel
theorem dX2_freeRegister_8 : decode cX2_freeRegister 8 = .ok (.getfield 65, 3) := by decide +kernel
theorem dX2_freeRegister_11 : decode cX2_freeRegister 11 = .ok (.if_icmp .ge 62, 3) := by decide +kernel
theorem dX2_freeRegister_14 : decode cX2_freeRegister 14 = .ok (.aload_n 0, 1) := by decide +kernel
theorem dX2_freeRegister_15 : decode cX2_freeRegister 15 = .ok (.getfield 31, 3) := by decide +kernel
theorem dX2_freeRegister_18 : decode cX2_freeRegister 18 = .ok (.iload_n 1, 1) := by decide +kernel
theorem dX2_freeRegister_19 : decode cX2_freeRegister 19 = .ok (.aload_n 0, 1) := by decide +kernel
theorem dX2_freeRegister_20 : decode cX2_freeRegister 20 = .ok (.getfield 65, 3) := by decide +kernel
theorem dX2_freeRegister_23 : decode cX2_freeRegister 23 = .ok (.imul, 1) := by decide +kernel
theorem dX2_freeRegister_24 : decode cX2_freeRegister 24 = .ok (.iload 4, 2) := by decide +kernel
theorem dX2_freeRegister_26 : decode cX2_freeRegister 26 = .ok (.iadd, 1) := by decide +kernel
theorem dX2_freeRegister_27 : decode cX2_freeRegister 27 = .ok (.laload, 1) := by decide +kernel
theorem dX2_freeRegister_28 : decode cX2_freeRegister 28 = .ok (.lstore 5, 2) := by decide +kernel
theorem dX2_freeRegister_30 : decode cX2_freeRegister 30 = .ok (.lload 5, 2) := by decide +kernel
theorem dX2_freeRegister_32 : decode cX2_freeRegister 32 = .ok (.lconst 0, 1) := by decide +kernel
theorem dX2_freeRegister_33 : decode cX2_freeRegister 33 = .ok (.lcmp, 1) := by decide +kernel
theorem dX2_freeRegister_34 : decode cX2_freeRegister 34 = .ok (.ifCond .eq 33, 3) := by decide +kernel
theorem dX2_freeRegister_37 : decode cX2_freeRegister 37 = .ok (.iload_n 3, 1) := by decide +kernel
theorem dX2_freeRegister_38 : decode cX2_freeRegister 38 = .ok (.aload_n 0, 1) := by decide +kernel
theorem dX2_freeRegister_39 : decode cX2_freeRegister 39 = .ok (.iload 4, 2) := by decide +kernel
theorem dX2_freeRegister_41 : decode cX2_freeRegister 41 = .ok (.bipush 64, 2) := by decide +kernel
theorem dX2_freeRegister_43 : decode cX2_freeRegister 43 = .ok (.imul, 1) := by decide +kernel
theorem dX2_freeRegister_44 : decode cX2_freeRegister 44 = .ok (.lload 5, 2) := by decide +kernel
theorem dX2_freeRegister_46 : decode cX2_freeRegister 46 = .ok (.invokestatic 203, 3) := by decide +kernel
theorem dX2_freeRegister_49 : decode cX2_freeRegister 49 = .ok (.iadd, 1) := by decide +kernel
theorem dX2_freeRegister_50 : decode cX2_freeRegister 50 = .ok (.invokevirtual 237, 3) := by decide +kernel
theorem dX2_freeRegister_53 : decode cX2_freeRegister 53 = .ok (.ior, 1) := by decide +kernel
theorem dX2_freeRegister_54 : decode cX2_freeRegister 54 = .ok (.istore_n 3, 1) := by decide +kernel
theorem dX2_freeRegister_55 : decode cX2_freeRegister 55 = .ok (.lload 5, 2) := by decide +kernel
theorem dX2_freeRegister_57 : decode cX2_freeRegister 57 = .ok (.lload 5, 2) := by decide +kernel
theorem dX2_freeRegister_59 : decode cX2_freeRegister 59 = .ok (.lconst 1, 1) := by decide +kernel
theorem dX2_freeRegister_60 : decode cX2_freeRegister 60 = .ok (.lsub, 1) := by decide +kernel
theorem dX2_freeRegister_61 : decode cX2_freeRegister 61 = .ok (.land, 1) := by decide +kernel
theorem dX2_freeRegister_62 : decode cX2_freeRegister 62 = .ok (.lstore 5, 2) := by decide +kernel
theorem dX2_freeRegister_64 : decode cX2_freeRegister 64 = .ok (.goto (-34), 3) := by decide +kernel
theorem dX2_freeRegister_67 : decode cX2_freeRegister 67 = .ok (.iinc 4 1, 3) := by decide +kernel
theorem dX2_freeRegister_70 : decode cX2_freeRegister 70 = .ok (.goto (-65), 3) := by decide +kernel
theorem dX2_freeRegister_73 : decode cX2_freeRegister 73 = .ok (.aload_n 0, 1) := by decide +kernel
theorem dX2_freeRegister_74 : decode cX2_freeRegister 74 = .ok (.getfield 34, 3) := by decide +kernel
theorem dX2_freeRegister_77 : decode cX2_freeRegister 77 = .ok (.iload_n 1, 1) := by decide +kernel
theorem dX2_freeRegister_78 : decode cX2_freeRegister 78 = .ok (.iaload, 1) := by decide +kernel
theorem dX2_freeRegister_79 : decode cX2_freeRegister 79 = .ok (.ifCond .lt 16, 3) := by decide +kernel
theorem dX2_freeRegister_82 : decode cX2_freeRegister 82 = .ok (.iload_n 3, 1) := by decide +kernel
theorem dX2_freeRegister_83 : decode cX2_freeRegister 83 = .ok (.aload_n 0, 1) := by decide +kernel
theorem dX2_freeRegister_84 : decode cX2_freeRegister 84 = .ok (.aload_n 0, 1) := by decide +kernel
theorem dX2_freeRegister_85 : decode cX2_freeRegister 85 = .ok (.getfield 34, 3) := by decide +kernel
theorem dX2_freeRegister_88 : decode cX2_freeRegister 88 = .ok (.iload_n 1, 1) := by decide +kernel
theorem dX2_freeRegister_89 : decode cX2_freeRegister 89 = .ok (.iaload, 1) := by decide +kernel
theorem dX2_freeRegister_90 : decode cX2_freeRegister 90 = .ok (.invokevirtual 237, 3) := by decide +kernel
theorem dX2_freeRegister_93 : decode cX2_freeRegister 93 = .ok (.ior, 1) := by decide +kernel
theorem dX2_freeRegister_94 : decode cX2_freeRegister 94 = .ok (.istore_n 3, 1) := by decide +kernel
theorem dX2_freeRegister_95 : decode cX2_freeRegister 95 = .ok (.iload_n 1, 1) := by decide +kernel
theorem dX2_freeRegister_96 : decode cX2_freeRegister 96 = .ok (.aload_n 0, 1) := by decide +kernel
theorem dX2_freeRegister_97 : decode cX2_freeRegister 97 = .ok (.getfield 58, 3) := by decide +kernel
theorem dX2_freeRegister_100 : decode cX2_freeRegister 100 = .ok (.if_icmp .ge 47, 3) := by decide +kernel
theorem dX2_freeRegister_103 : decode cX2_freeRegister 103 = .ok (.aload_n 0, 1) := by decide +kernel
theorem dX2_freeRegister_104 : decode cX2_freeRegister 104 = .ok (.getfield 58, 3) := by decide +kernel
theorem dX2_freeRegister_107 : decode cX2_freeRegister 107 = .ok (.istore 4, 2) := by decide +kernel
theorem dX2_freeRegister_109 : decode cX2_freeRegister 109 = .ok (.iload 4, 2) := by decide +kernel
theorem dX2_freeRegister_111 : decode cX2_freeRegister 111 = .ok (.aload_n 0, 1) := by decide +kernel
theorem dX2_freeRegister_112 : decode cX2_freeRegister 112 = .ok (.getfield 62, 3) := by decide +kernel
theorem dX2_freeRegister_115 : decode cX2_freeRegister 115 = .ok (.if_icmp .ge 32, 3) := by decide +kernel
theorem dX2_freeRegister_118 : decode cX2_freeRegister 118 = .ok (.aload_n 0, 1) := by decide +kernel
theorem dX2_freeRegister_119 : decode cX2_freeRegister 119 = .ok (.aload_n 0, 1) := by decide +kernel
theorem dX2_freeRegister_120 : decode cX2_freeRegister 120 = .ok (.getfield 31, 3) := by decide +kernel
theorem dX2_freeRegister_123 : decode cX2_freeRegister 123 = .ok (.iload 4, 2) := by decide +kernel
theorem dX2_freeRegister_125 : decode cX2_freeRegister 125 = .ok (.iload_n 1, 1) := by decide +kernel
theorem dX2_freeRegister_126 : decode cX2_freeRegister 126 = .ok (.invokevirtual 150, 3) := by decide +kernel
theorem dX2_freeRegister_129 : decode cX2_freeRegister 129 = .ok (.ifCond .eq 12, 3) := by decide +kernel
theorem dX2_freeRegister_132 : decode cX2_freeRegister 132 = .ok (.iload_n 3, 1) := by decide +kernel
theorem dX2_freeRegister_133 : decode cX2_freeRegister 133 = .ok (.aload_n 0, 1) := by decide +kernel
theorem dX2_freeRegister_134 : decode cX2_freeRegister 134 = .ok (.iload 4, 2) := by decide +kernel
theorem dX2_freeRegister_136 : decode cX2_freeRegister 136 = .ok (.invokevirtual 237, 3) := by decide +kernel
theorem dX2_freeRegister_139 : decode cX2_freeRegister 139 = .ok (.ior, 1) := by decide +kernel
theorem dX2_freeRegister_140 : decode cX2_freeRegister 140 = .ok (.istore_n 3, 1) := by decide +kernel
theorem dX2_freeRegister_141 : decode cX2_freeRegister 141 = .ok (.iinc 4 1, 3) := by decide +kernel
theorem dX2_freeRegister_144 : decode cX2_freeRegister 144 = .ok (.goto (-35), 3) := by decide +kernel
theorem dX2_freeRegister_147 : decode cX2_freeRegister 147 = .ok (.iconst 0, 1) := by decide +kernel
theorem dX2_freeRegister_148 : decode cX2_freeRegister 148 = .ok (.istore 4, 2) := by decide +kernel
theorem dX2_freeRegister_150 : decode cX2_freeRegister 150 = .ok (.iload 4, 2) := by decide +kernel
theorem dX2_freeRegister_152 : decode cX2_freeRegister 152 = .ok (.iload_n 2, 1) := by decide +kernel
theorem dX2_freeRegister_153 : decode cX2_freeRegister 153 = .ok (.if_icmp .ge 21, 3) := by decide +kernel
theorem dX2_freeRegister_156 : decode cX2_freeRegister 156 = .ok (.iload_n 3, 1) := by decide +kernel
theorem dX2_freeRegister_157 : decode cX2_freeRegister 157 = .ok (.iload 4, 2) := by decide +kernel
theorem dX2_freeRegister_159 : decode cX2_freeRegister 159 = .ok (.ishr, 1) := by decide +kernel
theorem dX2_freeRegister_160 : decode cX2_freeRegister 160 = .ok (.iconst 1, 1) := by decide +kernel
theorem dX2_freeRegister_161 : decode cX2_freeRegister 161 = .ok (.iand, 1) := by decide +kernel
theorem dX2_freeRegister_162 : decode cX2_freeRegister 162 = .ok (.ifCond .ne 6, 3) := by decide +kernel
theorem dX2_freeRegister_165 : decode cX2_freeRegister 165 = .ok (.iload 4, 2) := by decide +kernel
theorem dX2_freeRegister_167 : decode cX2_freeRegister 167 = .ok (.ireturn, 1) := by decide +kernel
theorem dX2_freeRegister_168 : decode cX2_freeRegister 168 = .ok (.iinc 4 1, 3) := by decide +kernel
theorem dX2_freeRegister_171 : decode cX2_freeRegister 171 = .ok (.goto (-21), 3) := by decide +kernel
theorem dX2_freeRegister_174 : decode cX2_freeRegister 174 = .ok (.iconst (-1), 1) := by decide +kernel
theorem dX2_freeRegister_175 : decode cX2_freeRegister 175 = .ok (.ireturn, 1) := by decide +kernel
theorem dX2_lowerLeft_0 : decode cX2_lowerLeft 0 = .ok (.aload_n 0, 1) := by decide +kernel
theorem dX2_lowerLeft_1 : decode cX2_lowerLeft 1 = .ok (.getfield 52, 3) := by decide +kernel
theorem dX2_lowerLeft_4 : decode cX2_lowerLeft 4 = .ok (.iload_n 1, 1) := by decide +kernel
theorem dX2_lowerLeft_5 : decode cX2_lowerLeft 5 = .ok (.iaload, 1) := by decide +kernel
theorem dX2_lowerLeft_6 : decode cX2_lowerLeft 6 = .ok (.iconst (-1), 1) := by decide +kernel
theorem dX2_lowerLeft_7 : decode cX2_lowerLeft 7 = .ok (.if_icmp .eq 13, 3) := by decide +kernel
theorem dX2_lowerLeft_10 : decode cX2_lowerLeft 10 = .ok (.aload_n 0, 1) := by decide +kernel
theorem dX2_lowerLeft_11 : decode cX2_lowerLeft 11 = .ok (.getfield 52, 3) := by decide +kernel
theorem dX2_lowerLeft_14 : decode cX2_lowerLeft 14 = .ok (.iload_n 1, 1) := by decide +kernel
theorem dX2_lowerLeft_15 : decode cX2_lowerLeft 15 = .ok (.dup2, 1) := by decide +kernel
theorem dX2_lowerLeft_16 : decode cX2_lowerLeft 16 = .ok (.iaload, 1) := by decide +kernel
theorem dX2_lowerLeft_17 : decode cX2_lowerLeft 17 = .ok (.iconst 1, 1) := by decide +kernel
theorem dX2_lowerLeft_18 : decode cX2_lowerLeft 18 = .ok (.isub, 1) := by decide +kernel
theorem dX2_lowerLeft_19 : decode cX2_lowerLeft 19 = .ok (.iastore, 1) := by decide +kernel
theorem dX2_lowerLeft_20 : decode cX2_lowerLeft 20 = .ok (.return_, 1) := by decide +kernel
theorem dX2_nextToTake_0 : decode cX2_nextToTake 0 = .ok (.iconst (-1), 1) := by decide +kernel
theorem dX2_nextToTake_1 : decode cX2_nextToTake 1 = .ok (.istore_n 2, 1) := by decide +kernel
theorem dX2_nextToTake_2 : decode cX2_nextToTake 2 = .ok (.iconst 0, 1) := by decide +kernel
theorem dX2_nextToTake_3 : decode cX2_nextToTake 3 = .ok (.istore_n 3, 1) := by decide +kernel
theorem dX2_nextToTake_4 : decode cX2_nextToTake 4 = .ok (.iload_n 3, 1) := by decide +kernel
theorem dX2_nextToTake_5 : decode cX2_nextToTake 5 = .ok (.aload_n 0, 1) := by decide +kernel
theorem dX2_nextToTake_6 : decode cX2_nextToTake 6 = .ok (.getfield 62, 3) := by decide +kernel
theorem dX2_nextToTake_9 : decode cX2_nextToTake 9 = .ok (.if_icmp .ge 99, 3) := by decide +kernel
theorem dX2_nextToTake_12 : decode cX2_nextToTake 12 = .ok (.aload_n 0, 1) := by decide +kernel
theorem dX2_nextToTake_13 : decode cX2_nextToTake 13 = .ok (.getfield 52, 3) := by decide +kernel
theorem dX2_nextToTake_16 : decode cX2_nextToTake 16 = .ok (.iload_n 3, 1) := by decide +kernel
theorem dX2_nextToTake_17 : decode cX2_nextToTake 17 = .ok (.iaload, 1) := by decide +kernel
theorem dX2_nextToTake_18 : decode cX2_nextToTake 18 = .ok (.iconst (-1), 1) := by decide +kernel
theorem dX2_nextToTake_19 : decode cX2_nextToTake 19 = .ok (.if_icmp .eq 15, 3) := by decide +kernel
theorem dX2_nextToTake_22 : decode cX2_nextToTake 22 = .ok (.aload_n 0, 1) := by decide +kernel
theorem dX2_nextToTake_23 : decode cX2_nextToTake 23 = .ok (.getfield 52, 3) := by decide +kernel
theorem dX2_nextToTake_26 : decode cX2_nextToTake 26 = .ok (.iload_n 3, 1) := by decide +kernel
theorem dX2_nextToTake_27 : decode cX2_nextToTake 27 = .ok (.iaload, 1) := by decide +kernel
theorem dX2_nextToTake_28 : decode cX2_nextToTake 28 = .ok (.iload_n 1, 1) := by decide +kernel
theorem dX2_nextToTake_29 : decode cX2_nextToTake 29 = .ok (.if_icmp .ge 5, 3) := by decide +kernel
theorem dX2_nextToTake_32 : decode cX2_nextToTake 32 = .ok (.iload_n 3, 1) := by decide +kernel
theorem dX2_nextToTake_33 : decode cX2_nextToTake 33 = .ok (.ireturn, 1) := by decide +kernel
theorem dX2_nextToTake_34 : decode cX2_nextToTake 34 = .ok (.aload_n 0, 1) := by decide +kernel
theorem dX2_nextToTake_35 : decode cX2_nextToTake 35 = .ok (.getfield 52, 3) := by decide +kernel
theorem dX2_nextToTake_38 : decode cX2_nextToTake 38 = .ok (.iload_n 3, 1) := by decide +kernel
theorem dX2_nextToTake_39 : decode cX2_nextToTake 39 = .ok (.iaload, 1) := by decide +kernel
theorem dX2_nextToTake_40 : decode cX2_nextToTake 40 = .ok (.iconst (-1), 1) := by decide +kernel
theorem dX2_nextToTake_41 : decode cX2_nextToTake 41 = .ok (.if_icmp .eq 61, 3) := by decide +kernel
theorem dX2_nextToTake_44 : decode cX2_nextToTake 44 = .ok (.iload_n 3, 1) := by decide +kernel
theorem dX2_nextToTake_45 : decode cX2_nextToTake 45 = .ok (.aload_n 0, 1) := by decide +kernel
theorem dX2_nextToTake_46 : decode cX2_nextToTake 46 = .ok (.getfield 58, 3) := by decide +kernel
theorem dX2_nextToTake_49 : decode cX2_nextToTake 49 = .ok (.if_icmp .lt 15, 3) := by decide +kernel
theorem dX2_nextToTake_52 : decode cX2_nextToTake 52 = .ok (.iload_n 2, 1) := by decide +kernel
theorem dX2_nextToTake_53 : decode cX2_nextToTake 53 = .ok (.ifCond .lt 11, 3) := by decide +kernel
theorem dX2_nextToTake_56 : decode cX2_nextToTake 56 = .ok (.iload_n 2, 1) := by decide +kernel
theorem dX2_nextToTake_57 : decode cX2_nextToTake 57 = .ok (.aload_n 0, 1) := by decide +kernel
theorem dX2_nextToTake_58 : decode cX2_nextToTake 58 = .ok (.getfield 58, 3) := by decide +kernel
theorem dX2_nextToTake_61 : decode cX2_nextToTake 61 = .ok (.if_icmp .lt 41, 3) := by decide +kernel
theorem dX2_nextToTake_64 : decode cX2_nextToTake 64 = .ok (.iload_n 2, 1) := by decide +kernel
theorem dX2_nextToTake_65 : decode cX2_nextToTake 65 = .ok (.ifCond .lt 35, 3) := by decide +kernel
theorem dX2_nextToTake_68 : decode cX2_nextToTake 68 = .ok (.aload_n 0, 1) := by decide +kernel
theorem dX2_nextToTake_69 : decode cX2_nextToTake 69 = .ok (.getfield 40, 3) := by decide +kernel
theorem dX2_nextToTake_72 : decode cX2_nextToTake 72 = .ok (.iload_n 3, 1) := by decide +kernel
theorem dX2_nextToTake_73 : decode cX2_nextToTake 73 = .ok (.laload, 1) := by decide +kernel
theorem dX2_nextToTake_74 : decode cX2_nextToTake 74 = .ok (.aload_n 0, 1) := by decide +kernel
theorem dX2_nextToTake_75 : decode cX2_nextToTake 75 = .ok (.getfield 52, 3) := by decide +kernel
theorem dX2_nextToTake_78 : decode cX2_nextToTake 78 = .ok (.iload_n 2, 1) := by decide +kernel
theorem dX2_nextToTake_79 : decode cX2_nextToTake 79 = .ok (.iaload, 1) := by decide +kernel
theorem dX2_nextToTake_80 : decode cX2_nextToTake 80 = .ok (.i2l, 1) := by decide +kernel
theorem dX2_nextToTake_81 : decode cX2_nextToTake 81 = .ok (.lmul, 1) := by decide +kernel
theorem dX2_nextToTake_82 : decode cX2_nextToTake 82 = .ok (.aload_n 0, 1) := by decide +kernel
theorem dX2_nextToTake_83 : decode cX2_nextToTake 83 = .ok (.getfield 40, 3) := by decide +kernel
theorem dX2_nextToTake_86 : decode cX2_nextToTake 86 = .ok (.iload_n 2, 1) := by decide +kernel
theorem dX2_nextToTake_87 : decode cX2_nextToTake 87 = .ok (.laload, 1) := by decide +kernel
theorem dX2_nextToTake_88 : decode cX2_nextToTake 88 = .ok (.aload_n 0, 1) := by decide +kernel
theorem dX2_nextToTake_89 : decode cX2_nextToTake 89 = .ok (.getfield 52, 3) := by decide +kernel
theorem dX2_nextToTake_92 : decode cX2_nextToTake 92 = .ok (.iload_n 3, 1) := by decide +kernel
theorem dX2_nextToTake_93 : decode cX2_nextToTake 93 = .ok (.iaload, 1) := by decide +kernel
theorem dX2_nextToTake_94 : decode cX2_nextToTake 94 = .ok (.i2l, 1) := by decide +kernel
theorem dX2_nextToTake_95 : decode cX2_nextToTake 95 = .ok (.lmul, 1) := by decide +kernel
theorem dX2_nextToTake_96 : decode cX2_nextToTake 96 = .ok (.lcmp, 1) := by decide +kernel
theorem dX2_nextToTake_97 : decode cX2_nextToTake 97 = .ok (.ifCond .ge 5, 3) := by decide +kernel
theorem dX2_nextToTake_100 : decode cX2_nextToTake 100 = .ok (.iload_n 3, 1) := by decide +kernel
theorem dX2_nextToTake_101 : decode cX2_nextToTake 101 = .ok (.istore_n 2, 1) := by decide +kernel
theorem dX2_nextToTake_102 : decode cX2_nextToTake 102 = .ok (.iinc 3 1, 3) := by decide +kernel
theorem dX2_nextToTake_105 : decode cX2_nextToTake 105 = .ok (.goto (-101), 3) := by decide +kernel
theorem dX2_nextToTake_108 : decode cX2_nextToTake 108 = .ok (.iload_n 2, 1) := by decide +kernel
theorem dX2_nextToTake_109 : decode cX2_nextToTake 109 = .ok (.ireturn, 1) := by decide +kernel
theorem dX2_registerBit_0 : decode cX2_registerBit 0 = .ok (.aload_n 0, 1) := by decide +kernel
theorem dX2_registerBit_1 : decode cX2_registerBit 1 = .ok (.getfield 49, 3) := by decide +kernel
theorem dX2_registerBit_4 : decode cX2_registerBit 4 = .ok (.iload_n 1, 1) := by decide +kernel
theorem dX2_registerBit_5 : decode cX2_registerBit 5 = .ok (.iaload, 1) := by decide +kernel
theorem dX2_registerBit_6 : decode cX2_registerBit 6 = .ok (.ifCond .ge 7, 3) := by decide +kernel
theorem dX2_registerBit_9 : decode cX2_registerBit 9 = .ok (.iconst 0, 1) := by decide +kernel
theorem dX2_registerBit_10 : decode cX2_registerBit 10 = .ok (.goto 11, 3) := by decide +kernel
theorem dX2_registerBit_13 : decode cX2_registerBit 13 = .ok (.iconst 1, 1) := by decide +kernel
theorem dX2_registerBit_14 : decode cX2_registerBit 14 = .ok (.aload_n 0, 1) := by decide +kernel
theorem dX2_registerBit_15 : decode cX2_registerBit 15 = .ok (.getfield 49, 3) := by decide +kernel
theorem dX2_registerBit_18 : decode cX2_registerBit 18 = .ok (.iload_n 1, 1) := by decide +kernel
theorem dX2_registerBit_19 : decode cX2_registerBit 19 = .ok (.iaload, 1) := by decide +kernel
theorem dX2_registerBit_20 : decode cX2_registerBit 20 = .ok (.ishl, 1) := by decide +kernel
theorem dX2_registerBit_21 : decode cX2_registerBit 21 = .ok (.ireturn, 1) := by decide +kernel
theorem dX2_takeAway_0 : decode cX2_takeAway 0 = .ok (.aload_n 0, 1) := by decide +kernel
theorem dX2_takeAway_1 : decode cX2_takeAway 1 = .ok (.getfield 52, 3) := by decide +kernel
theorem dX2_takeAway_4 : decode cX2_takeAway 4 = .ok (.iload_n 1, 1) := by decide +kernel
theorem dX2_takeAway_5 : decode cX2_takeAway 5 = .ok (.iconst (-1), 1) := by decide +kernel
theorem dX2_takeAway_6 : decode cX2_takeAway 6 = .ok (.iastore, 1) := by decide +kernel
theorem dX2_takeAway_7 : decode cX2_takeAway 7 = .ok (.iconst 0, 1) := by decide +kernel
theorem dX2_takeAway_8 : decode cX2_takeAway 8 = .ok (.istore_n 2, 1) := by decide +kernel
theorem dX2_takeAway_9 : decode cX2_takeAway 9 = .ok (.iload_n 2, 1) := by decide +kernel
theorem dX2_takeAway_10 : decode cX2_takeAway 10 = .ok (.aload_n 0, 1) := by decide +kernel
theorem dX2_takeAway_11 : decode cX2_takeAway 11 = .ok (.getfield 65, 3) := by decide +kernel
theorem dX2_takeAway_14 : decode cX2_takeAway 14 = .ok (.if_icmp .ge 51, 3) := by decide +kernel
theorem dX2_takeAway_17 : decode cX2_takeAway 17 = .ok (.aload_n 0, 1) := by decide +kernel
theorem dX2_takeAway_18 : decode cX2_takeAway 18 = .ok (.getfield 31, 3) := by decide +kernel
theorem dX2_takeAway_21 : decode cX2_takeAway 21 = .ok (.iload_n 1, 1) := by decide +kernel
theorem dX2_takeAway_22 : decode cX2_takeAway 22 = .ok (.aload_n 0, 1) := by decide +kernel
theorem dX2_takeAway_23 : decode cX2_takeAway 23 = .ok (.getfield 65, 3) := by decide +kernel
theorem dX2_takeAway_26 : decode cX2_takeAway 26 = .ok (.imul, 1) := by decide +kernel
theorem dX2_takeAway_27 : decode cX2_takeAway 27 = .ok (.iload_n 2, 1) := by decide +kernel
theorem dX2_takeAway_28 : decode cX2_takeAway 28 = .ok (.iadd, 1) := by decide +kernel
theorem dX2_takeAway_29 : decode cX2_takeAway 29 = .ok (.laload, 1) := by decide +kernel
theorem dX2_takeAway_30 : decode cX2_takeAway 30 = .ok (.lstore_n 3, 1) := by decide +kernel
theorem dX2_takeAway_31 : decode cX2_takeAway 31 = .ok (.lload_n 3, 1) := by decide +kernel
theorem dX2_takeAway_32 : decode cX2_takeAway 32 = .ok (.lconst 0, 1) := by decide +kernel
theorem dX2_takeAway_33 : decode cX2_takeAway 33 = .ok (.lcmp, 1) := by decide +kernel
theorem dX2_takeAway_34 : decode cX2_takeAway 34 = .ok (.ifCond .eq 25, 3) := by decide +kernel
theorem dX2_takeAway_37 : decode cX2_takeAway 37 = .ok (.aload_n 0, 1) := by decide +kernel
theorem dX2_takeAway_38 : decode cX2_takeAway 38 = .ok (.iload_n 2, 1) := by decide +kernel
theorem dX2_takeAway_39 : decode cX2_takeAway 39 = .ok (.bipush 64, 2) := by decide +kernel
theorem dX2_takeAway_41 : decode cX2_takeAway 41 = .ok (.imul, 1) := by decide +kernel
theorem dX2_takeAway_42 : decode cX2_takeAway 42 = .ok (.lload_n 3, 1) := by decide +kernel
theorem dX2_takeAway_43 : decode cX2_takeAway 43 = .ok (.invokestatic 203, 3) := by decide +kernel
theorem dX2_takeAway_46 : decode cX2_takeAway 46 = .ok (.iadd, 1) := by decide +kernel
theorem dX2_takeAway_47 : decode cX2_takeAway 47 = .ok (.invokevirtual 234, 3) := by decide +kernel
theorem dX2_takeAway_50 : decode cX2_takeAway 50 = .ok (.lload_n 3, 1) := by decide +kernel
theorem dX2_takeAway_51 : decode cX2_takeAway 51 = .ok (.lload_n 3, 1) := by decide +kernel
theorem dX2_takeAway_52 : decode cX2_takeAway 52 = .ok (.lconst 1, 1) := by decide +kernel
theorem dX2_takeAway_53 : decode cX2_takeAway 53 = .ok (.lsub, 1) := by decide +kernel
theorem dX2_takeAway_54 : decode cX2_takeAway 54 = .ok (.land, 1) := by decide +kernel
theorem dX2_takeAway_55 : decode cX2_takeAway 55 = .ok (.lstore_n 3, 1) := by decide +kernel
theorem dX2_takeAway_56 : decode cX2_takeAway 56 = .ok (.goto (-25), 3) := by decide +kernel
theorem dX2_takeAway_59 : decode cX2_takeAway 59 = .ok (.iinc 2 1, 3) := by decide +kernel
theorem dX2_takeAway_62 : decode cX2_takeAway 62 = .ok (.goto (-53), 3) := by decide +kernel
theorem dX2_takeAway_65 : decode cX2_takeAway 65 = .ok (.aload_n 0, 1) := by decide +kernel
theorem dX2_takeAway_66 : decode cX2_takeAway 66 = .ok (.getfield 34, 3) := by decide +kernel
theorem dX2_takeAway_69 : decode cX2_takeAway 69 = .ok (.iload_n 1, 1) := by decide +kernel
theorem dX2_takeAway_70 : decode cX2_takeAway 70 = .ok (.iaload, 1) := by decide +kernel
theorem dX2_takeAway_71 : decode cX2_takeAway 71 = .ok (.ifCond .lt 13, 3) := by decide +kernel
theorem dX2_takeAway_74 : decode cX2_takeAway 74 = .ok (.aload_n 0, 1) := by decide +kernel
theorem dX2_takeAway_75 : decode cX2_takeAway 75 = .ok (.aload_n 0, 1) := by decide +kernel
theorem dX2_takeAway_76 : decode cX2_takeAway 76 = .ok (.getfield 34, 3) := by decide +kernel
theorem dX2_takeAway_79 : decode cX2_takeAway 79 = .ok (.iload_n 1, 1) := by decide +kernel
theorem dX2_takeAway_80 : decode cX2_takeAway 80 = .ok (.iaload, 1) := by decide +kernel
theorem dX2_takeAway_81 : decode cX2_takeAway 81 = .ok (.invokevirtual 234, 3) := by decide +kernel
theorem dX2_takeAway_84 : decode cX2_takeAway 84 = .ok (.iload_n 1, 1) := by decide +kernel
theorem dX2_takeAway_85 : decode cX2_takeAway 85 = .ok (.aload_n 0, 1) := by decide +kernel
theorem dX2_takeAway_86 : decode cX2_takeAway 86 = .ok (.getfield 58, 3) := by decide +kernel
theorem dX2_takeAway_89 : decode cX2_takeAway 89 = .ok (.if_icmp .ge 40, 3) := by decide +kernel
theorem dX2_takeAway_92 : decode cX2_takeAway 92 = .ok (.aload_n 0, 1) := by decide +kernel
theorem dX2_takeAway_93 : decode cX2_takeAway 93 = .ok (.getfield 58, 3) := by decide +kernel
theorem dX2_takeAway_96 : decode cX2_takeAway 96 = .ok (.istore_n 2, 1) := by decide +kernel
theorem dX2_takeAway_97 : decode cX2_takeAway 97 = .ok (.iload_n 2, 1) := by decide +kernel
theorem dX2_takeAway_98 : decode cX2_takeAway 98 = .ok (.aload_n 0, 1) := by decide +kernel
theorem dX2_takeAway_99 : decode cX2_takeAway 99 = .ok (.getfield 62, 3) := by decide +kernel
theorem dX2_takeAway_102 : decode cX2_takeAway 102 = .ok (.if_icmp .ge 27, 3) := by decide +kernel
theorem dX2_takeAway_105 : decode cX2_takeAway 105 = .ok (.aload_n 0, 1) := by decide +kernel
theorem dX2_takeAway_106 : decode cX2_takeAway 106 = .ok (.aload_n 0, 1) := by decide +kernel
theorem dX2_takeAway_107 : decode cX2_takeAway 107 = .ok (.getfield 31, 3) := by decide +kernel
theorem dX2_takeAway_110 : decode cX2_takeAway 110 = .ok (.iload_n 2, 1) := by decide +kernel
theorem dX2_takeAway_111 : decode cX2_takeAway 111 = .ok (.iload_n 1, 1) := by decide +kernel
theorem dX2_takeAway_112 : decode cX2_takeAway 112 = .ok (.invokevirtual 150, 3) := by decide +kernel
theorem dX2_takeAway_115 : decode cX2_takeAway 115 = .ok (.ifCond .eq 8, 3) := by decide +kernel
theorem dX2_takeAway_118 : decode cX2_takeAway 118 = .ok (.aload_n 0, 1) := by decide +kernel
theorem dX2_takeAway_119 : decode cX2_takeAway 119 = .ok (.iload_n 2, 1) := by decide +kernel
theorem dX2_takeAway_120 : decode cX2_takeAway 120 = .ok (.invokevirtual 234, 3) := by decide +kernel
theorem dX2_takeAway_123 : decode cX2_takeAway 123 = .ok (.iinc 2 1, 3) := by decide +kernel
theorem dX2_takeAway_126 : decode cX2_takeAway 126 = .ok (.goto (-29), 3) := by decide +kernel
theorem dX2_takeAway_129 : decode cX2_takeAway 129 = .ok (.return_, 1) := by decide +kernel
theorem qw813 : Cond.code yX2_weigh cX2_weigh 8 (Option.none : Option Jvm.ClassFile.FieldType) ∈ gw := mq_9 (i := 74) rfl rfl
theorem qw814 : Cond.methodLink RX2 212 yX2_weigh ∈ gw := mq_9 (i := 71) rfl rfl
theorem qw815 : Cond.instanceMethod yX2_weigh ∈ gw := mq_9 (i := 73) rfl rfl
theorem qw816 : Cond.selects RX2 yX2_weigh yX2_weigh ∈ gw := mk_s (i := 81) rfl rfl
theorem qw817 : Cond.code yX2_nextToTake cX2_nextToTake 4 (Option.some Jvm.ClassFile.FieldType.int) ∈ gw := mq_9 (i := 79) rfl rfl
theorem qw818 : Cond.methodLink RX2 215 yX2_nextToTake ∈ gw := mq_9 (i := 76) rfl rfl
theorem qw819 : Cond.instanceMethod yX2_nextToTake ∈ gw := mq_9 (i := 78) rfl rfl
theorem qw820 : Cond.selects RX2 yX2_nextToTake yX2_nextToTake ∈ gw := mk_s (i := 82) rfl rfl
theorem qw821 : Cond.code yX2_lowerLeft cX2_lowerLeft 2 (Option.none : Option Jvm.ClassFile.FieldType) ∈ gw := mq_9 (i := 87) rfl rfl
theorem qw822 : Cond.methodLink RX2 234 yX2_lowerLeft ∈ gw := mq_9 (i := 84) rfl rfl
theorem qw823 : Cond.instanceMethod yX2_lowerLeft ∈ gw := mq_9 (i := 86) rfl rfl
theorem qw824 : Cond.selects RX2 yX2_lowerLeft yX2_lowerLeft ∈ gw := mk_s (i := 83) rfl rfl
theorem qw825 : Cond.code yX2_takeAway cX2_takeAway 5 (Option.none : Option Jvm.ClassFile.FieldType) ∈ gw := mq_9 (i := 83) rfl rfl
theorem qw826 : Cond.methodLink RX2 219 yX2_takeAway ∈ gw := mq_9 (i := 80) rfl rfl
theorem qw827 : Cond.instanceMethod yX2_takeAway ∈ gw := mq_9 (i := 82) rfl rfl
theorem qw828 : Cond.selects RX2 yX2_takeAway yX2_takeAway ∈ gw := mk_s (i := 84) rfl rfl
theorem qw829 : Cond.code yX2_registerBit cX2_registerBit 2 (Option.some Jvm.ClassFile.FieldType.int) ∈ gw := mq_9 (i := 95) rfl rfl
theorem qw830 : Cond.methodLink RX2 237 yX2_registerBit ∈ gw := mq_9 (i := 92) rfl rfl
theorem qw831 : Cond.instanceMethod yX2_registerBit ∈ gw := mq_9 (i := 94) rfl rfl
theorem qw832 : Cond.selects RX2 yX2_registerBit yX2_registerBit ∈ gw := mk_s (i := 85) rfl rfl
theorem qw833 : Cond.code yX2_freeRegister cX2_freeRegister 7 (Option.some Jvm.ClassFile.FieldType.int) ∈ gw := mq_9 (i := 91) rfl rfl
theorem qw834 : Cond.methodLink RX2 222 yX2_freeRegister ∈ gw := mq_9 (i := 88) rfl rfl
theorem qw835 : Cond.instanceMethod yX2_freeRegister ∈ gw := mq_9 (i := 90) rfl rfl
theorem qw836 : Cond.selects RX2 yX2_freeRegister yX2_freeRegister ∈ gw := mk_s (i := 86) rfl rfl
theorem qw841 : Cond.code yX0_findSlot cX0_findSlot 3 (Option.none : Option Jvm.ClassFile.FieldType) ∈ gw := mq_9 (i := 104) rfl rfl
theorem qw842 : Cond.methodLink RX0 215 yX0_findSlot ∈ gw := mq_9 (i := 101) rfl rfl
theorem qw843 : Cond.instanceMethod yX0_findSlot ∈ gw := mq_9 (i := 103) rfl rfl
theorem qw844 : Cond.selects RX0 yX0_findSlot yX0_findSlot ∈ gw := mk_s (i := 87) rfl rfl
theorem qw845 : Cond.code yX0_fetch cX0_fetch 3 (Option.some Jvm.ClassFile.FieldType.int) ∈ gw := mq_9 (i := 112) rfl rfl
theorem qw846 : Cond.methodLink RX0 222 yX0_fetch ∈ gw := mq_9 (i := 109) rfl rfl
theorem qw847 : Cond.instanceMethod yX0_fetch ∈ gw := mq_9 (i := 111) rfl rfl
theorem qw848 : Cond.selects RX0 yX0_fetch yX0_fetch ∈ gw := mk_s (i := 88) rfl rfl
theorem qw849 : Cond.code yX0_putAwayIn cX0_putAwayIn 9 (Option.none : Option Jvm.ClassFile.FieldType) ∈ gw := mq_9 (i := 108) rfl rfl
theorem qw850 : Cond.methodLink RX0 218 yX0_putAwayIn ∈ gw := mq_9 (i := 105) rfl rfl
theorem qw851 : Cond.instanceMethod yX0_putAwayIn ∈ gw := mq_9 (i := 107) rfl rfl
theorem qw852 : Cond.selects RX0 yX0_putAwayIn yX0_putAwayIn ∈ gw := mk_s (i := 89) rfl rfl
def fX2_nextToTake_J102 (kk4 : Int32 → Int32 → Option (Sum Int32 Int32)) (v3_4 : Int32) (v2_102 : Int32) : Option (Sum Int32 Int32) := (kk4 v2_102 (v3_4 + 1))
def fX2_nextToTake_J100 (kk4 : Int32 → Int32 → Option (Sum Int32 Int32)) (v3_4 : Int32) : Option (Sum Int32 Int32) := (fX2_nextToTake_J102 kk4 v3_4 v3_4)
def fX2_nextToTake_J64 (kk4 : Int32 → Int32 → Option (Sum Int32 Int32)) (p0n : Nat → Nat) (p0w : ST) (p0l : SL) (v2_4 : Int32) (v3_4 : Int32) : Option (Sum Int32 Int32) := (if v2_4 < 0 then (fX2_nextToTake_J100 kk4 v3_4) else (if ixb v3_4 (p0n 14) = true then (if ixb v2_4 (p0n 18) = true then (if ixb v2_4 (p0n 14) = true then (if ixb v3_4 (p0n 18) = true then (if 0 ≤ (lg_cmp ((p0l 14 (nn v3_4)) * (((p0w 18 (nn v2_4)) : Int32).toInt64)) ((p0l 14 (nn v2_4)) * (((p0w 18 (nn v3_4)) : Int32).toInt64))) then (fX2_nextToTake_J102 kk4 v3_4 v2_4) else (fX2_nextToTake_J100 kk4 v3_4)) else none) else none) else none) else none))
def fX2_nextToTake_J34 (kk4 : Int32 → Int32 → Option (Sum Int32 Int32)) (p0n : Nat → Nat) (p0w : ST) (p0l : SL) (v2_4 : Int32) (v3_4 : Int32) : Option (Sum Int32 Int32) := (if ixb v3_4 (p0n 18) = true then (if (p0w 18 (nn v3_4)) = (-1) then (fX2_nextToTake_J102 kk4 v3_4 v2_4) else (if v3_4 < (p0w 0 0) then (fX2_nextToTake_J64 kk4 p0n p0w p0l v2_4 v3_4) else (if v2_4 < 0 then (fX2_nextToTake_J64 kk4 p0n p0w p0l v2_4 v3_4) else (if v2_4 < (p0w 0 0) then (fX2_nextToTake_J102 kk4 v3_4 v2_4) else (fX2_nextToTake_J64 kk4 p0n p0w p0l v2_4 v3_4))))) else none)
def fX2_nextToTake_L4 (p0n : Nat → Nat) (p0w : ST) (p0l : SL) (p1 : Int32) : Nat → Int32 → Int32 → Option (Sum Int32 Int32)
  | 0 => fun _ _ => none
  | n_4 + 1 => fun v2_4 v3_4 => (if (p0w 0 1) ≤ v3_4 then some (Sum.inr v2_4) else (if ixb v3_4 (p0n 18) = true then (if (p0w 18 (nn v3_4)) = (-1) then (fX2_nextToTake_J34 (fX2_nextToTake_L4 p0n p0w p0l p1 n_4) p0n p0w p0l v2_4 v3_4) else (if ixb v3_4 (p0n 18) = true then (if p1 ≤ (p0w 18 (nn v3_4)) then (fX2_nextToTake_J34 (fX2_nextToTake_L4 p0n p0w p0l p1 n_4) p0n p0w p0l v2_4 v3_4) else some (Sum.inl v3_4)) else none)) else none))
def fX2_nextToTake (p0n : Nat → Nat) (p0w : ST) (p0l : SL) (p1 : Int32) : Option Int32 := ((fX2_nextToTake_L4 p0n p0w p0l p1 NF (-1) 0).bind fun (o4 : (Sum Int32 Int32)) => Sum.elim (fun r => some r) (fun (t4 : Int32) => some t4) o4)
set_option maxHeartbeats 16000000 in
set_option maxRecDepth 100000 in
theorem kX2_nextToTake {zs : ZS} (l : Launch) (dC : Nat → ClassId) (dI : Nat → Nat → Nat) (p0a : Nat → Nat) (p0k : Nat → ClassId) (p0n : Nat → Nat) (p0w : ST) (p0l : SL) (p1 : Int32) (sz : Nat) (o : Int32) (hrun : fX2_nextToTake p0n p0w p0l p1 = some o) : Met l yX2_nextToTake (wz yX2_nextToTake cX2_nextToTake 4 (Option.some Jvm.ClassFile.FieldType.int)) ({ frames := 0, cells := 0, slots := 0, locals := 0 } : Room) (va_Pc [.ref (p0a 0), .int p1] (PRE zs dC dI (List.flatten ([(oX2 (p0a 0) p0a p0k p0n p0w p0l)] : List va_W)) (List.flatten ([(tX2 p0k)] : List (List (ClassId × FieldType)))) sz)) (va_Qi (fun (r : Int32) (_ : Unit) => r = o) (fun _ t => POST dC dI (List.flatten ([(oX2 (p0a 0) p0a p0k p0n p0w p0l)] : List va_W)) (List.flatten ([(tX2 p0k)] : List (List (ClassId × FieldType)))) (va_A (List.flatten ([(oX2 (p0a 0) p0a p0k p0n p0w p0l)] : List va_W)) sz) t) (va_A (List.flatten ([(oX2 (p0a 0) p0a p0k p0n p0w p0l)] : List va_W)) sz)) 0 0 (va_A (List.flatten ([(oX2 (p0a 0) p0a p0k p0n p0w p0l)] : List va_W)) sz) := by
  refine Met.ofW (cc := cX2_nextToTake) (maxL := 4) (ret := (Option.some Jvm.ClassFile.FieldType.int)) (by decide) rfl ?_
  intro p e s m args below meth c s₁ B hml hv
  obtain ⟨rfl, hsz, hP, hK, hD0, hE⟩ := hv
  have hx := B.exec
  have hb := B.bytes
  have hr := B.returns
  have hts0 := atoms_spec (ws := wz yX2_nextToTake cX2_nextToTake 4 (Option.some Jvm.ClassFile.FieldType.int)) B.pre
  have hts : ∀ w ∈ gw, w.before _ s = true := fun w h => hts0 w (List.mem_cons_of_mem _ h)
  have hown : s.vm.findClass RX2 = some m.cls := findClass_of_methodNamed B.named
  have hlocks := B.notSynchronized
  subst hsz
  have hD := hD0.self (sz := s.heap.size)
  refine gQ9 ?_
  intro Q hQ
  generalize hAe : va_A (List.flatten ([(oX2 (p0a 0) p0a p0k p0n p0w p0l)] : List va_W)) s.heap.size = A at hD hE hQ
  have hA : ∀ q : Nat, s.heap.size ≤ q → A q := fun q h => by rw [← hAe]; exact Or.inr h
  have hS : va_S A s.heap s.heap [] := va_S.rf
  have hP : va_P (dC, dI) cls (List.flatten ([(oX2 (p0a 0) p0a p0k p0n p0w p0l)] : List va_W)) s.heap := hP
  have hl := lv_entry ([.ref (p0a 0), .int p1]) (n := 4) (Nat.le_of_ble_eq_true rfl)
  rw [lg_entry_eq]
  generalize (lg_sl ([.ref (p0a 0), .int p1]) ++ List.replicate (4 - (lg_sl ([.ref (p0a 0), .int p1])).length) Slot.unset).toArray = ls at hl ⊢
  have hl : lv_has ls 4 [(0, .ref (p0a 0)), (1, .int p1)] := hl
  obtain ⟨H, hHe⟩ : ∃ H, H = s.heap := ⟨_, rfl⟩
  obtain ⟨locs, hle⟩ : ∃ locs : List Loc, locs = [] := ⟨_, rfl⟩
  rw [← hHe] at hP
  have hS : va_S A s.heap H locs := by rw [hHe, hle]; exact hS
  show W p l e ({ frames := 0, cells := 0, slots := 0, locals := 0 } : Room) s m ([.ref (p0a 0), .int p1] : List Value).toArray below meth c s.heap [] 0 0 Q (F0 m 0 ls [])
  rw [← hle]
  refine wH9 hHe ?_
  unfold fX2_nextToTake at hrun
  refine lv_iconst (v := (-1)) hx hb dX2_nextToTake_0 (by decide) ?_
  refine lv_istore_n (lv' := [(2, .int (-1)), (0, .ref (p0a 0)), (1, .int p1)]) hx hb dX2_nextToTake_1 rfl hl (by decide) rfl (fun ls hl => ?_)
  refine lv_iconst (v := 0) hx hb dX2_nextToTake_2 (by decide) ?_
  refine lv_istore_n (lv' := [(3, .int 0), (2, .int (-1)), (0, .ref (p0a 0)), (1, .int p1)]) hx hb dX2_nextToTake_3 rfl hl (by decide) rfl (fun ls hl => ?_)
  have L4 : ∀ (n_4 : Nat) (v2_4 : Int32) (v3_4 : Int32) (o4 : (Sum Int32 Int32)) (H : Heap) (locs : List Loc) (ls : Array Slot), (fX2_nextToTake_L4 p0n p0w p0l p1 n_4) v2_4 v3_4 = some o4 → va_P (dC, dI) cls (List.flatten ([(oX2 (p0a 0) p0a p0k p0n p0w p0l)] : List va_W)) H → va_D A (List.flatten ([(oX2 (p0a 0) p0a p0k p0n p0w p0l)] : List va_W)) → va_K (dC, dI) cls (List.flatten ([(tX2 p0k)] : List (List (ClassId × FieldType)))) s → va_S A s.heap H locs → lv_has ls 4 [(0, .ref (p0a 0)), (1, .int p1), (2, .int v2_4), (3, .int v3_4)] → (∀ r, o4 = Sum.inl r → r = o) → (∀ (t4 : Int32), o4 = Sum.inr t4 → ∀ (H : Heap) (locs : List Loc) (ls : Array Slot), va_P (dC, dI) cls (List.flatten ([(oX2 (p0a 0) p0a p0k p0n p0w p0l)] : List va_W)) H → va_D A (List.flatten ([(oX2 (p0a 0) p0a p0k p0n p0w p0l)] : List va_W)) → va_K (dC, dI) cls (List.flatten ([(tX2 p0k)] : List (List (ClassId × FieldType)))) s → va_S A s.heap H locs → lv_has ls 4 [(2, .int t4)] → W p l e ({ frames := 0, cells := 0, slots := 0, locals := 0 } : Room) s m ([.ref (p0a 0), .int p1] : List Value).toArray below meth c H locs 0 0 Q (F0 m 108 ls [])) → W p l e ({ frames := 0, cells := 0, slots := 0, locals := 0 } : Room) s m ([.ref (p0a 0), .int p1] : List Value).toArray below meth c H locs 0 0 Q (F0 m 4 ls []) := by
    intro n_4
    induction n_4 with
    | zero => intro v2_4 v3_4 o4 H locs ls hrun; exact (no9 rfl hrun).elim
    | succ n_4 IH4 =>
      intro v2_4 v3_4 o4 H locs ls hrun hP hD hK hS hl hr4 hk4
      unfold fX2_nextToTake_L4 at hrun
      refine lv_iload_n hx hb dX2_nextToTake_4 rfl (lv_at hl 3 rfl) ?_
      refine lv_aload_n hx hb dX2_nextToTake_5 rfl (lv_at hl 0 rfl) ?_
      refine va_get (D := (dC, dI)) (ci := 9) (v := .int (p0w 0 1)) (C := RX2) (T := TX2) (N := 19) hx hb hts i_X2 hown hK hP 0 rfl rfl 1 (by decide) (hts _ qw668) (fun _ h9 => h9) rfl dX2_nextToTake_6 ?_
      rcases br9 hrun with ⟨hc1, hrun⟩ | ⟨hc1, hrun⟩
      · refine lv_icmp_ge (tgt := 108) hx hb dX2_nextToTake_9 (by decide) (fun _ => ?_) (fun c => absurd hc1 c)
        obtain rfl := (Option.some.inj hrun)
        exact hk4 _ rfl _ _ _ hP hD hK hS (lv_sub hl [2] rfl)
      · refine lv_icmp_ge (tgt := 108) hx hb dX2_nextToTake_9 (by decide) (fun c => absurd c hc1) (fun _ => ?_)
        refine lv_aload_n hx hb dX2_nextToTake_12 rfl (lv_at hl 0 rfl) ?_
        refine va_get (D := (dC, dI)) (ci := 9) (v := .ref (p0a 18)) (C := RX2) (T := TX2) (N := 19) hx hb hts i_X2 hown hK hP 0 rfl rfl 17 (by decide) (hts _ qw688) (fun _ h9 => h9) rfl dX2_nextToTake_13 ?_
        refine lv_iload_n hx hb dX2_nextToTake_16 rfl (lv_at hl 3 rfl) ?_
        obtain ⟨hq2, hrun⟩ := chk9 hrun
        refine va_iald hx hb hK hP 14 13 rfl rfl (ixb_in hq2) dX2_nextToTake_17 ?_
        refine lv_iconst (v := (-1)) hx hb dX2_nextToTake_18 (by decide) ?_
        have J34 : ∀ (H : Heap) (locs : List Loc) (ls : Array Slot), (fX2_nextToTake_J34 (fX2_nextToTake_L4 p0n p0w p0l p1 n_4) p0n p0w p0l v2_4 v3_4) = some o4 → va_P (dC, dI) cls (List.flatten ([(oX2 (p0a 0) p0a p0k p0n p0w p0l)] : List va_W)) H → va_D A (List.flatten ([(oX2 (p0a 0) p0a p0k p0n p0w p0l)] : List va_W)) → va_K (dC, dI) cls (List.flatten ([(tX2 p0k)] : List (List (ClassId × FieldType)))) s → va_S A s.heap H locs → lv_has ls 4 [(0, .ref (p0a 0)), (1, .int p1), (2, .int v2_4), (3, .int v3_4)] → W p l e ({ frames := 0, cells := 0, slots := 0, locals := 0 } : Room) s m ([.ref (p0a 0), .int p1] : List Value).toArray below meth c H locs 0 0 Q (F0 m 34 ls []) := by
          intro  H locs ls hrun hP hD hK hS hl 
          unfold fX2_nextToTake_J34 at hrun
          refine lv_aload_n hx hb dX2_nextToTake_34 rfl (lv_at hl 0 rfl) ?_
          refine va_get (D := (dC, dI)) (ci := 9) (v := .ref (p0a 18)) (C := RX2) (T := TX2) (N := 19) hx hb hts i_X2 hown hK hP 0 rfl rfl 17 (by decide) (hts _ qw688) (fun _ h9 => h9) rfl dX2_nextToTake_35 ?_
          refine lv_iload_n hx hb dX2_nextToTake_38 rfl (lv_at hl 3 rfl) ?_
          obtain ⟨hq3, hrun⟩ := chk9 hrun
          refine va_iald hx hb hK hP 14 13 rfl rfl (ixb_in hq3) dX2_nextToTake_39 ?_
          refine lv_iconst (v := (-1)) hx hb dX2_nextToTake_40 (by decide) ?_
          have J102 : ∀ (v2_102 : Int32) (H : Heap) (locs : List Loc) (ls : Array Slot), (fX2_nextToTake_J102 (fX2_nextToTake_L4 p0n p0w p0l p1 n_4) v3_4 v2_102) = some o4 → va_P (dC, dI) cls (List.flatten ([(oX2 (p0a 0) p0a p0k p0n p0w p0l)] : List va_W)) H → va_D A (List.flatten ([(oX2 (p0a 0) p0a p0k p0n p0w p0l)] : List va_W)) → va_K (dC, dI) cls (List.flatten ([(tX2 p0k)] : List (List (ClassId × FieldType)))) s → va_S A s.heap H locs → lv_has ls 4 [(0, .ref (p0a 0)), (1, .int p1), (2, .int v2_102), (3, .int v3_4)] → W p l e ({ frames := 0, cells := 0, slots := 0, locals := 0 } : Room) s m ([.ref (p0a 0), .int p1] : List Value).toArray below meth c H locs 0 0 Q (F0 m 102 ls []) := by
            intro v2_102 H locs ls hrun hP hD hK hS hl 
            unfold fX2_nextToTake_J102 at hrun
            refine lv_iinc (v := (v3_4 + 1)) (lv' := [(3, .int (v3_4 + 1)), (0, .ref (p0a 0)), (1, .int p1), (2, .int v2_102)]) hx hb dX2_nextToTake_102 hl (k := 3) rfl rfl (by decide) rfl (fun ls hl => ?_)
            refine lv_goto (tgt := 4) hx hb dX2_nextToTake_105 (by decide) ?_
            exact IH4 v2_102 (v3_4 + 1) o4 _ _ _ hrun hP hD hK hS (lv_sub hl [1, 2, 3, 0] rfl) hr4 hk4
          rcases br9 hrun with ⟨hc4, hrun⟩ | ⟨hc4, hrun⟩
          · refine lv_icmp_eq (tgt := 102) hx hb dX2_nextToTake_41 (by decide) (fun _ => ?_) (fun c => absurd hc4 c)
            exact J102 v2_4 _ _ _ hrun hP hD hK hS (lv_sub hl [0, 1, 2, 3] rfl)
          · refine lv_icmp_eq (tgt := 102) hx hb dX2_nextToTake_41 (by decide) (fun c => absurd c hc4) (fun _ => ?_)
            refine lv_iload_n hx hb dX2_nextToTake_44 rfl (lv_at hl 3 rfl) ?_
            refine lv_aload_n hx hb dX2_nextToTake_45 rfl (lv_at hl 0 rfl) ?_
            refine va_get (D := (dC, dI)) (ci := 9) (v := .int (p0w 0 0)) (C := RX2) (T := TX2) (N := 19) hx hb hts i_X2 hown hK hP 0 rfl rfl 0 (by decide) (hts _ qw667) (fun _ h9 => h9) rfl dX2_nextToTake_46 ?_
            have J64 : ∀ (H : Heap) (locs : List Loc) (ls : Array Slot), (fX2_nextToTake_J64 (fX2_nextToTake_L4 p0n p0w p0l p1 n_4) p0n p0w p0l v2_4 v3_4) = some o4 → va_P (dC, dI) cls (List.flatten ([(oX2 (p0a 0) p0a p0k p0n p0w p0l)] : List va_W)) H → va_D A (List.flatten ([(oX2 (p0a 0) p0a p0k p0n p0w p0l)] : List va_W)) → va_K (dC, dI) cls (List.flatten ([(tX2 p0k)] : List (List (ClassId × FieldType)))) s → va_S A s.heap H locs → lv_has ls 4 [(0, .ref (p0a 0)), (1, .int p1), (2, .int v2_4), (3, .int v3_4)] → W p l e ({ frames := 0, cells := 0, slots := 0, locals := 0 } : Room) s m ([.ref (p0a 0), .int p1] : List Value).toArray below meth c H locs 0 0 Q (F0 m 64 ls []) := by
              intro  H locs ls hrun hP hD hK hS hl 
              unfold fX2_nextToTake_J64 at hrun
              refine lv_iload_n hx hb dX2_nextToTake_64 rfl (lv_at hl 2 rfl) ?_
              have J100 : ∀ (H : Heap) (locs : List Loc) (ls : Array Slot), (fX2_nextToTake_J100 (fX2_nextToTake_L4 p0n p0w p0l p1 n_4) v3_4) = some o4 → va_P (dC, dI) cls (List.flatten ([(oX2 (p0a 0) p0a p0k p0n p0w p0l)] : List va_W)) H → va_D A (List.flatten ([(oX2 (p0a 0) p0a p0k p0n p0w p0l)] : List va_W)) → va_K (dC, dI) cls (List.flatten ([(tX2 p0k)] : List (List (ClassId × FieldType)))) s → va_S A s.heap H locs → lv_has ls 4 [(0, .ref (p0a 0)), (1, .int p1), (3, .int v3_4)] → W p l e ({ frames := 0, cells := 0, slots := 0, locals := 0 } : Room) s m ([.ref (p0a 0), .int p1] : List Value).toArray below meth c H locs 0 0 Q (F0 m 100 ls []) := by
                intro  H locs ls hrun hP hD hK hS hl 
                unfold fX2_nextToTake_J100 at hrun
                refine lv_iload_n hx hb dX2_nextToTake_100 rfl (lv_at hl 2 rfl) ?_
                refine lv_istore_n (lv' := [(2, .int v3_4), (0, .ref (p0a 0)), (1, .int p1), (3, .int v3_4)]) hx hb dX2_nextToTake_101 rfl hl (by decide) rfl (fun ls hl => ?_)
                exact J102 v3_4 _ _ _ hrun hP hD hK hS (lv_sub hl [1, 2, 0, 3] rfl)
              rcases br9 hrun with ⟨hc5, hrun⟩ | ⟨hc5, hrun⟩
              · refine lv_if_lt (tgt := 100) hx hb dX2_nextToTake_65 (by decide) (fun _ => ?_) (fun c => absurd hc5 c)
                exact J100 _ _ _ hrun hP hD hK hS (lv_sub hl [0, 1, 3] rfl)
              · refine lv_if_lt (tgt := 100) hx hb dX2_nextToTake_65 (by decide) (fun c => absurd c hc5) (fun _ => ?_)
                refine lv_aload_n hx hb dX2_nextToTake_68 rfl (lv_at hl 0 rfl) ?_
                refine va_get (D := (dC, dI)) (ci := 9) (v := .ref (p0a 14)) (C := RX2) (T := TX2) (N := 19) hx hb hts i_X2 hown hK hP 0 rfl rfl 13 (by decide) (hts _ qw684) (fun _ h9 => h9) rfl dX2_nextToTake_69 ?_
                refine lv_iload_n hx hb dX2_nextToTake_72 rfl (lv_at hl 3 rfl) ?_
                obtain ⟨hq6, hrun⟩ := chk9 hrun
                refine va_lald hx hb hK hP 10 9 rfl rfl (ixb_in hq6) dX2_nextToTake_73 ?_
                refine lv_aload_n hx hb dX2_nextToTake_74 rfl (lv_at hl 0 rfl) ?_
                refine va_get (D := (dC, dI)) (ci := 9) (v := .ref (p0a 18)) (C := RX2) (T := TX2) (N := 19) hx hb hts i_X2 hown hK hP 0 rfl rfl 17 (by decide) (hts _ qw688) (fun _ h9 => h9) rfl dX2_nextToTake_75 ?_
                refine lv_iload_n hx hb dX2_nextToTake_78 rfl (lv_at hl 2 rfl) ?_
                obtain ⟨hq7, hrun⟩ := chk9 hrun
                refine va_iald hx hb hK hP 14 13 rfl rfl (ixb_in hq7) dX2_nextToTake_79 ?_
                refine lv_i2l (v := (((p0w 18 (nn v2_4)) : Int32).toInt64)) hx hb dX2_nextToTake_80 rfl ?_
                refine lv_lmul hx hb dX2_nextToTake_81 ?_
                refine lv_aload_n hx hb dX2_nextToTake_82 rfl (lv_at hl 0 rfl) ?_
                refine va_get (D := (dC, dI)) (ci := 9) (v := .ref (p0a 14)) (C := RX2) (T := TX2) (N := 19) hx hb hts i_X2 hown hK hP 0 rfl rfl 13 (by decide) (hts _ qw684) (fun _ h9 => h9) rfl dX2_nextToTake_83 ?_
                refine lv_iload_n hx hb dX2_nextToTake_86 rfl (lv_at hl 2 rfl) ?_
                obtain ⟨hq8, hrun⟩ := chk9 hrun
                refine va_lald hx hb hK hP 10 9 rfl rfl (ixb_in hq8) dX2_nextToTake_87 ?_
                refine lv_aload_n hx hb dX2_nextToTake_88 rfl (lv_at hl 0 rfl) ?_
                refine va_get (D := (dC, dI)) (ci := 9) (v := .ref (p0a 18)) (C := RX2) (T := TX2) (N := 19) hx hb hts i_X2 hown hK hP 0 rfl rfl 17 (by decide) (hts _ qw688) (fun _ h9 => h9) rfl dX2_nextToTake_89 ?_
                refine lv_iload_n hx hb dX2_nextToTake_92 rfl (lv_at hl 3 rfl) ?_
                obtain ⟨hq9, hrun⟩ := chk9 hrun
                refine va_iald hx hb hK hP 14 13 rfl rfl (ixb_in hq9) dX2_nextToTake_93 ?_
                refine lv_i2l (v := (((p0w 18 (nn v3_4)) : Int32).toInt64)) hx hb dX2_nextToTake_94 rfl ?_
                refine lv_lmul hx hb dX2_nextToTake_95 ?_
                refine W.lcmp hx hb dX2_nextToTake_96 ?_
                rcases br9 hrun with ⟨hc10, hrun⟩ | ⟨hc10, hrun⟩
                · refine lv_if_ge (tgt := 102) hx hb dX2_nextToTake_97 (by decide) (fun _ => ?_) (fun c => absurd hc10 c)
                  exact J102 v2_4 _ _ _ hrun hP hD hK hS (lv_sub hl [0, 1, 2, 3] rfl)
                · refine lv_if_ge (tgt := 102) hx hb dX2_nextToTake_97 (by decide) (fun c => absurd c hc10) (fun _ => ?_)
                  exact J100 _ _ _ hrun hP hD hK hS (lv_sub hl [0, 1, 3] rfl)
            rcases br9 hrun with ⟨hc11, hrun⟩ | ⟨hc11, hrun⟩
            · refine lv_icmp_lt (tgt := 64) hx hb dX2_nextToTake_49 (by decide) (fun _ => ?_) (fun c => absurd hc11 c)
              exact J64 _ _ _ hrun hP hD hK hS (lv_sub hl [0, 1, 2, 3] rfl)
            · refine lv_icmp_lt (tgt := 64) hx hb dX2_nextToTake_49 (by decide) (fun c => absurd c hc11) (fun _ => ?_)
              refine lv_iload_n hx hb dX2_nextToTake_52 rfl (lv_at hl 2 rfl) ?_
              rcases br9 hrun with ⟨hc12, hrun⟩ | ⟨hc12, hrun⟩
              · refine lv_if_lt (tgt := 64) hx hb dX2_nextToTake_53 (by decide) (fun _ => ?_) (fun c => absurd hc12 c)
                exact J64 _ _ _ hrun hP hD hK hS (lv_sub hl [0, 1, 2, 3] rfl)
              · refine lv_if_lt (tgt := 64) hx hb dX2_nextToTake_53 (by decide) (fun c => absurd c hc12) (fun _ => ?_)
                refine lv_iload_n hx hb dX2_nextToTake_56 rfl (lv_at hl 2 rfl) ?_
                refine lv_aload_n hx hb dX2_nextToTake_57 rfl (lv_at hl 0 rfl) ?_
                refine va_get (D := (dC, dI)) (ci := 9) (v := .int (p0w 0 0)) (C := RX2) (T := TX2) (N := 19) hx hb hts i_X2 hown hK hP 0 rfl rfl 0 (by decide) (hts _ qw667) (fun _ h9 => h9) rfl dX2_nextToTake_58 ?_
                rcases br9 hrun with ⟨hc13, hrun⟩ | ⟨hc13, hrun⟩
                · refine lv_icmp_lt (tgt := 102) hx hb dX2_nextToTake_61 (by decide) (fun _ => ?_) (fun c => absurd hc13 c)
                  exact J102 v2_4 _ _ _ hrun hP hD hK hS (lv_sub hl [0, 1, 2, 3] rfl)
                · refine lv_icmp_lt (tgt := 102) hx hb dX2_nextToTake_61 (by decide) (fun c => absurd c hc13) (fun _ => ?_)
                  exact J64 _ _ _ hrun hP hD hK hS (lv_sub hl [0, 1, 2, 3] rfl)
        rcases br9 hrun with ⟨hc14, hrun⟩ | ⟨hc14, hrun⟩
        · refine lv_icmp_eq (tgt := 34) hx hb dX2_nextToTake_19 (by decide) (fun _ => ?_) (fun c => absurd hc14 c)
          exact J34 _ _ _ hrun hP hD hK hS (lv_sub hl [0, 1, 2, 3] rfl)
        · refine lv_icmp_eq (tgt := 34) hx hb dX2_nextToTake_19 (by decide) (fun c => absurd c hc14) (fun _ => ?_)
          refine lv_aload_n hx hb dX2_nextToTake_22 rfl (lv_at hl 0 rfl) ?_
          refine va_get (D := (dC, dI)) (ci := 9) (v := .ref (p0a 18)) (C := RX2) (T := TX2) (N := 19) hx hb hts i_X2 hown hK hP 0 rfl rfl 17 (by decide) (hts _ qw688) (fun _ h9 => h9) rfl dX2_nextToTake_23 ?_
          refine lv_iload_n hx hb dX2_nextToTake_26 rfl (lv_at hl 3 rfl) ?_
          obtain ⟨hq15, hrun⟩ := chk9 hrun
          refine va_iald hx hb hK hP 14 13 rfl rfl (ixb_in hq15) dX2_nextToTake_27 ?_
          refine lv_iload_n hx hb dX2_nextToTake_28 rfl (lv_at hl 1 rfl) ?_
          rcases br9 hrun with ⟨hc16, hrun⟩ | ⟨hc16, hrun⟩
          · refine lv_icmp_ge (tgt := 34) hx hb dX2_nextToTake_29 (by decide) (fun _ => ?_) (fun c => absurd hc16 c)
            exact J34 _ _ _ hrun hP hD hK hS (lv_sub hl [0, 1, 2, 3] rfl)
          · refine lv_icmp_ge (tgt := 34) hx hb dX2_nextToTake_29 (by decide) (fun c => absurd c hc16) (fun _ => ?_)
            refine lv_iload_n hx hb dX2_nextToTake_32 rfl (lv_at hl 3 rfl) ?_
            have ho9 : v3_4 = o := hr4 _ (Option.some.inj hrun).symm
            have hP9 : va_P (dC, dI) cls (List.flatten ([(oX2 (p0a 0) p0a p0k p0n p0w p0l)] : List va_W)) H := by first | exact hP | (rw [← ho9]; exact hP)
            have hD9 : va_D A (List.flatten ([(oX2 (p0a 0) p0a p0k p0n p0w p0l)] : List va_W)) := by first | exact hD | (rw [← ho9]; exact hD)
            subst hQ
            exact W.iret (v := v3_4) hx hb hr (fun t ht hW => ⟨⟨v3_4, (), rfl, (by rw [← ho9]), ⟨by rw [ht]; exact hP9, va_K.moved hW.alike hK, hD9⟩⟩, hS.F ht⟩) hS.2.2 dX2_nextToTake_33
  obtain ⟨o4, hc4, hrun⟩ := bnd9 hrun
  refine L4 NF (-1) 0 o4 _ _ _ hc4 hP hD hK hS (lv_sub hl [2, 3, 1, 0] rfl) (fun r e9 => by subst e9; exact Option.some.inj hrun) ?_
  intro t4 e9
  subst e9
  replace hrun := el9 hrun
  intro H locs ls hP hD hK hS hl
  have hl := hl
  refine lv_iload_n hx hb dX2_nextToTake_108 rfl (lv_at hl 0 rfl) ?_
  have ho9 : t4 = o := Option.some.inj hrun
  have hP9 : va_P (dC, dI) cls (List.flatten ([(oX2 (p0a 0) p0a p0k p0n p0w p0l)] : List va_W)) H := by first | exact hP | (rw [← ho9]; exact hP)
  have hD9 : va_D A (List.flatten ([(oX2 (p0a 0) p0a p0k p0n p0w p0l)] : List va_W)) := by first | exact hD | (rw [← ho9]; exact hD)
  subst hQ
  exact W.iret (v := t4) hx hb hr (fun t ht hW => ⟨⟨t4, (), rfl, (by rw [← ho9]), ⟨by rw [ht]; exact hP9, va_K.moved hW.alike hK, hD9⟩⟩, hS.F ht⟩) hS.2.2 dX2_nextToTake_109
def fX2_lowerLeft_J20 (p0w_20 : ST) : Option ST := some p0w_20
def fX2_lowerLeft (p0n : Nat → Nat) (p0w : ST) (p1 : Int32) : Option ST := (if ixb p1 (p0n 18) = true then (if (p0w 18 (nn p1)) = (-1) then (fX2_lowerLeft_J20 p0w) else (if ixb p1 (p0n 18) = true then (if ixb p1 (p0n 18) = true then (lt9 (upw p0w 18 (nn p1) ((p0w 18 (nn p1)) - 1)) fun (w5 : ST) => (fX2_lowerLeft_J20 w5)) else none) else none)) else none)
set_option maxHeartbeats 16000000 in
set_option maxRecDepth 100000 in
theorem kX2_lowerLeft {zs : ZS} (l : Launch) (dC : Nat → ClassId) (dI : Nat → Nat → Nat) (p0a : Nat → Nat) (p0k : Nat → ClassId) (p0n : Nat → Nat) (p0w : ST) (p0l : SL) (p1 : Int32) (sz : Nat) (o : ST) (hrun : fX2_lowerLeft p0n p0w p1 = some o) : Met l yX2_lowerLeft (wz yX2_lowerLeft cX2_lowerLeft 2 (Option.none : Option Jvm.ClassFile.FieldType)) ({ frames := 0, cells := 0, slots := 0, locals := 0 } : Room) (va_Pc [.ref (p0a 0), .int p1] (PRE zs dC dI (List.flatten ([(oX2 (p0a 0) p0a p0k p0n p0w p0l)] : List va_W)) (List.flatten ([(tX2 p0k)] : List (List (ClassId × FieldType)))) sz)) (va_Qv (fun (_ : Unit) => True) (fun _ t => POST dC dI (List.flatten ([(oX2 (p0a 0) p0a p0k p0n o p0l)] : List va_W)) (List.flatten ([(tX2 p0k)] : List (List (ClassId × FieldType)))) (va_A (List.flatten ([(oX2 (p0a 0) p0a p0k p0n p0w p0l)] : List va_W)) sz) t) (va_A (List.flatten ([(oX2 (p0a 0) p0a p0k p0n p0w p0l)] : List va_W)) sz)) 0 0 (va_A (List.flatten ([(oX2 (p0a 0) p0a p0k p0n p0w p0l)] : List va_W)) sz) := by
  refine Met.ofW (cc := cX2_lowerLeft) (maxL := 2) (ret := (Option.none : Option Jvm.ClassFile.FieldType)) (by decide) rfl ?_
  intro p e s m args below meth c s₁ B hml hv
  obtain ⟨rfl, hsz, hP, hK, hD0, hE⟩ := hv
  have hx := B.exec
  have hb := B.bytes
  have hr := B.returns
  have hts0 := atoms_spec (ws := wz yX2_lowerLeft cX2_lowerLeft 2 (Option.none : Option Jvm.ClassFile.FieldType)) B.pre
  have hts : ∀ w ∈ gw, w.before _ s = true := fun w h => hts0 w (List.mem_cons_of_mem _ h)
  have hown : s.vm.findClass RX2 = some m.cls := findClass_of_methodNamed B.named
  have hlocks := B.notSynchronized
  subst hsz
  have hD := hD0.self (sz := s.heap.size)
  refine gQ9 ?_
  intro Q hQ
  generalize hAe : va_A (List.flatten ([(oX2 (p0a 0) p0a p0k p0n p0w p0l)] : List va_W)) s.heap.size = A at hD hE hQ
  have hA : ∀ q : Nat, s.heap.size ≤ q → A q := fun q h => by rw [← hAe]; exact Or.inr h
  have hS : va_S A s.heap s.heap [] := va_S.rf
  have hP : va_P (dC, dI) cls (List.flatten ([(oX2 (p0a 0) p0a p0k p0n p0w p0l)] : List va_W)) s.heap := hP
  have hl := lv_entry ([.ref (p0a 0), .int p1]) (n := 2) (Nat.le_of_ble_eq_true rfl)
  rw [lg_entry_eq]
  generalize (lg_sl ([.ref (p0a 0), .int p1]) ++ List.replicate (2 - (lg_sl ([.ref (p0a 0), .int p1])).length) Slot.unset).toArray = ls at hl ⊢
  have hl : lv_has ls 2 [(0, .ref (p0a 0)), (1, .int p1)] := hl
  obtain ⟨H, hHe⟩ : ∃ H, H = s.heap := ⟨_, rfl⟩
  obtain ⟨locs, hle⟩ : ∃ locs : List Loc, locs = [] := ⟨_, rfl⟩
  rw [← hHe] at hP
  have hS : va_S A s.heap H locs := by rw [hHe, hle]; exact hS
  show W p l e ({ frames := 0, cells := 0, slots := 0, locals := 0 } : Room) s m ([.ref (p0a 0), .int p1] : List Value).toArray below meth c s.heap [] 0 0 Q (F0 m 0 ls [])
  rw [← hle]
  refine wH9 hHe ?_
  unfold fX2_lowerLeft at hrun
  refine lv_aload_n hx hb dX2_lowerLeft_0 rfl (lv_at hl 0 rfl) ?_
  refine va_get (D := (dC, dI)) (ci := 9) (v := .ref (p0a 18)) (C := RX2) (T := TX2) (N := 19) hx hb hts i_X2 hown hK hP 0 rfl rfl 17 (by decide) (hts _ qw688) (fun _ h9 => h9) rfl dX2_lowerLeft_1 ?_
  refine lv_iload_n hx hb dX2_lowerLeft_4 rfl (lv_at hl 1 rfl) ?_
  obtain ⟨hq1, hrun⟩ := chk9 hrun
  refine va_iald hx hb hK hP 14 13 rfl rfl (ixb_in hq1) dX2_lowerLeft_5 ?_
  refine lv_iconst (v := (-1)) hx hb dX2_lowerLeft_6 (by decide) ?_
  have J20 : ∀ (p0w_20 : ST) (H : Heap) (locs : List Loc) (ls : Array Slot), (fX2_lowerLeft_J20 p0w_20) = some o → va_P (dC, dI) cls (List.flatten ([(oX2 (p0a 0) p0a p0k p0n p0w_20 p0l)] : List va_W)) H → va_D A (List.flatten ([(oX2 (p0a 0) p0a p0k p0n p0w_20 p0l)] : List va_W)) → va_K (dC, dI) cls (List.flatten ([(tX2 p0k)] : List (List (ClassId × FieldType)))) s → va_S A s.heap H locs → lv_has ls 2 [] → W p l e ({ frames := 0, cells := 0, slots := 0, locals := 0 } : Room) s m ([.ref (p0a 0), .int p1] : List Value).toArray below meth c H locs 0 0 Q (F0 m 20 ls []) := by
    intro p0w_20 H locs ls hrun hP hD hK hS hl 
    unfold fX2_lowerLeft_J20 at hrun
    have ho9 : p0w_20 = o := Option.some.inj hrun
    have hP9 : va_P (dC, dI) cls (List.flatten ([(oX2 (p0a 0) p0a p0k p0n o p0l)] : List va_W)) H := by first | exact hP | (rw [← ho9]; exact hP)
    have hD9 : va_D A (List.flatten ([(oX2 (p0a 0) p0a p0k p0n o p0l)] : List va_W)) := by first | exact hD | (rw [← ho9]; exact hD)
    subst hQ
    exact W.vret hx hb hr (fun t ht hW => ⟨⟨(), rfl, trivial, ⟨by rw [ht]; exact hP9, va_K.moved hW.alike hK, hD9⟩⟩, hS.F ht⟩) hS.2.2 dX2_lowerLeft_20
  rcases br9 hrun with ⟨hc2, hrun⟩ | ⟨hc2, hrun⟩
  · refine lv_icmp_eq (tgt := 20) hx hb dX2_lowerLeft_7 (by decide) (fun _ => ?_) (fun c => absurd hc2 c)
    exact J20 p0w _ _ _ hrun hP hD hK hS (lv_sub hl [] rfl)
  · refine lv_icmp_eq (tgt := 20) hx hb dX2_lowerLeft_7 (by decide) (fun c => absurd c hc2) (fun _ => ?_)
    refine lv_aload_n hx hb dX2_lowerLeft_10 rfl (lv_at hl 0 rfl) ?_
    refine va_get (D := (dC, dI)) (ci := 9) (v := .ref (p0a 18)) (C := RX2) (T := TX2) (N := 19) hx hb hts i_X2 hown hK hP 0 rfl rfl 17 (by decide) (hts _ qw688) (fun _ h9 => h9) rfl dX2_lowerLeft_11 ?_
    refine lv_iload_n hx hb dX2_lowerLeft_14 rfl (lv_at hl 1 rfl) ?_
    refine lv_dup2_11 hx hb dX2_lowerLeft_15 rfl rfl ?_
    obtain ⟨hq3, hrun⟩ := chk9 hrun
    refine va_iald hx hb hK hP 14 13 rfl rfl (ixb_in hq3) dX2_lowerLeft_16 ?_
    refine lv_iconst (v := 1) hx hb dX2_lowerLeft_17 (by decide) ?_
    refine lv_isub hx hb dX2_lowerLeft_18 ?_
    obtain ⟨hq4, hrun⟩ := chk9 hrun
    refine va_iast hx hb hK hP hD hS 14 13 rfl rfl (ixb_in hq4) dX2_lowerLeft_19 (fun H locs hP hD hS => ?_)
    have hP : va_P (dC, dI) cls (List.flatten ([(oX2 (p0a 0) p0a p0k p0n (upw p0w 18 (nn p1) ((p0w 18 (nn p1)) - 1)) p0l)] : List va_W)) H := hP
    have hD : va_D A (List.flatten ([(oX2 (p0a 0) p0a p0k p0n (upw p0w 18 (nn p1) ((p0w 18 (nn p1)) - 1)) p0l)] : List va_W)) := hD
    obtain ⟨w5, ew5, hrun⟩ := let9 hrun
    rw [← ew5] at hP hD
    exact J20 w5 _ _ _ hrun hP hD hK hS (lv_sub hl [] rfl)
def fX2_takeAway_L31 (p0n : Nat → Nat) (v2_9 : Int32) : Nat → Int64 → ST → Option ST
  | 0 => fun _ _ => none
  | n_31 + 1 => fun v3_31 p0w_31 => (if (lg_cmp v3_31 (0 : Int64)) = 0 then some p0w_31 else ((fX11_lowest v3_31).bind fun (o_6 : Int32) => ((fX2_lowerLeft p0n p0w_31 ((v2_9 * 64) + o_6)).bind fun (o_8 : ST) => ((fX2_takeAway_L31 p0n v2_9 n_31) (v3_31 &&& (v3_31 - (1 : Int64))) o_8))))
def fX2_takeAway_L9 (p0n : Nat → Nat) (p0l : SL) (p1 : Int32) : Nat → Int32 → ST → Option ST
  | 0 => fun _ _ => none
  | n_9 + 1 => fun v2_9 p0w_9 => (if (p0w_9 0 2) ≤ v2_9 then some p0w_9 else (if ixb ((p1 * (p0w_9 0 2)) + v2_9) (p0n 11) = true then ((fX2_takeAway_L31 p0n v2_9 NF (p0l 11 (nn ((p1 * (p0w_9 0 2)) + v2_9))) p0w_9).bind fun (o31 : ST) => ((fX2_takeAway_L9 p0n p0l p1 n_9) (v2_9 + 1) o31)) else none))
def fX2_takeAway_J129 (p0w_129 : ST) : Option ST := some p0w_129
def fX2_takeAway_J123 (kk97 : Int32 → ST → Option ST) (v2_97 : Int32) (p0w_123 : ST) : Option ST := (kk97 (v2_97 + 1) p0w_123)
def fX2_takeAway_L97 (p0n : Nat → Nat) (p0l : SL) (p1 : Int32) : Nat → Int32 → ST → Option ST
  | 0 => fun _ _ => none
  | n_97 + 1 => fun v2_97 p0w_97 => (if (p0w_97 0 1) ≤ v2_97 then some p0w_97 else ((fX2_isIn_a1_p0_10 p0n p0w_97 p0l v2_97 p1).bind fun (o_12 : Int32) => (if o_12 = 0 then (fX2_takeAway_J123 (fX2_takeAway_L97 p0n p0l p1 n_97) v2_97 p0w_97) else ((fX2_lowerLeft p0n p0w_97 v2_97).bind fun (o_15 : ST) => (fX2_takeAway_J123 (fX2_takeAway_L97 p0n p0l p1 n_97) v2_97 o_15)))))
def fX2_takeAway_J84 (p0n : Nat → Nat) (p0l : SL) (p1 : Int32) (p0w_84 : ST) : Option ST := (if (p0w_84 0 0) ≤ p1 then (fX2_takeAway_J129 p0w_84) else ((fX2_takeAway_L97 p0n p0l p1 NF (p0w_84 0 0) p0w_84).bind fun (o97 : ST) => (fX2_takeAway_J129 o97)))
def fX2_takeAway (p0n : Nat → Nat) (p0w : ST) (p0l : SL) (p1 : Int32) : Option ST := (if ixb p1 (p0n 18) = true then (lt9 (upw p0w 18 (nn p1) (-1)) fun (w2 : ST) => ((fX2_takeAway_L9 p0n p0l p1 NF 0 w2).bind fun (o9 : ST) => (if ixb p1 (p0n 12) = true then (if (o9 12 (nn p1)) < 0 then (fX2_takeAway_J84 p0n p0l p1 o9) else (if ixb p1 (p0n 12) = true then ((fX2_lowerLeft p0n o9 (o9 12 (nn p1))).bind fun (o_18 : ST) => (fX2_takeAway_J84 p0n p0l p1 o_18)) else none)) else none))) else none)
set_option maxHeartbeats 16000000 in
set_option maxRecDepth 100000 in
theorem kX2_takeAway {zs : ZS} (l : Launch) (dC : Nat → ClassId) (dI : Nat → Nat → Nat) (p0a : Nat → Nat) (p0k : Nat → ClassId) (p0n : Nat → Nat) (p0w : ST) (p0l : SL) (p1 : Int32) (sz : Nat) (o : ST) (hrun : fX2_takeAway p0n p0w p0l p1 = some o) : Met l yX2_takeAway (wz yX2_takeAway cX2_takeAway 5 (Option.none : Option Jvm.ClassFile.FieldType)) ({ frames := 2, cells := 0, slots := 0, locals := 45 } : Room) (va_Pc [.ref (p0a 0), .int p1] (PRE zs dC dI (List.flatten ([(oX2 (p0a 0) p0a p0k p0n p0w p0l)] : List va_W)) (List.flatten ([(tX2 p0k)] : List (List (ClassId × FieldType)))) sz)) (va_Qv (fun (_ : Unit) => True) (fun _ t => POST dC dI (List.flatten ([(oX2 (p0a 0) p0a p0k p0n o p0l)] : List va_W)) (List.flatten ([(tX2 p0k)] : List (List (ClassId × FieldType)))) (va_A (List.flatten ([(oX2 (p0a 0) p0a p0k p0n p0w p0l)] : List va_W)) sz) t) (va_A (List.flatten ([(oX2 (p0a 0) p0a p0k p0n p0w p0l)] : List va_W)) sz)) 0 0 (va_A (List.flatten ([(oX2 (p0a 0) p0a p0k p0n p0w p0l)] : List va_W)) sz) := by
  refine Met.ofW (cc := cX2_takeAway) (maxL := 5) (ret := (Option.none : Option Jvm.ClassFile.FieldType)) (by decide) rfl ?_
  intro p e s m args below meth c s₁ B hml hv
  obtain ⟨rfl, hsz, hP, hK, hD0, hE⟩ := hv
  have hx := B.exec
  have hb := B.bytes
  have hr := B.returns
  have hts0 := atoms_spec (ws := wz yX2_takeAway cX2_takeAway 5 (Option.none : Option Jvm.ClassFile.FieldType)) B.pre
  have hts : ∀ w ∈ gw, w.before _ s = true := fun w h => hts0 w (List.mem_cons_of_mem _ h)
  have hown : s.vm.findClass RX2 = some m.cls := findClass_of_methodNamed B.named
  have hlocks := B.notSynchronized
  subst hsz
  have hD := hD0.self (sz := s.heap.size)
  refine gQ9 ?_
  intro Q hQ
  generalize hAe : va_A (List.flatten ([(oX2 (p0a 0) p0a p0k p0n p0w p0l)] : List va_W)) s.heap.size = A at hD hE hQ
  have hA : ∀ q : Nat, s.heap.size ≤ q → A q := fun q h => by rw [← hAe]; exact Or.inr h
  have hS : va_S A s.heap s.heap [] := va_S.rf
  have hP : va_P (dC, dI) cls (List.flatten ([(oX2 (p0a 0) p0a p0k p0n p0w p0l)] : List va_W)) s.heap := hP
  have hl := lv_entry ([.ref (p0a 0), .int p1]) (n := 5) (Nat.le_of_ble_eq_true rfl)
  rw [lg_entry_eq]
  generalize (lg_sl ([.ref (p0a 0), .int p1]) ++ List.replicate (5 - (lg_sl ([.ref (p0a 0), .int p1])).length) Slot.unset).toArray = ls at hl ⊢
  have hl : lv_has ls 5 [(0, .ref (p0a 0)), (1, .int p1)] := hl
  obtain ⟨H, hHe⟩ : ∃ H, H = s.heap := ⟨_, rfl⟩
  obtain ⟨locs, hle⟩ : ∃ locs : List Loc, locs = [] := ⟨_, rfl⟩
  rw [← hHe] at hP
  have hS : va_S A s.heap H locs := by rw [hHe, hle]; exact hS
  show W p l e ({ frames := 2, cells := 0, slots := 0, locals := 45 } : Room) s m ([.ref (p0a 0), .int p1] : List Value).toArray below meth c s.heap [] 0 0 Q (F0 m 0 ls [])
  rw [← hle]
  refine wH9 hHe ?_
  unfold fX2_takeAway at hrun
  refine lv_aload_n hx hb dX2_takeAway_0 rfl (lv_at hl 0 rfl) ?_
  refine va_get (D := (dC, dI)) (ci := 9) (v := .ref (p0a 18)) (C := RX2) (T := TX2) (N := 19) hx hb hts i_X2 hown hK hP 0 rfl rfl 17 (by decide) (hts _ qw688) (fun _ h9 => h9) rfl dX2_takeAway_1 ?_
  refine lv_iload_n hx hb dX2_takeAway_4 rfl (lv_at hl 1 rfl) ?_
  refine lv_iconst (v := (-1)) hx hb dX2_takeAway_5 (by decide) ?_
  obtain ⟨hq1, hrun⟩ := chk9 hrun
  refine va_iast hx hb hK hP hD hS 14 13 rfl rfl (ixb_in hq1) dX2_takeAway_6 (fun H locs hP hD hS => ?_)
  have hP : va_P (dC, dI) cls (List.flatten ([(oX2 (p0a 0) p0a p0k p0n (upw p0w 18 (nn p1) (-1)) p0l)] : List va_W)) H := hP
  have hD : va_D A (List.flatten ([(oX2 (p0a 0) p0a p0k p0n (upw p0w 18 (nn p1) (-1)) p0l)] : List va_W)) := hD
  obtain ⟨w2, ew2, hrun⟩ := let9 hrun
  rw [← ew2] at hP hD
  refine lv_iconst (v := 0) hx hb dX2_takeAway_7 (by decide) ?_
  refine lv_istore_n (lv' := [(2, .int 0), (0, .ref (p0a 0)), (1, .int p1)]) hx hb dX2_takeAway_8 rfl hl (by decide) rfl (fun ls hl => ?_)
  have L9 : ∀ (n_9 : Nat) (v2_9 : Int32) (p0w_9 : ST) (o9 : ST) (H : Heap) (locs : List Loc) (ls : Array Slot), (fX2_takeAway_L9 p0n p0l p1 n_9) v2_9 p0w_9 = some o9 → va_P (dC, dI) cls (List.flatten ([(oX2 (p0a 0) p0a p0k p0n p0w_9 p0l)] : List va_W)) H → va_D A (List.flatten ([(oX2 (p0a 0) p0a p0k p0n p0w_9 p0l)] : List va_W)) → va_K (dC, dI) cls (List.flatten ([(tX2 p0k)] : List (List (ClassId × FieldType)))) s → va_S A s.heap H locs → lv_has ls 5 [(0, .ref (p0a 0)), (1, .int p1), (2, .int v2_9)] → (∀ (H : Heap) (locs : List Loc) (ls : Array Slot), va_P (dC, dI) cls (List.flatten ([(oX2 (p0a 0) p0a p0k p0n o9 p0l)] : List va_W)) H → va_D A (List.flatten ([(oX2 (p0a 0) p0a p0k p0n o9 p0l)] : List va_W)) → va_K (dC, dI) cls (List.flatten ([(tX2 p0k)] : List (List (ClassId × FieldType)))) s → va_S A s.heap H locs → lv_has ls 5 [(0, .ref (p0a 0)), (1, .int p1)] → W p l e ({ frames := 2, cells := 0, slots := 0, locals := 45 } : Room) s m ([.ref (p0a 0), .int p1] : List Value).toArray below meth c H locs 0 0 Q (F0 m 65 ls [])) → W p l e ({ frames := 2, cells := 0, slots := 0, locals := 45 } : Room) s m ([.ref (p0a 0), .int p1] : List Value).toArray below meth c H locs 0 0 Q (F0 m 9 ls []) := by
    intro n_9
    induction n_9 with
    | zero => intro v2_9 p0w_9 o9 H locs ls hrun; exact (no9 rfl hrun).elim
    | succ n_9 IH9 =>
      intro v2_9 p0w_9 o9 H locs ls hrun hP hD hK hS hl hk9
      unfold fX2_takeAway_L9 at hrun
      refine lv_iload_n hx hb dX2_takeAway_9 rfl (lv_at hl 2 rfl) ?_
      refine lv_aload_n hx hb dX2_takeAway_10 rfl (lv_at hl 0 rfl) ?_
      refine va_get (D := (dC, dI)) (ci := 9) (v := .int (p0w_9 0 2)) (C := RX2) (T := TX2) (N := 19) hx hb hts i_X2 hown hK hP 0 rfl rfl 2 (by decide) (hts _ qw669) (fun _ h9 => h9) rfl dX2_takeAway_11 ?_
      rcases br9 hrun with ⟨hc3, hrun⟩ | ⟨hc3, hrun⟩
      · refine lv_icmp_ge (tgt := 65) hx hb dX2_takeAway_14 (by decide) (fun _ => ?_) (fun c => absurd hc3 c)
        obtain rfl := (Option.some.inj hrun)
        exact hk9 _ _ _ hP hD hK hS (lv_sub hl [0, 1] rfl)
      · refine lv_icmp_ge (tgt := 65) hx hb dX2_takeAway_14 (by decide) (fun c => absurd c hc3) (fun _ => ?_)
        refine lv_aload_n hx hb dX2_takeAway_17 rfl (lv_at hl 0 rfl) ?_
        refine va_get (D := (dC, dI)) (ci := 9) (v := .ref (p0a 11)) (C := RX2) (T := TX2) (N := 19) hx hb hts i_X2 hown hK hP 0 rfl rfl 10 (by decide) (hts _ qw681) (fun _ h9 => h9) rfl dX2_takeAway_18 ?_
        refine lv_iload_n hx hb dX2_takeAway_21 rfl (lv_at hl 1 rfl) ?_
        refine lv_aload_n hx hb dX2_takeAway_22 rfl (lv_at hl 0 rfl) ?_
        refine va_get (D := (dC, dI)) (ci := 9) (v := .int (p0w_9 0 2)) (C := RX2) (T := TX2) (N := 19) hx hb hts i_X2 hown hK hP 0 rfl rfl 2 (by decide) (hts _ qw669) (fun _ h9 => h9) rfl dX2_takeAway_23 ?_
        refine lv_imul hx hb dX2_takeAway_26 ?_
        refine lv_iload_n hx hb dX2_takeAway_27 rfl (lv_at hl 2 rfl) ?_
        refine lv_iadd hx hb dX2_takeAway_28 ?_
        obtain ⟨hq4, hrun⟩ := chk9 hrun
        refine va_lald hx hb hK hP 7 6 rfl rfl (ixb_in hq4) dX2_takeAway_29 ?_
        refine lv_lstore_n (lv' := [(3, .long (p0l 11 (nn ((p1 * (p0w_9 0 2)) + v2_9)))), (0, .ref (p0a 0)), (1, .int p1), (2, .int v2_9)]) hx hb dX2_takeAway_30 rfl hl (by decide) rfl (fun ls hl => ?_)
        have L31 : ∀ (n_31 : Nat) (v3_31 : Int64) (p0w_31 : ST) (o31 : ST) (H : Heap) (locs : List Loc) (ls : Array Slot), (fX2_takeAway_L31 p0n v2_9 n_31) v3_31 p0w_31 = some o31 → va_P (dC, dI) cls (List.flatten ([(oX2 (p0a 0) p0a p0k p0n p0w_31 p0l)] : List va_W)) H → va_D A (List.flatten ([(oX2 (p0a 0) p0a p0k p0n p0w_31 p0l)] : List va_W)) → va_K (dC, dI) cls (List.flatten ([(tX2 p0k)] : List (List (ClassId × FieldType)))) s → va_S A s.heap H locs → lv_has ls 5 [(0, .ref (p0a 0)), (1, .int p1), (2, .int v2_9), (3, .long v3_31)] → (∀ (H : Heap) (locs : List Loc) (ls : Array Slot), va_P (dC, dI) cls (List.flatten ([(oX2 (p0a 0) p0a p0k p0n o31 p0l)] : List va_W)) H → va_D A (List.flatten ([(oX2 (p0a 0) p0a p0k p0n o31 p0l)] : List va_W)) → va_K (dC, dI) cls (List.flatten ([(tX2 p0k)] : List (List (ClassId × FieldType)))) s → va_S A s.heap H locs → lv_has ls 5 [(0, .ref (p0a 0)), (1, .int p1), (2, .int v2_9)] → W p l e ({ frames := 2, cells := 0, slots := 0, locals := 45 } : Room) s m ([.ref (p0a 0), .int p1] : List Value).toArray below meth c H locs 0 0 Q (F0 m 59 ls [])) → W p l e ({ frames := 2, cells := 0, slots := 0, locals := 45 } : Room) s m ([.ref (p0a 0), .int p1] : List Value).toArray below meth c H locs 0 0 Q (F0 m 31 ls []) := by
          intro n_31
          induction n_31 with
          | zero => intro v3_31 p0w_31 o31 H locs ls hrun; exact (no9 rfl hrun).elim
          | succ n_31 IH31 =>
            intro v3_31 p0w_31 o31 H locs ls hrun hP hD hK hS hl hk31
            unfold fX2_takeAway_L31 at hrun
            refine lv_lload_n hx hb dX2_takeAway_31 rfl (lv_at hl 3 rfl) ?_
            refine lv_lconst (v := 0) hx hb dX2_takeAway_32 (by decide) ?_
            refine W.lcmp hx hb dX2_takeAway_33 ?_
            rcases br9 hrun with ⟨hc5, hrun⟩ | ⟨hc5, hrun⟩
            · refine lv_if_eq (tgt := 59) hx hb dX2_takeAway_34 (by decide) (fun _ => ?_) (fun c => absurd hc5 c)
              obtain rfl := (Option.some.inj hrun)
              exact hk31 _ _ _ hP hD hK hS (lv_sub hl [0, 1, 2] rfl)
            · refine lv_if_eq (tgt := 59) hx hb dX2_takeAway_34 (by decide) (fun c => absurd c hc5) (fun _ => ?_)
              refine lv_aload_n hx hb dX2_takeAway_37 rfl (lv_at hl 0 rfl) ?_
              refine lv_iload_n hx hb dX2_takeAway_38 rfl (lv_at hl 2 rfl) ?_
              refine lv_bipush (v := 64) hx hb dX2_takeAway_39 (by decide) ?_
              refine lv_imul hx hb dX2_takeAway_41 ?_
              refine lv_lload_n hx hb dX2_takeAway_42 rfl (lv_at hl 3 rfl) ?_
              obtain ⟨o_6, hc_6, hrun⟩ := bnd9 hrun
              have hPx : va_P (dC, dI) cls ((List.flatten ([] : List va_W)) ++ (List.flatten ([(oX2 (p0a 0) p0a p0k p0n p0w_31 p0l)] : List va_W))) H := vP_fa (vP_perm hP (bP (List.Perm.refl _)))
              have hDx : va_D A ((List.flatten ([] : List va_W)) ++ (List.flatten ([(oX2 (p0a 0) p0a p0k p0n p0w_31 p0l)] : List va_W))) := vD_fa (vD_perm hD (bP (List.Perm.refl _)))
              have hKx : va_K (dC, dI) cls ((List.flatten ([] : List (List (ClassId × FieldType)))) ++ (List.flatten ([(tX2 p0k)] : List (List (ClassId × FieldType))))) s := vK_fa (vK_perm hK (bP (List.Perm.refl _)))
              have hPc := vP_l hPx
              have hDc := vD_l hDx
              have hKc := vK_l hKx
              have hFc := vfree hDx hS hA
              refine va_calli (va_runSN (As := [.long v3_31]) (rest := [.int (v2_9 * 64), .ref (p0a 0)]) ⟨hx, hb, hml, hown, hts⟩ (kX11_lowest l dC dI (p0 := v3_31) (sz := _) (o := o_6) (hrun := hc_6)) ⟨(va_cnB 1 hts (gi_z qw775) rfl rfl rfl (hE.nw (List.mem_append_right _ (tbl_9 (i := 34) rfl)) rfl) (hts _ qw129) (by decide +kernel) ⟨Nat.le_of_ble_eq_true rfl, Nat.le_of_ble_eq_true rfl⟩), (hts _ qw776), trivial⟩ ⟨PRE.blind, PRE.of hE hS hFc hPc hKc hDc⟩ rfl rfl hl.1 rfl (lv_room (Nat.le_of_ble_eq_true rfl)) dX2_takeAway_43 ⟨(Nat.le_of_ble_eq_true rfl), (Nat.le_of_ble_eq_true rfl)⟩) hS (fun q _ h => hFc q h) hFc (fun r7 u t H locs ht hvm hw hB hz1 hk1 hS => ?_)
              obtain ⟨b1, b2, b3⟩ := hB
              rw [ht] at b1
              obtain ⟨hP, hD, hK⟩ := JOINC (wc := (List.flatten ([] : List va_W))) (wr := (List.flatten ([(oX2 (p0a 0) p0a p0k p0n p0w_31 p0l)] : List va_W))) (w1 := (List.flatten ([] : List va_W))) (t1 := (List.flatten ([] : List (List (ClassId × FieldType))))) hPx hDx hKx hk1 hFc b1 (va_K.moved hvm.symm b2) b3
              have hP : va_P (dC, dI) cls (List.flatten ([(oX2 (p0a 0) p0a p0k p0n p0w_31 p0l)] : List va_W)) H := vP_perm (vP_fb hP) (bP (List.Perm.refl _))
              have hD : va_D A (List.flatten ([(oX2 (p0a 0) p0a p0k p0n p0w_31 p0l)] : List va_W)) := vD_perm (vD_fb hD) (bP (List.Perm.refl _))
              have hK : va_K (dC, dI) cls (List.flatten ([(tX2 p0k)] : List (List (ClassId × FieldType)))) s := vK_perm (vK_fb hK) (bP (List.Perm.refl _))
              obtain rfl : o_6 = r7 := hw.symm
              refine lv_iadd hx hb dX2_takeAway_46 ?_
              obtain ⟨o_8, hc_8, hrun⟩ := bnd9 hrun
              have hPx : va_P (dC, dI) cls ((List.flatten ([(oX2 (p0a 0) p0a p0k p0n p0w_31 p0l)] : List va_W)) ++ (List.flatten ([] : List va_W))) H := vP_fa (vP_perm hP (bP (List.Perm.refl _)))
              have hDx : va_D A ((List.flatten ([(oX2 (p0a 0) p0a p0k p0n p0w_31 p0l)] : List va_W)) ++ (List.flatten ([] : List va_W))) := vD_fa (vD_perm hD (bP (List.Perm.refl _)))
              have hKx : va_K (dC, dI) cls ((List.flatten ([(tX2 p0k)] : List (List (ClassId × FieldType)))) ++ (List.flatten ([] : List (List (ClassId × FieldType))))) s := vK_fa (vK_perm hK (bP (List.Perm.refl _)))
              have hPc := vP_l hPx
              have hDc := vD_l hDx
              have hKc := vK_l hKx
              have hFc := vfree hDx hS hA
              refine va_callv (va_runV (As := [.int ((v2_9 * 64) + o_6)]) (rest := []) ⟨hx, hb, hml, hown, hts⟩ (kX2_lowerLeft l dC dI (p0a := p0a) (p0k := p0k) (p0n := p0n) (p0w := p0w_31) (p0l := p0l) (p1 := ((v2_9 * 64) + o_6)) (sz := _) (o := o_8) (hrun := hc_8)) (cwV 1 hts (gi_V qw822 qw823 qw824 qw694 (gi_z qw821)) rfl rfl rfl (by decide +kernel) ⟨Nat.le_of_ble_eq_true rfl, Nat.le_of_ble_eq_true rfl⟩) ⟨PRE.blind, va_recv hKc hPc (ci := 9) (q0 := 0) rfl rfl, PRE.of hE hS hFc hPc hKc hDc⟩ rfl rfl hl.1 rfl (lv_room (Nat.le_of_ble_eq_true rfl)) dX2_takeAway_47 ⟨(Nat.le_of_ble_eq_true rfl), (Nat.le_of_ble_eq_true rfl)⟩) hS (fun q _ h => hFc q h) hFc (fun u t H locs ht hvm hw hB hz1 hk1 hS => ?_)
              obtain ⟨b1, b2, b3⟩ := hB
              rw [ht] at b1
              obtain ⟨hP, hD, hK⟩ := JOINC (wc := (List.flatten ([(oX2 (p0a 0) p0a p0k p0n p0w_31 p0l)] : List va_W))) (wr := (List.flatten ([] : List va_W))) (w1 := (List.flatten ([(oX2 (p0a 0) p0a p0k p0n o_8 p0l)] : List va_W))) (t1 := (List.flatten ([(tX2 p0k)] : List (List (ClassId × FieldType))))) hPx hDx hKx hk1 hFc b1 (va_K.moved hvm.symm b2) b3
              have hP : va_P (dC, dI) cls (List.flatten ([(oX2 (p0a 0) p0a p0k p0n o_8 p0l)] : List va_W)) H := vP_perm (vP_fb hP) (bP (List.Perm.refl _))
              have hD : va_D A (List.flatten ([(oX2 (p0a 0) p0a p0k p0n o_8 p0l)] : List va_W)) := vD_perm (vD_fb hD) (bP (List.Perm.refl _))
              have hK : va_K (dC, dI) cls (List.flatten ([(tX2 p0k)] : List (List (ClassId × FieldType)))) s := vK_perm (vK_fb hK) (bP (List.Perm.refl _))
              refine lv_lload_n hx hb dX2_takeAway_50 rfl (lv_at hl 3 rfl) ?_
              refine lv_lload_n hx hb dX2_takeAway_51 rfl (lv_at hl 3 rfl) ?_
              refine lv_lconst (v := 1) hx hb dX2_takeAway_52 (by decide) ?_
              refine lv_lsub hx hb dX2_takeAway_53 ?_
              refine lv_land hx hb dX2_takeAway_54 ?_
              refine lv_lstore_n (lv' := [(3, .long (v3_31 &&& (v3_31 - (1 : Int64)))), (0, .ref (p0a 0)), (1, .int p1), (2, .int v2_9)]) hx hb dX2_takeAway_55 rfl hl (by decide) rfl (fun ls hl => ?_)
              refine lv_goto (tgt := 31) hx hb dX2_takeAway_56 (by decide) ?_
              exact IH31 (v3_31 &&& (v3_31 - (1 : Int64))) o_8 o31 _ _ _ hrun hP hD hK hS (lv_sub hl [1, 2, 3, 0] rfl) hk31
        obtain ⟨o31, hc31, hrun⟩ := bnd9 hrun
        refine L31 NF (p0l 11 (nn ((p1 * (p0w_9 0 2)) + v2_9))) p0w_9 o31 _ _ _ hc31 hP hD hK hS (lv_sub hl [1, 2, 3, 0] rfl) ?_
        intro H locs ls hP hD hK hS hl
        have hl := hl
        refine lv_iinc (v := (v2_9 + 1)) (lv' := [(2, .int (v2_9 + 1)), (0, .ref (p0a 0)), (1, .int p1)]) hx hb dX2_takeAway_59 hl (k := 2) rfl rfl (by decide) rfl (fun ls hl => ?_)
        refine lv_goto (tgt := 9) hx hb dX2_takeAway_62 (by decide) ?_
        exact IH9 (v2_9 + 1) o31 o9 _ _ _ hrun hP hD hK hS (lv_sub hl [1, 2, 0] rfl) hk9
  obtain ⟨o9, hc9, hrun⟩ := bnd9 hrun
  refine L9 NF 0 w2 o9 _ _ _ hc9 hP hD hK hS (lv_sub hl [1, 2, 0] rfl) ?_
  intro H locs ls hP hD hK hS hl
  have hl := hl
  refine lv_aload_n hx hb dX2_takeAway_65 rfl (lv_at hl 0 rfl) ?_
  refine va_get (D := (dC, dI)) (ci := 9) (v := .ref (p0a 12)) (C := RX2) (T := TX2) (N := 19) hx hb hts i_X2 hown hK hP 0 rfl rfl 11 (by decide) (hts _ qw682) (fun _ h9 => h9) rfl dX2_takeAway_66 ?_
  refine lv_iload_n hx hb dX2_takeAway_69 rfl (lv_at hl 1 rfl) ?_
  obtain ⟨hq9, hrun⟩ := chk9 hrun
  refine va_iald hx hb hK hP 8 7 rfl rfl (ixb_in hq9) dX2_takeAway_70 ?_
  have J84 : ∀ (p0w_84 : ST) (H : Heap) (locs : List Loc) (ls : Array Slot), (fX2_takeAway_J84 p0n p0l p1 p0w_84) = some o → va_P (dC, dI) cls (List.flatten ([(oX2 (p0a 0) p0a p0k p0n p0w_84 p0l)] : List va_W)) H → va_D A (List.flatten ([(oX2 (p0a 0) p0a p0k p0n p0w_84 p0l)] : List va_W)) → va_K (dC, dI) cls (List.flatten ([(tX2 p0k)] : List (List (ClassId × FieldType)))) s → va_S A s.heap H locs → lv_has ls 5 [(0, .ref (p0a 0)), (1, .int p1)] → W p l e ({ frames := 2, cells := 0, slots := 0, locals := 45 } : Room) s m ([.ref (p0a 0), .int p1] : List Value).toArray below meth c H locs 0 0 Q (F0 m 84 ls []) := by
    intro p0w_84 H locs ls hrun hP hD hK hS hl 
    unfold fX2_takeAway_J84 at hrun
    refine lv_iload_n hx hb dX2_takeAway_84 rfl (lv_at hl 1 rfl) ?_
    refine lv_aload_n hx hb dX2_takeAway_85 rfl (lv_at hl 0 rfl) ?_
    refine va_get (D := (dC, dI)) (ci := 9) (v := .int (p0w_84 0 0)) (C := RX2) (T := TX2) (N := 19) hx hb hts i_X2 hown hK hP 0 rfl rfl 0 (by decide) (hts _ qw667) (fun _ h9 => h9) rfl dX2_takeAway_86 ?_
    have J129 : ∀ (p0w_129 : ST) (H : Heap) (locs : List Loc) (ls : Array Slot), (fX2_takeAway_J129 p0w_129) = some o → va_P (dC, dI) cls (List.flatten ([(oX2 (p0a 0) p0a p0k p0n p0w_129 p0l)] : List va_W)) H → va_D A (List.flatten ([(oX2 (p0a 0) p0a p0k p0n p0w_129 p0l)] : List va_W)) → va_K (dC, dI) cls (List.flatten ([(tX2 p0k)] : List (List (ClassId × FieldType)))) s → va_S A s.heap H locs → lv_has ls 5 [] → W p l e ({ frames := 2, cells := 0, slots := 0, locals := 45 } : Room) s m ([.ref (p0a 0), .int p1] : List Value).toArray below meth c H locs 0 0 Q (F0 m 129 ls []) := by
      intro p0w_129 H locs ls hrun hP hD hK hS hl 
      unfold fX2_takeAway_J129 at hrun
      have ho9 : p0w_129 = o := Option.some.inj hrun
      have hP9 : va_P (dC, dI) cls (List.flatten ([(oX2 (p0a 0) p0a p0k p0n o p0l)] : List va_W)) H := by first | exact hP | (rw [← ho9]; exact hP)
      have hD9 : va_D A (List.flatten ([(oX2 (p0a 0) p0a p0k p0n o p0l)] : List va_W)) := by first | exact hD | (rw [← ho9]; exact hD)
      subst hQ
      exact W.vret hx hb hr (fun t ht hW => ⟨⟨(), rfl, trivial, ⟨by rw [ht]; exact hP9, va_K.moved hW.alike hK, hD9⟩⟩, hS.F ht⟩) hS.2.2 dX2_takeAway_129
    rcases br9 hrun with ⟨hc10, hrun⟩ | ⟨hc10, hrun⟩
    · refine lv_icmp_ge (tgt := 129) hx hb dX2_takeAway_89 (by decide) (fun _ => ?_) (fun c => absurd hc10 c)
      exact J129 p0w_84 _ _ _ hrun hP hD hK hS (lv_sub hl [] rfl)
    · refine lv_icmp_ge (tgt := 129) hx hb dX2_takeAway_89 (by decide) (fun c => absurd c hc10) (fun _ => ?_)
      refine lv_aload_n hx hb dX2_takeAway_92 rfl (lv_at hl 0 rfl) ?_
      refine va_get (D := (dC, dI)) (ci := 9) (v := .int (p0w_84 0 0)) (C := RX2) (T := TX2) (N := 19) hx hb hts i_X2 hown hK hP 0 rfl rfl 0 (by decide) (hts _ qw667) (fun _ h9 => h9) rfl dX2_takeAway_93 ?_
      refine lv_istore_n (lv' := [(2, .int (p0w_84 0 0)), (0, .ref (p0a 0)), (1, .int p1)]) hx hb dX2_takeAway_96 rfl hl (by decide) rfl (fun ls hl => ?_)
      have L97 : ∀ (n_97 : Nat) (v2_97 : Int32) (p0w_97 : ST) (o97 : ST) (H : Heap) (locs : List Loc) (ls : Array Slot), (fX2_takeAway_L97 p0n p0l p1 n_97) v2_97 p0w_97 = some o97 → va_P (dC, dI) cls (List.flatten ([(oX2 (p0a 0) p0a p0k p0n p0w_97 p0l)] : List va_W)) H → va_D A (List.flatten ([(oX2 (p0a 0) p0a p0k p0n p0w_97 p0l)] : List va_W)) → va_K (dC, dI) cls (List.flatten ([(tX2 p0k)] : List (List (ClassId × FieldType)))) s → va_S A s.heap H locs → lv_has ls 5 [(0, .ref (p0a 0)), (1, .int p1), (2, .int v2_97)] → (∀ (H : Heap) (locs : List Loc) (ls : Array Slot), va_P (dC, dI) cls (List.flatten ([(oX2 (p0a 0) p0a p0k p0n o97 p0l)] : List va_W)) H → va_D A (List.flatten ([(oX2 (p0a 0) p0a p0k p0n o97 p0l)] : List va_W)) → va_K (dC, dI) cls (List.flatten ([(tX2 p0k)] : List (List (ClassId × FieldType)))) s → va_S A s.heap H locs → lv_has ls 5 [] → W p l e ({ frames := 2, cells := 0, slots := 0, locals := 45 } : Room) s m ([.ref (p0a 0), .int p1] : List Value).toArray below meth c H locs 0 0 Q (F0 m 129 ls [])) → W p l e ({ frames := 2, cells := 0, slots := 0, locals := 45 } : Room) s m ([.ref (p0a 0), .int p1] : List Value).toArray below meth c H locs 0 0 Q (F0 m 97 ls []) := by
        intro n_97
        induction n_97 with
        | zero => intro v2_97 p0w_97 o97 H locs ls hrun; exact (no9 rfl hrun).elim
        | succ n_97 IH97 =>
          intro v2_97 p0w_97 o97 H locs ls hrun hP hD hK hS hl hk97
          unfold fX2_takeAway_L97 at hrun
          refine lv_iload_n hx hb dX2_takeAway_97 rfl (lv_at hl 2 rfl) ?_
          refine lv_aload_n hx hb dX2_takeAway_98 rfl (lv_at hl 0 rfl) ?_
          refine va_get (D := (dC, dI)) (ci := 9) (v := .int (p0w_97 0 1)) (C := RX2) (T := TX2) (N := 19) hx hb hts i_X2 hown hK hP 0 rfl rfl 1 (by decide) (hts _ qw668) (fun _ h9 => h9) rfl dX2_takeAway_99 ?_
          rcases br9 hrun with ⟨hc11, hrun⟩ | ⟨hc11, hrun⟩
          · refine lv_icmp_ge (tgt := 129) hx hb dX2_takeAway_102 (by decide) (fun _ => ?_) (fun c => absurd hc11 c)
            obtain rfl := (Option.some.inj hrun)
            exact hk97 _ _ _ hP hD hK hS (lv_sub hl [] rfl)
          · refine lv_icmp_ge (tgt := 129) hx hb dX2_takeAway_102 (by decide) (fun c => absurd c hc11) (fun _ => ?_)
            refine lv_aload_n hx hb dX2_takeAway_105 rfl (lv_at hl 0 rfl) ?_
            refine lv_aload_n hx hb dX2_takeAway_106 rfl (lv_at hl 0 rfl) ?_
            refine va_get (D := (dC, dI)) (ci := 9) (v := .ref (p0a 11)) (C := RX2) (T := TX2) (N := 19) hx hb hts i_X2 hown hK hP 0 rfl rfl 10 (by decide) (hts _ qw681) (fun _ h9 => h9) rfl dX2_takeAway_107 ?_
            refine lv_iload_n hx hb dX2_takeAway_110 rfl (lv_at hl 2 rfl) ?_
            refine lv_iload_n hx hb dX2_takeAway_111 rfl (lv_at hl 1 rfl) ?_
            obtain ⟨o_12, hc_12, hrun⟩ := bnd9 hrun
            have hPx : va_P (dC, dI) cls ((List.flatten ([(oX2 (p0a 0) p0a p0k p0n p0w_97 p0l)] : List va_W)) ++ (List.flatten ([] : List va_W))) H := vP_fa (vP_perm hP (bP (List.Perm.refl _)))
            have hDx : va_D A ((List.flatten ([(oX2 (p0a 0) p0a p0k p0n p0w_97 p0l)] : List va_W)) ++ (List.flatten ([] : List va_W))) := vD_fa (vD_perm hD (bP (List.Perm.refl _)))
            have hKx : va_K (dC, dI) cls ((List.flatten ([(tX2 p0k)] : List (List (ClassId × FieldType)))) ++ (List.flatten ([] : List (List (ClassId × FieldType))))) s := vK_fa (vK_perm hK (bP (List.Perm.refl _)))
            have hPc := vP_l hPx
            have hDc := vD_l hDx
            have hKc := vK_l hKx
            have hFc := vfree hDx hS hA
            refine va_calli (va_runV (As := [.ref (p0a 11), .int v2_97, .int p1]) (rest := []) ⟨hx, hb, hml, hown, hts⟩ (kX2_isIn_a1_p0_10 l dC dI (p0a := p0a) (p0k := p0k) (p0n := p0n) (p0w := p0w_97) (p0l := p0l) (p2 := v2_97) (p3 := p1) (sz := _) (o := o_12) (hrun := hc_12)) (cwV 3 hts (gi_V qw709 qw710 qw711 qw694 (gi_z qw708)) rfl rfl rfl (by decide +kernel) ⟨Nat.le_of_ble_eq_true rfl, Nat.le_of_ble_eq_true rfl⟩) ⟨PRE.blind, va_recv hKc hPc (ci := 9) (q0 := 0) rfl rfl, PRE.of hE hS hFc hPc hKc hDc⟩ rfl rfl hl.1 rfl (lv_room (Nat.le_of_ble_eq_true rfl)) dX2_takeAway_112 ⟨(Nat.le_of_ble_eq_true rfl), (Nat.le_of_ble_eq_true rfl)⟩) hS (fun q _ h => hFc q h) hFc (fun r13 u t H locs ht hvm hw hB hz1 hk1 hS => ?_)
            obtain ⟨b1, b2, b3⟩ := hB
            rw [ht] at b1
            obtain ⟨hP, hD, hK⟩ := JOINC (wc := (List.flatten ([(oX2 (p0a 0) p0a p0k p0n p0w_97 p0l)] : List va_W))) (wr := (List.flatten ([] : List va_W))) (w1 := (List.flatten ([(oX2 (p0a 0) p0a p0k p0n p0w_97 p0l)] : List va_W))) (t1 := (List.flatten ([(tX2 p0k)] : List (List (ClassId × FieldType))))) hPx hDx hKx hk1 hFc b1 (va_K.moved hvm.symm b2) b3
            have hP : va_P (dC, dI) cls (List.flatten ([(oX2 (p0a 0) p0a p0k p0n p0w_97 p0l)] : List va_W)) H := vP_perm (vP_fb hP) (bP (List.Perm.refl _))
            have hD : va_D A (List.flatten ([(oX2 (p0a 0) p0a p0k p0n p0w_97 p0l)] : List va_W)) := vD_perm (vD_fb hD) (bP (List.Perm.refl _))
            have hK : va_K (dC, dI) cls (List.flatten ([(tX2 p0k)] : List (List (ClassId × FieldType)))) s := vK_perm (vK_fb hK) (bP (List.Perm.refl _))
            obtain rfl : o_12 = r13 := hw.symm
            have J123 : ∀ (p0w_123 : ST) (H : Heap) (locs : List Loc) (ls : Array Slot), (fX2_takeAway_J123 (fX2_takeAway_L97 p0n p0l p1 n_97) v2_97 p0w_123) = some o97 → va_P (dC, dI) cls (List.flatten ([(oX2 (p0a 0) p0a p0k p0n p0w_123 p0l)] : List va_W)) H → va_D A (List.flatten ([(oX2 (p0a 0) p0a p0k p0n p0w_123 p0l)] : List va_W)) → va_K (dC, dI) cls (List.flatten ([(tX2 p0k)] : List (List (ClassId × FieldType)))) s → va_S A s.heap H locs → lv_has ls 5 [(0, .ref (p0a 0)), (1, .int p1), (2, .int v2_97)] → W p l e ({ frames := 2, cells := 0, slots := 0, locals := 45 } : Room) s m ([.ref (p0a 0), .int p1] : List Value).toArray below meth c H locs 0 0 Q (F0 m 123 ls []) := by
              intro p0w_123 H locs ls hrun hP hD hK hS hl 
              unfold fX2_takeAway_J123 at hrun
              refine lv_iinc (v := (v2_97 + 1)) (lv' := [(2, .int (v2_97 + 1)), (0, .ref (p0a 0)), (1, .int p1)]) hx hb dX2_takeAway_123 hl (k := 2) rfl rfl (by decide) rfl (fun ls hl => ?_)
              refine lv_goto (tgt := 97) hx hb dX2_takeAway_126 (by decide) ?_
              exact IH97 (v2_97 + 1) p0w_123 o97 _ _ _ hrun hP hD hK hS (lv_sub hl [1, 2, 0] rfl) hk97
            rcases br9 hrun with ⟨hc14, hrun⟩ | ⟨hc14, hrun⟩
            · refine lv_if_eq (tgt := 123) hx hb dX2_takeAway_115 (by decide) (fun _ => ?_) (fun c => absurd hc14 c)
              exact J123 p0w_97 _ _ _ hrun hP hD hK hS (lv_sub hl [0, 1, 2] rfl)
            · refine lv_if_eq (tgt := 123) hx hb dX2_takeAway_115 (by decide) (fun c => absurd c hc14) (fun _ => ?_)
              refine lv_aload_n hx hb dX2_takeAway_118 rfl (lv_at hl 0 rfl) ?_
              refine lv_iload_n hx hb dX2_takeAway_119 rfl (lv_at hl 2 rfl) ?_
              obtain ⟨o_15, hc_15, hrun⟩ := bnd9 hrun
              have hPx : va_P (dC, dI) cls ((List.flatten ([(oX2 (p0a 0) p0a p0k p0n p0w_97 p0l)] : List va_W)) ++ (List.flatten ([] : List va_W))) H := vP_fa (vP_perm hP (bP (List.Perm.refl _)))
              have hDx : va_D A ((List.flatten ([(oX2 (p0a 0) p0a p0k p0n p0w_97 p0l)] : List va_W)) ++ (List.flatten ([] : List va_W))) := vD_fa (vD_perm hD (bP (List.Perm.refl _)))
              have hKx : va_K (dC, dI) cls ((List.flatten ([(tX2 p0k)] : List (List (ClassId × FieldType)))) ++ (List.flatten ([] : List (List (ClassId × FieldType))))) s := vK_fa (vK_perm hK (bP (List.Perm.refl _)))
              have hPc := vP_l hPx
              have hDc := vD_l hDx
              have hKc := vK_l hKx
              have hFc := vfree hDx hS hA
              refine va_callv (va_runV (As := [.int v2_97]) (rest := []) ⟨hx, hb, hml, hown, hts⟩ (kX2_lowerLeft l dC dI (p0a := p0a) (p0k := p0k) (p0n := p0n) (p0w := p0w_97) (p0l := p0l) (p1 := v2_97) (sz := _) (o := o_15) (hrun := hc_15)) (cwV 1 hts (gi_V qw822 qw823 qw824 qw694 (gi_z qw821)) rfl rfl rfl (by decide +kernel) ⟨Nat.le_of_ble_eq_true rfl, Nat.le_of_ble_eq_true rfl⟩) ⟨PRE.blind, va_recv hKc hPc (ci := 9) (q0 := 0) rfl rfl, PRE.of hE hS hFc hPc hKc hDc⟩ rfl rfl hl.1 rfl (lv_room (Nat.le_of_ble_eq_true rfl)) dX2_takeAway_120 ⟨(Nat.le_of_ble_eq_true rfl), (Nat.le_of_ble_eq_true rfl)⟩) hS (fun q _ h => hFc q h) hFc (fun u t H locs ht hvm hw hB hz1 hk1 hS => ?_)
              obtain ⟨b1, b2, b3⟩ := hB
              rw [ht] at b1
              obtain ⟨hP, hD, hK⟩ := JOINC (wc := (List.flatten ([(oX2 (p0a 0) p0a p0k p0n p0w_97 p0l)] : List va_W))) (wr := (List.flatten ([] : List va_W))) (w1 := (List.flatten ([(oX2 (p0a 0) p0a p0k p0n o_15 p0l)] : List va_W))) (t1 := (List.flatten ([(tX2 p0k)] : List (List (ClassId × FieldType))))) hPx hDx hKx hk1 hFc b1 (va_K.moved hvm.symm b2) b3
              have hP : va_P (dC, dI) cls (List.flatten ([(oX2 (p0a 0) p0a p0k p0n o_15 p0l)] : List va_W)) H := vP_perm (vP_fb hP) (bP (List.Perm.refl _))
              have hD : va_D A (List.flatten ([(oX2 (p0a 0) p0a p0k p0n o_15 p0l)] : List va_W)) := vD_perm (vD_fb hD) (bP (List.Perm.refl _))
              have hK : va_K (dC, dI) cls (List.flatten ([(tX2 p0k)] : List (List (ClassId × FieldType)))) s := vK_perm (vK_fb hK) (bP (List.Perm.refl _))
              exact J123 o_15 _ _ _ hrun hP hD hK hS (lv_sub hl [0, 1, 2] rfl)
      obtain ⟨o97, hc97, hrun⟩ := bnd9 hrun
      refine L97 NF (p0w_84 0 0) p0w_84 o97 _ _ _ hc97 hP hD hK hS (lv_sub hl [1, 2, 0] rfl) ?_
      intro H locs ls hP hD hK hS hl
      have hl := hl
      exact J129 o97 _ _ _ hrun hP hD hK hS (lv_sub hl [] rfl)
  rcases br9 hrun with ⟨hc16, hrun⟩ | ⟨hc16, hrun⟩
  · refine lv_if_lt (tgt := 84) hx hb dX2_takeAway_71 (by decide) (fun _ => ?_) (fun c => absurd hc16 c)
    exact J84 o9 _ _ _ hrun hP hD hK hS (lv_sub hl [0, 1] rfl)
  · refine lv_if_lt (tgt := 84) hx hb dX2_takeAway_71 (by decide) (fun c => absurd c hc16) (fun _ => ?_)
    refine lv_aload_n hx hb dX2_takeAway_74 rfl (lv_at hl 0 rfl) ?_
    refine lv_aload_n hx hb dX2_takeAway_75 rfl (lv_at hl 0 rfl) ?_
    refine va_get (D := (dC, dI)) (ci := 9) (v := .ref (p0a 12)) (C := RX2) (T := TX2) (N := 19) hx hb hts i_X2 hown hK hP 0 rfl rfl 11 (by decide) (hts _ qw682) (fun _ h9 => h9) rfl dX2_takeAway_76 ?_
    refine lv_iload_n hx hb dX2_takeAway_79 rfl (lv_at hl 1 rfl) ?_
    obtain ⟨hq17, hrun⟩ := chk9 hrun
    refine va_iald hx hb hK hP 8 7 rfl rfl (ixb_in hq17) dX2_takeAway_80 ?_
    obtain ⟨o_18, hc_18, hrun⟩ := bnd9 hrun
    have hPx : va_P (dC, dI) cls ((List.flatten ([(oX2 (p0a 0) p0a p0k p0n o9 p0l)] : List va_W)) ++ (List.flatten ([] : List va_W))) H := vP_fa (vP_perm hP (bP (List.Perm.refl _)))
    have hDx : va_D A ((List.flatten ([(oX2 (p0a 0) p0a p0k p0n o9 p0l)] : List va_W)) ++ (List.flatten ([] : List va_W))) := vD_fa (vD_perm hD (bP (List.Perm.refl _)))
    have hKx : va_K (dC, dI) cls ((List.flatten ([(tX2 p0k)] : List (List (ClassId × FieldType)))) ++ (List.flatten ([] : List (List (ClassId × FieldType))))) s := vK_fa (vK_perm hK (bP (List.Perm.refl _)))
    have hPc := vP_l hPx
    have hDc := vD_l hDx
    have hKc := vK_l hKx
    have hFc := vfree hDx hS hA
    refine va_callv (va_runV (As := [.int (o9 12 (nn p1))]) (rest := []) ⟨hx, hb, hml, hown, hts⟩ (kX2_lowerLeft l dC dI (p0a := p0a) (p0k := p0k) (p0n := p0n) (p0w := o9) (p0l := p0l) (p1 := (o9 12 (nn p1))) (sz := _) (o := o_18) (hrun := hc_18)) (cwV 1 hts (gi_V qw822 qw823 qw824 qw694 (gi_z qw821)) rfl rfl rfl (by decide +kernel) ⟨Nat.le_of_ble_eq_true rfl, Nat.le_of_ble_eq_true rfl⟩) ⟨PRE.blind, va_recv hKc hPc (ci := 9) (q0 := 0) rfl rfl, PRE.of hE hS hFc hPc hKc hDc⟩ rfl rfl hl.1 rfl (lv_room (Nat.le_of_ble_eq_true rfl)) dX2_takeAway_81 ⟨(Nat.le_of_ble_eq_true rfl), (Nat.le_of_ble_eq_true rfl)⟩) hS (fun q _ h => hFc q h) hFc (fun u t H locs ht hvm hw hB hz1 hk1 hS => ?_)
    obtain ⟨b1, b2, b3⟩ := hB
    rw [ht] at b1
    obtain ⟨hP, hD, hK⟩ := JOINC (wc := (List.flatten ([(oX2 (p0a 0) p0a p0k p0n o9 p0l)] : List va_W))) (wr := (List.flatten ([] : List va_W))) (w1 := (List.flatten ([(oX2 (p0a 0) p0a p0k p0n o_18 p0l)] : List va_W))) (t1 := (List.flatten ([(tX2 p0k)] : List (List (ClassId × FieldType))))) hPx hDx hKx hk1 hFc b1 (va_K.moved hvm.symm b2) b3
    have hP : va_P (dC, dI) cls (List.flatten ([(oX2 (p0a 0) p0a p0k p0n o_18 p0l)] : List va_W)) H := vP_perm (vP_fb hP) (bP (List.Perm.refl _))
    have hD : va_D A (List.flatten ([(oX2 (p0a 0) p0a p0k p0n o_18 p0l)] : List va_W)) := vD_perm (vD_fb hD) (bP (List.Perm.refl _))
    have hK : va_K (dC, dI) cls (List.flatten ([(tX2 p0k)] : List (List (ClassId × FieldType)))) s := vK_perm (vK_fb hK) (bP (List.Perm.refl _))
    exact J84 o_18 _ _ _ hrun hP hD hK hS (lv_sub hl [0, 1] rfl)
def fX2_registerBit_J21 (y0_21 : Int32) : Option Int32 := some y0_21
def fX2_registerBit (p0n : Nat → Nat) (p0w : ST) (p1 : Int32) : Option Int32 := (if ixb p1 (p0n 17) = true then (if 0 ≤ (p0w 17 (nn p1)) then (if ixb p1 (p0n 17) = true then (fX2_registerBit_J21 (1 <<< ((p0w 17 (nn p1)) &&& 31))) else none) else (fX2_registerBit_J21 0)) else none)
set_option maxHeartbeats 16000000 in
set_option maxRecDepth 100000 in
theorem kX2_registerBit {zs : ZS} (l : Launch) (dC : Nat → ClassId) (dI : Nat → Nat → Nat) (p0a : Nat → Nat) (p0k : Nat → ClassId) (p0n : Nat → Nat) (p0w : ST) (p0l : SL) (p1 : Int32) (sz : Nat) (o : Int32) (hrun : fX2_registerBit p0n p0w p1 = some o) : Met l yX2_registerBit (wz yX2_registerBit cX2_registerBit 2 (Option.some Jvm.ClassFile.FieldType.int)) ({ frames := 0, cells := 0, slots := 0, locals := 0 } : Room) (va_Pc [.ref (p0a 0), .int p1] (PRE zs dC dI (List.flatten ([(oX2 (p0a 0) p0a p0k p0n p0w p0l)] : List va_W)) (List.flatten ([(tX2 p0k)] : List (List (ClassId × FieldType)))) sz)) (va_Qi (fun (r : Int32) (_ : Unit) => r = o) (fun _ t => POST dC dI (List.flatten ([(oX2 (p0a 0) p0a p0k p0n p0w p0l)] : List va_W)) (List.flatten ([(tX2 p0k)] : List (List (ClassId × FieldType)))) (va_A (List.flatten ([(oX2 (p0a 0) p0a p0k p0n p0w p0l)] : List va_W)) sz) t) (va_A (List.flatten ([(oX2 (p0a 0) p0a p0k p0n p0w p0l)] : List va_W)) sz)) 0 0 (va_A (List.flatten ([(oX2 (p0a 0) p0a p0k p0n p0w p0l)] : List va_W)) sz) := by
  refine Met.ofW (cc := cX2_registerBit) (maxL := 2) (ret := (Option.some Jvm.ClassFile.FieldType.int)) (by decide) rfl ?_
  intro p e s m args below meth c s₁ B hml hv
  obtain ⟨rfl, hsz, hP, hK, hD0, hE⟩ := hv
  have hx := B.exec
  have hb := B.bytes
  have hr := B.returns
  have hts0 := atoms_spec (ws := wz yX2_registerBit cX2_registerBit 2 (Option.some Jvm.ClassFile.FieldType.int)) B.pre
  have hts : ∀ w ∈ gw, w.before _ s = true := fun w h => hts0 w (List.mem_cons_of_mem _ h)
  have hown : s.vm.findClass RX2 = some m.cls := findClass_of_methodNamed B.named
  have hlocks := B.notSynchronized
  subst hsz
  have hD := hD0.self (sz := s.heap.size)
  refine gQ9 ?_
  intro Q hQ
  generalize hAe : va_A (List.flatten ([(oX2 (p0a 0) p0a p0k p0n p0w p0l)] : List va_W)) s.heap.size = A at hD hE hQ
  have hA : ∀ q : Nat, s.heap.size ≤ q → A q := fun q h => by rw [← hAe]; exact Or.inr h
  have hS : va_S A s.heap s.heap [] := va_S.rf
  have hP : va_P (dC, dI) cls (List.flatten ([(oX2 (p0a 0) p0a p0k p0n p0w p0l)] : List va_W)) s.heap := hP
  have hl := lv_entry ([.ref (p0a 0), .int p1]) (n := 2) (Nat.le_of_ble_eq_true rfl)
  rw [lg_entry_eq]
  generalize (lg_sl ([.ref (p0a 0), .int p1]) ++ List.replicate (2 - (lg_sl ([.ref (p0a 0), .int p1])).length) Slot.unset).toArray = ls at hl ⊢
  have hl : lv_has ls 2 [(0, .ref (p0a 0)), (1, .int p1)] := hl
  obtain ⟨H, hHe⟩ : ∃ H, H = s.heap := ⟨_, rfl⟩
  obtain ⟨locs, hle⟩ : ∃ locs : List Loc, locs = [] := ⟨_, rfl⟩
  rw [← hHe] at hP
  have hS : va_S A s.heap H locs := by rw [hHe, hle]; exact hS
  show W p l e ({ frames := 0, cells := 0, slots := 0, locals := 0 } : Room) s m ([.ref (p0a 0), .int p1] : List Value).toArray below meth c s.heap [] 0 0 Q (F0 m 0 ls [])
  rw [← hle]
  refine wH9 hHe ?_
  unfold fX2_registerBit at hrun
  refine lv_aload_n hx hb dX2_registerBit_0 rfl (lv_at hl 0 rfl) ?_
  refine va_get (D := (dC, dI)) (ci := 9) (v := .ref (p0a 17)) (C := RX2) (T := TX2) (N := 19) hx hb hts i_X2 hown hK hP 0 rfl rfl 16 (by decide) (hts _ qw687) (fun _ h9 => h9) rfl dX2_registerBit_1 ?_
  refine lv_iload_n hx hb dX2_registerBit_4 rfl (lv_at hl 1 rfl) ?_
  obtain ⟨hq1, hrun⟩ := chk9 hrun
  refine va_iald hx hb hK hP 13 12 rfl rfl (ixb_in hq1) dX2_registerBit_5 ?_
  have J21 : ∀ (y0_21 : Int32) (H : Heap) (locs : List Loc) (ls : Array Slot), (fX2_registerBit_J21 y0_21) = some o → va_P (dC, dI) cls (List.flatten ([(oX2 (p0a 0) p0a p0k p0n p0w p0l)] : List va_W)) H → va_D A (List.flatten ([(oX2 (p0a 0) p0a p0k p0n p0w p0l)] : List va_W)) → va_K (dC, dI) cls (List.flatten ([(tX2 p0k)] : List (List (ClassId × FieldType)))) s → va_S A s.heap H locs → lv_has ls 2 [] → W p l e ({ frames := 0, cells := 0, slots := 0, locals := 0 } : Room) s m ([.ref (p0a 0), .int p1] : List Value).toArray below meth c H locs 0 0 Q (F0 m 21 ls [.int y0_21]) := by
    intro y0_21 H locs ls hrun hP hD hK hS hl 
    unfold fX2_registerBit_J21 at hrun
    have ho9 : y0_21 = o := Option.some.inj hrun
    have hP9 : va_P (dC, dI) cls (List.flatten ([(oX2 (p0a 0) p0a p0k p0n p0w p0l)] : List va_W)) H := by first | exact hP | (rw [← ho9]; exact hP)
    have hD9 : va_D A (List.flatten ([(oX2 (p0a 0) p0a p0k p0n p0w p0l)] : List va_W)) := by first | exact hD | (rw [← ho9]; exact hD)
    subst hQ
    exact W.iret (v := y0_21) hx hb hr (fun t ht hW => ⟨⟨y0_21, (), rfl, (by rw [← ho9]), ⟨by rw [ht]; exact hP9, va_K.moved hW.alike hK, hD9⟩⟩, hS.F ht⟩) hS.2.2 dX2_registerBit_21
  rcases br9 hrun with ⟨hc2, hrun⟩ | ⟨hc2, hrun⟩
  · refine lv_if_ge (tgt := 13) hx hb dX2_registerBit_6 (by decide) (fun _ => ?_) (fun c => absurd hc2 c)
    refine lv_iconst (v := 1) hx hb dX2_registerBit_13 (by decide) ?_
    refine lv_aload_n hx hb dX2_registerBit_14 rfl (lv_at hl 0 rfl) ?_
    refine va_get (D := (dC, dI)) (ci := 9) (v := .ref (p0a 17)) (C := RX2) (T := TX2) (N := 19) hx hb hts i_X2 hown hK hP 0 rfl rfl 16 (by decide) (hts _ qw687) (fun _ h9 => h9) rfl dX2_registerBit_15 ?_
    refine lv_iload_n hx hb dX2_registerBit_18 rfl (lv_at hl 1 rfl) ?_
    obtain ⟨hq3, hrun⟩ := chk9 hrun
    refine va_iald hx hb hK hP 13 12 rfl rfl (ixb_in hq3) dX2_registerBit_19 ?_
    refine lv_ishl hx hb dX2_registerBit_20 ?_
    exact J21 (1 <<< ((p0w 17 (nn p1)) &&& 31)) _ _ _ hrun hP hD hK hS (lv_sub hl [] rfl)
  · refine lv_if_ge (tgt := 13) hx hb dX2_registerBit_6 (by decide) (fun c => absurd c hc2) (fun _ => ?_)
    refine lv_iconst (v := 0) hx hb dX2_registerBit_9 (by decide) ?_
    refine lv_goto (tgt := 21) hx hb dX2_registerBit_10 (by decide) ?_
    exact J21 0 _ _ _ hrun hP hD hK hS (lv_sub hl [] rfl)
def fX2_freeRegister_L30 (p0n : Nat → Nat) (p0w : ST) (v4_5 : Int32) : Nat → Int32 → Int64 → Option Int32
  | 0 => fun _ _ => none
  | n_30 + 1 => fun v3_30 v5_30 => (if (lg_cmp v5_30 (0 : Int64)) = 0 then some v3_30 else ((fX11_lowest v5_30).bind fun (o_4 : Int32) => ((fX2_registerBit p0n p0w ((v4_5 * 64) + o_4)).bind fun (o_6 : Int32) => ((fX2_freeRegister_L30 p0n p0w v4_5 n_30) (v3_30 ||| o_6) (v5_30 &&& (v5_30 - (1 : Int64)))))))
def fX2_freeRegister_L5 (p0n : Nat → Nat) (p0w : ST) (p0l : SL) (p1 : Int32) : Nat → Int32 → Int32 → Option Int32
  | 0 => fun _ _ => none
  | n_5 + 1 => fun v3_5 v4_5 => (if (p0w 0 2) ≤ v4_5 then some v3_5 else (if ixb ((p1 * (p0w 0 2)) + v4_5) (p0n 11) = true then ((fX2_freeRegister_L30 p0n p0w v4_5 NF v3_5 (p0l 11 (nn ((p1 * (p0w 0 2)) + v4_5)))).bind fun (o30 : Int32) => ((fX2_freeRegister_L5 p0n p0w p0l p1 n_5) o30 (v4_5 + 1))) else none))
def fX2_freeRegister_L150 (p2 : Int32) (v3_147 : Int32) : Nat → Int32 → Option (Sum Int32 Unit)
  | 0 => fun _ => none
  | n_150 + 1 => fun v4_150 => (if p2 ≤ v4_150 then some (Sum.inr ()) else (if ((v3_147 >>> (v4_150 &&& 31)) &&& 1) = 0 then some (Sum.inl v4_150) else ((fX2_freeRegister_L150 p2 v3_147 n_150) (v4_150 + 1))))
def fX2_freeRegister_J147 (p2 : Int32) (v3_147 : Int32) : Option Int32 := ((fX2_freeRegister_L150 p2 v3_147 NF 0).bind fun (o150 : (Sum Int32 Unit)) => Sum.elim (fun r => some r) (fun (t150 : Unit) => some (-1)) o150)
def fX2_freeRegister_J141 (kk109 : Int32 → Int32 → Option Int32) (v4_109 : Int32) (v3_141 : Int32) : Option Int32 := (kk109 v3_141 (v4_109 + 1))
def fX2_freeRegister_L109 (p0n : Nat → Nat) (p0w : ST) (p0l : SL) (p1 : Int32) : Nat → Int32 → Int32 → Option Int32
  | 0 => fun _ _ => none
  | n_109 + 1 => fun v3_109 v4_109 => (if (p0w 0 1) ≤ v4_109 then some v3_109 else ((fX2_isIn_a1_p0_10 p0n p0w p0l v4_109 p1).bind fun (o_13 : Int32) => (if o_13 = 0 then (fX2_freeRegister_J141 (fX2_freeRegister_L109 p0n p0w p0l p1 n_109) v4_109 v3_109) else ((fX2_registerBit p0n p0w v4_109).bind fun (o_16 : Int32) => (fX2_freeRegister_J141 (fX2_freeRegister_L109 p0n p0w p0l p1 n_109) v4_109 (v3_109 ||| o_16))))))
def fX2_freeRegister_J95 (p0n : Nat → Nat) (p0w : ST) (p0l : SL) (p1 : Int32) (p2 : Int32) (v3_95 : Int32) : Option Int32 := (if (p0w 0 0) ≤ p1 then (fX2_freeRegister_J147 p2 v3_95) else ((fX2_freeRegister_L109 p0n p0w p0l p1 NF v3_95 (p0w 0 0)).bind fun (o109 : Int32) => (fX2_freeRegister_J147 p2 o109)))
def fX2_freeRegister (p0n : Nat → Nat) (p0w : ST) (p0l : SL) (p1 : Int32) (p2 : Int32) : Option Int32 := ((fX2_freeRegister_L5 p0n p0w p0l p1 NF 0 0).bind fun (o5 : Int32) => (if ixb p1 (p0n 12) = true then (if (p0w 12 (nn p1)) < 0 then (fX2_freeRegister_J95 p0n p0w p0l p1 p2 o5) else (if ixb p1 (p0n 12) = true then ((fX2_registerBit p0n p0w (p0w 12 (nn p1))).bind fun (o_20 : Int32) => (fX2_freeRegister_J95 p0n p0w p0l p1 p2 (o5 ||| o_20))) else none)) else none))
set_option maxHeartbeats 16000000 in
set_option maxRecDepth 100000 in
theorem kX2_freeRegister {zs : ZS} (l : Launch) (dC : Nat → ClassId) (dI : Nat → Nat → Nat) (p0a : Nat → Nat) (p0k : Nat → ClassId) (p0n : Nat → Nat) (p0w : ST) (p0l : SL) (p1 : Int32) (p2 : Int32) (sz : Nat) (o : Int32) (hrun : fX2_freeRegister p0n p0w p0l p1 p2 = some o) : Met l yX2_freeRegister (wz yX2_freeRegister cX2_freeRegister 7 (Option.some Jvm.ClassFile.FieldType.int)) ({ frames := 2, cells := 0, slots := 0, locals := 45 } : Room) (va_Pc [.ref (p0a 0), .int p1, .int p2] (PRE zs dC dI (List.flatten ([(oX2 (p0a 0) p0a p0k p0n p0w p0l)] : List va_W)) (List.flatten ([(tX2 p0k)] : List (List (ClassId × FieldType)))) sz)) (va_Qi (fun (r : Int32) (_ : Unit) => r = o) (fun _ t => POST dC dI (List.flatten ([(oX2 (p0a 0) p0a p0k p0n p0w p0l)] : List va_W)) (List.flatten ([(tX2 p0k)] : List (List (ClassId × FieldType)))) (va_A (List.flatten ([(oX2 (p0a 0) p0a p0k p0n p0w p0l)] : List va_W)) sz) t) (va_A (List.flatten ([(oX2 (p0a 0) p0a p0k p0n p0w p0l)] : List va_W)) sz)) 0 0 (va_A (List.flatten ([(oX2 (p0a 0) p0a p0k p0n p0w p0l)] : List va_W)) sz) := by
  refine Met.ofW (cc := cX2_freeRegister) (maxL := 7) (ret := (Option.some Jvm.ClassFile.FieldType.int)) (by decide) rfl ?_
  intro p e s m args below meth c s₁ B hml hv
  obtain ⟨rfl, hsz, hP, hK, hD0, hE⟩ := hv
  have hx := B.exec
  have hb := B.bytes
  have hr := B.returns
  have hts0 := atoms_spec (ws := wz yX2_freeRegister cX2_freeRegister 7 (Option.some Jvm.ClassFile.FieldType.int)) B.pre
  have hts : ∀ w ∈ gw, w.before _ s = true := fun w h => hts0 w (List.mem_cons_of_mem _ h)
  have hown : s.vm.findClass RX2 = some m.cls := findClass_of_methodNamed B.named
  have hlocks := B.notSynchronized
  subst hsz
  have hD := hD0.self (sz := s.heap.size)
  refine gQ9 ?_
  intro Q hQ
  generalize hAe : va_A (List.flatten ([(oX2 (p0a 0) p0a p0k p0n p0w p0l)] : List va_W)) s.heap.size = A at hD hE hQ
  have hA : ∀ q : Nat, s.heap.size ≤ q → A q := fun q h => by rw [← hAe]; exact Or.inr h
  have hS : va_S A s.heap s.heap [] := va_S.rf
  have hP : va_P (dC, dI) cls (List.flatten ([(oX2 (p0a 0) p0a p0k p0n p0w p0l)] : List va_W)) s.heap := hP
  have hl := lv_entry ([.ref (p0a 0), .int p1, .int p2]) (n := 7) (Nat.le_of_ble_eq_true rfl)
  rw [lg_entry_eq]
  generalize (lg_sl ([.ref (p0a 0), .int p1, .int p2]) ++ List.replicate (7 - (lg_sl ([.ref (p0a 0), .int p1, .int p2])).length) Slot.unset).toArray = ls at hl ⊢
  have hl : lv_has ls 7 [(0, .ref (p0a 0)), (1, .int p1), (2, .int p2)] := hl
  obtain ⟨H, hHe⟩ : ∃ H, H = s.heap := ⟨_, rfl⟩
  obtain ⟨locs, hle⟩ : ∃ locs : List Loc, locs = [] := ⟨_, rfl⟩
  rw [← hHe] at hP
  have hS : va_S A s.heap H locs := by rw [hHe, hle]; exact hS
  show W p l e ({ frames := 2, cells := 0, slots := 0, locals := 45 } : Room) s m ([.ref (p0a 0), .int p1, .int p2] : List Value).toArray below meth c s.heap [] 0 0 Q (F0 m 0 ls [])
  rw [← hle]
  refine wH9 hHe ?_
  unfold fX2_freeRegister at hrun
  refine lv_iconst (v := 0) hx hb dX2_freeRegister_0 (by decide) ?_
  refine lv_istore_n (lv' := [(3, .int 0), (0, .ref (p0a 0)), (1, .int p1), (2, .int p2)]) hx hb dX2_freeRegister_1 rfl hl (by decide) rfl (fun ls hl => ?_)
  refine lv_iconst (v := 0) hx hb dX2_freeRegister_2 (by decide) ?_
  refine lv_istore (lv' := [(4, .int 0), (3, .int 0), (0, .ref (p0a 0)), (1, .int p1), (2, .int p2)]) hx hb dX2_freeRegister_3 hl (by decide) rfl (fun ls hl => ?_)
  have L5 : ∀ (n_5 : Nat) (v3_5 : Int32) (v4_5 : Int32) (o5 : Int32) (H : Heap) (locs : List Loc) (ls : Array Slot), (fX2_freeRegister_L5 p0n p0w p0l p1 n_5) v3_5 v4_5 = some o5 → va_P (dC, dI) cls (List.flatten ([(oX2 (p0a 0) p0a p0k p0n p0w p0l)] : List va_W)) H → va_D A (List.flatten ([(oX2 (p0a 0) p0a p0k p0n p0w p0l)] : List va_W)) → va_K (dC, dI) cls (List.flatten ([(tX2 p0k)] : List (List (ClassId × FieldType)))) s → va_S A s.heap H locs → lv_has ls 7 [(0, .ref (p0a 0)), (1, .int p1), (2, .int p2), (3, .int v3_5), (4, .int v4_5)] → (∀ (H : Heap) (locs : List Loc) (ls : Array Slot), va_P (dC, dI) cls (List.flatten ([(oX2 (p0a 0) p0a p0k p0n p0w p0l)] : List va_W)) H → va_D A (List.flatten ([(oX2 (p0a 0) p0a p0k p0n p0w p0l)] : List va_W)) → va_K (dC, dI) cls (List.flatten ([(tX2 p0k)] : List (List (ClassId × FieldType)))) s → va_S A s.heap H locs → lv_has ls 7 [(0, .ref (p0a 0)), (1, .int p1), (2, .int p2), (3, .int o5)] → W p l e ({ frames := 2, cells := 0, slots := 0, locals := 45 } : Room) s m ([.ref (p0a 0), .int p1, .int p2] : List Value).toArray below meth c H locs 0 0 Q (F0 m 73 ls [])) → W p l e ({ frames := 2, cells := 0, slots := 0, locals := 45 } : Room) s m ([.ref (p0a 0), .int p1, .int p2] : List Value).toArray below meth c H locs 0 0 Q (F0 m 5 ls []) := by
    intro n_5
    induction n_5 with
    | zero => intro v3_5 v4_5 o5 H locs ls hrun; exact (no9 rfl hrun).elim
    | succ n_5 IH5 =>
      intro v3_5 v4_5 o5 H locs ls hrun hP hD hK hS hl hk5
      unfold fX2_freeRegister_L5 at hrun
      refine lv_iload hx hb dX2_freeRegister_5 (lv_at hl 4 rfl) ?_
      refine lv_aload_n hx hb dX2_freeRegister_7 rfl (lv_at hl 0 rfl) ?_
      refine va_get (D := (dC, dI)) (ci := 9) (v := .int (p0w 0 2)) (C := RX2) (T := TX2) (N := 19) hx hb hts i_X2 hown hK hP 0 rfl rfl 2 (by decide) (hts _ qw669) (fun _ h9 => h9) rfl dX2_freeRegister_8 ?_
      rcases br9 hrun with ⟨hc1, hrun⟩ | ⟨hc1, hrun⟩
      · refine lv_icmp_ge (tgt := 73) hx hb dX2_freeRegister_11 (by decide) (fun _ => ?_) (fun c => absurd hc1 c)
        obtain rfl := (Option.some.inj hrun)
        exact hk5 _ _ _ hP hD hK hS (lv_sub hl [0, 1, 2, 3] rfl)
      · refine lv_icmp_ge (tgt := 73) hx hb dX2_freeRegister_11 (by decide) (fun c => absurd c hc1) (fun _ => ?_)
        refine lv_aload_n hx hb dX2_freeRegister_14 rfl (lv_at hl 0 rfl) ?_
        refine va_get (D := (dC, dI)) (ci := 9) (v := .ref (p0a 11)) (C := RX2) (T := TX2) (N := 19) hx hb hts i_X2 hown hK hP 0 rfl rfl 10 (by decide) (hts _ qw681) (fun _ h9 => h9) rfl dX2_freeRegister_15 ?_
        refine lv_iload_n hx hb dX2_freeRegister_18 rfl (lv_at hl 1 rfl) ?_
        refine lv_aload_n hx hb dX2_freeRegister_19 rfl (lv_at hl 0 rfl) ?_
        refine va_get (D := (dC, dI)) (ci := 9) (v := .int (p0w 0 2)) (C := RX2) (T := TX2) (N := 19) hx hb hts i_X2 hown hK hP 0 rfl rfl 2 (by decide) (hts _ qw669) (fun _ h9 => h9) rfl dX2_freeRegister_20 ?_
        refine lv_imul hx hb dX2_freeRegister_23 ?_
        refine lv_iload hx hb dX2_freeRegister_24 (lv_at hl 4 rfl) ?_
        refine lv_iadd hx hb dX2_freeRegister_26 ?_
        obtain ⟨hq2, hrun⟩ := chk9 hrun
        refine va_lald hx hb hK hP 7 6 rfl rfl (ixb_in hq2) dX2_freeRegister_27 ?_
        refine lv_lstore (lv' := [(5, .long (p0l 11 (nn ((p1 * (p0w 0 2)) + v4_5)))), (0, .ref (p0a 0)), (1, .int p1), (2, .int p2), (3, .int v3_5), (4, .int v4_5)]) hx hb dX2_freeRegister_28 hl (by decide) rfl (fun ls hl => ?_)
        have L30 : ∀ (n_30 : Nat) (v3_30 : Int32) (v5_30 : Int64) (o30 : Int32) (H : Heap) (locs : List Loc) (ls : Array Slot), (fX2_freeRegister_L30 p0n p0w v4_5 n_30) v3_30 v5_30 = some o30 → va_P (dC, dI) cls (List.flatten ([(oX2 (p0a 0) p0a p0k p0n p0w p0l)] : List va_W)) H → va_D A (List.flatten ([(oX2 (p0a 0) p0a p0k p0n p0w p0l)] : List va_W)) → va_K (dC, dI) cls (List.flatten ([(tX2 p0k)] : List (List (ClassId × FieldType)))) s → va_S A s.heap H locs → lv_has ls 7 [(0, .ref (p0a 0)), (1, .int p1), (2, .int p2), (3, .int v3_30), (4, .int v4_5), (5, .long v5_30)] → (∀ (H : Heap) (locs : List Loc) (ls : Array Slot), va_P (dC, dI) cls (List.flatten ([(oX2 (p0a 0) p0a p0k p0n p0w p0l)] : List va_W)) H → va_D A (List.flatten ([(oX2 (p0a 0) p0a p0k p0n p0w p0l)] : List va_W)) → va_K (dC, dI) cls (List.flatten ([(tX2 p0k)] : List (List (ClassId × FieldType)))) s → va_S A s.heap H locs → lv_has ls 7 [(0, .ref (p0a 0)), (1, .int p1), (2, .int p2), (3, .int o30), (4, .int v4_5)] → W p l e ({ frames := 2, cells := 0, slots := 0, locals := 45 } : Room) s m ([.ref (p0a 0), .int p1, .int p2] : List Value).toArray below meth c H locs 0 0 Q (F0 m 67 ls [])) → W p l e ({ frames := 2, cells := 0, slots := 0, locals := 45 } : Room) s m ([.ref (p0a 0), .int p1, .int p2] : List Value).toArray below meth c H locs 0 0 Q (F0 m 30 ls []) := by
          intro n_30
          induction n_30 with
          | zero => intro v3_30 v5_30 o30 H locs ls hrun; exact (no9 rfl hrun).elim
          | succ n_30 IH30 =>
            intro v3_30 v5_30 o30 H locs ls hrun hP hD hK hS hl hk30
            unfold fX2_freeRegister_L30 at hrun
            refine lv_lload hx hb dX2_freeRegister_30 (lv_at hl 5 rfl) ?_
            refine lv_lconst (v := 0) hx hb dX2_freeRegister_32 (by decide) ?_
            refine W.lcmp hx hb dX2_freeRegister_33 ?_
            rcases br9 hrun with ⟨hc3, hrun⟩ | ⟨hc3, hrun⟩
            · refine lv_if_eq (tgt := 67) hx hb dX2_freeRegister_34 (by decide) (fun _ => ?_) (fun c => absurd hc3 c)
              obtain rfl := (Option.some.inj hrun)
              exact hk30 _ _ _ hP hD hK hS (lv_sub hl [0, 1, 2, 3, 4] rfl)
            · refine lv_if_eq (tgt := 67) hx hb dX2_freeRegister_34 (by decide) (fun c => absurd c hc3) (fun _ => ?_)
              refine lv_iload_n hx hb dX2_freeRegister_37 rfl (lv_at hl 3 rfl) ?_
              refine lv_aload_n hx hb dX2_freeRegister_38 rfl (lv_at hl 0 rfl) ?_
              refine lv_iload hx hb dX2_freeRegister_39 (lv_at hl 4 rfl) ?_
              refine lv_bipush (v := 64) hx hb dX2_freeRegister_41 (by decide) ?_
              refine lv_imul hx hb dX2_freeRegister_43 ?_
              refine lv_lload hx hb dX2_freeRegister_44 (lv_at hl 5 rfl) ?_
              obtain ⟨o_4, hc_4, hrun⟩ := bnd9 hrun
              have hPx : va_P (dC, dI) cls ((List.flatten ([] : List va_W)) ++ (List.flatten ([(oX2 (p0a 0) p0a p0k p0n p0w p0l)] : List va_W))) H := vP_fa (vP_perm hP (bP (List.Perm.refl _)))
              have hDx : va_D A ((List.flatten ([] : List va_W)) ++ (List.flatten ([(oX2 (p0a 0) p0a p0k p0n p0w p0l)] : List va_W))) := vD_fa (vD_perm hD (bP (List.Perm.refl _)))
              have hKx : va_K (dC, dI) cls ((List.flatten ([] : List (List (ClassId × FieldType)))) ++ (List.flatten ([(tX2 p0k)] : List (List (ClassId × FieldType))))) s := vK_fa (vK_perm hK (bP (List.Perm.refl _)))
              have hPc := vP_l hPx
              have hDc := vD_l hDx
              have hKc := vK_l hKx
              have hFc := vfree hDx hS hA
              refine va_calli (va_runSN (As := [.long v5_30]) (rest := [.int (v4_5 * 64), .ref (p0a 0), .int v3_30]) ⟨hx, hb, hml, hown, hts⟩ (kX11_lowest l dC dI (p0 := v5_30) (sz := _) (o := o_4) (hrun := hc_4)) ⟨(va_cnB 1 hts (gi_z qw775) rfl rfl rfl (hE.nw (List.mem_append_right _ (tbl_9 (i := 34) rfl)) rfl) (hts _ qw129) (by decide +kernel) ⟨Nat.le_of_ble_eq_true rfl, Nat.le_of_ble_eq_true rfl⟩), (hts _ qw776), trivial⟩ ⟨PRE.blind, PRE.of hE hS hFc hPc hKc hDc⟩ rfl rfl hl.1 rfl (lv_room (Nat.le_of_ble_eq_true rfl)) dX2_freeRegister_46 ⟨(Nat.le_of_ble_eq_true rfl), (Nat.le_of_ble_eq_true rfl)⟩) hS (fun q _ h => hFc q h) hFc (fun r5 u t H locs ht hvm hw hB hz1 hk1 hS => ?_)
              obtain ⟨b1, b2, b3⟩ := hB
              rw [ht] at b1
              obtain ⟨hP, hD, hK⟩ := JOINC (wc := (List.flatten ([] : List va_W))) (wr := (List.flatten ([(oX2 (p0a 0) p0a p0k p0n p0w p0l)] : List va_W))) (w1 := (List.flatten ([] : List va_W))) (t1 := (List.flatten ([] : List (List (ClassId × FieldType))))) hPx hDx hKx hk1 hFc b1 (va_K.moved hvm.symm b2) b3
              have hP : va_P (dC, dI) cls (List.flatten ([(oX2 (p0a 0) p0a p0k p0n p0w p0l)] : List va_W)) H := vP_perm (vP_fb hP) (bP (List.Perm.refl _))
              have hD : va_D A (List.flatten ([(oX2 (p0a 0) p0a p0k p0n p0w p0l)] : List va_W)) := vD_perm (vD_fb hD) (bP (List.Perm.refl _))
              have hK : va_K (dC, dI) cls (List.flatten ([(tX2 p0k)] : List (List (ClassId × FieldType)))) s := vK_perm (vK_fb hK) (bP (List.Perm.refl _))
              obtain rfl : o_4 = r5 := hw.symm
              refine lv_iadd hx hb dX2_freeRegister_49 ?_
              obtain ⟨o_6, hc_6, hrun⟩ := bnd9 hrun
              have hPx : va_P (dC, dI) cls ((List.flatten ([(oX2 (p0a 0) p0a p0k p0n p0w p0l)] : List va_W)) ++ (List.flatten ([] : List va_W))) H := vP_fa (vP_perm hP (bP (List.Perm.refl _)))
              have hDx : va_D A ((List.flatten ([(oX2 (p0a 0) p0a p0k p0n p0w p0l)] : List va_W)) ++ (List.flatten ([] : List va_W))) := vD_fa (vD_perm hD (bP (List.Perm.refl _)))
              have hKx : va_K (dC, dI) cls ((List.flatten ([(tX2 p0k)] : List (List (ClassId × FieldType)))) ++ (List.flatten ([] : List (List (ClassId × FieldType))))) s := vK_fa (vK_perm hK (bP (List.Perm.refl _)))
              have hPc := vP_l hPx
              have hDc := vD_l hDx
              have hKc := vK_l hKx
              have hFc := vfree hDx hS hA
              refine va_calli (va_runV (As := [.int ((v4_5 * 64) + o_4)]) (rest := [.int v3_30]) ⟨hx, hb, hml, hown, hts⟩ (kX2_registerBit l dC dI (p0a := p0a) (p0k := p0k) (p0n := p0n) (p0w := p0w) (p0l := p0l) (p1 := ((v4_5 * 64) + o_4)) (sz := _) (o := o_6) (hrun := hc_6)) (cwV 1 hts (gi_V qw830 qw831 qw832 qw694 (gi_z qw829)) rfl rfl rfl (by decide +kernel) ⟨Nat.le_of_ble_eq_true rfl, Nat.le_of_ble_eq_true rfl⟩) ⟨PRE.blind, va_recv hKc hPc (ci := 9) (q0 := 0) rfl rfl, PRE.of hE hS hFc hPc hKc hDc⟩ rfl rfl hl.1 rfl (lv_room (Nat.le_of_ble_eq_true rfl)) dX2_freeRegister_50 ⟨(Nat.le_of_ble_eq_true rfl), (Nat.le_of_ble_eq_true rfl)⟩) hS (fun q _ h => hFc q h) hFc (fun r7 u t H locs ht hvm hw hB hz1 hk1 hS => ?_)
              obtain ⟨b1, b2, b3⟩ := hB
              rw [ht] at b1
              obtain ⟨hP, hD, hK⟩ := JOINC (wc := (List.flatten ([(oX2 (p0a 0) p0a p0k p0n p0w p0l)] : List va_W))) (wr := (List.flatten ([] : List va_W))) (w1 := (List.flatten ([(oX2 (p0a 0) p0a p0k p0n p0w p0l)] : List va_W))) (t1 := (List.flatten ([(tX2 p0k)] : List (List (ClassId × FieldType))))) hPx hDx hKx hk1 hFc b1 (va_K.moved hvm.symm b2) b3
              have hP : va_P (dC, dI) cls (List.flatten ([(oX2 (p0a 0) p0a p0k p0n p0w p0l)] : List va_W)) H := vP_perm (vP_fb hP) (bP (List.Perm.refl _))
              have hD : va_D A (List.flatten ([(oX2 (p0a 0) p0a p0k p0n p0w p0l)] : List va_W)) := vD_perm (vD_fb hD) (bP (List.Perm.refl _))
              have hK : va_K (dC, dI) cls (List.flatten ([(tX2 p0k)] : List (List (ClassId × FieldType)))) s := vK_perm (vK_fb hK) (bP (List.Perm.refl _))
              obtain rfl : o_6 = r7 := hw.symm
              refine lv_ior hx hb dX2_freeRegister_53 ?_
              refine lv_istore_n (lv' := [(3, .int (v3_30 ||| o_6)), (0, .ref (p0a 0)), (1, .int p1), (2, .int p2), (4, .int v4_5), (5, .long v5_30)]) hx hb dX2_freeRegister_54 rfl hl (by decide) rfl (fun ls hl => ?_)
              refine lv_lload hx hb dX2_freeRegister_55 (lv_at hl 5 rfl) ?_
              refine lv_lload hx hb dX2_freeRegister_57 (lv_at hl 5 rfl) ?_
              refine lv_lconst (v := 1) hx hb dX2_freeRegister_59 (by decide) ?_
              refine lv_lsub hx hb dX2_freeRegister_60 ?_
              refine lv_land hx hb dX2_freeRegister_61 ?_
              refine lv_lstore (lv' := [(5, .long (v5_30 &&& (v5_30 - (1 : Int64)))), (3, .int (v3_30 ||| o_6)), (0, .ref (p0a 0)), (1, .int p1), (2, .int p2), (4, .int v4_5)]) hx hb dX2_freeRegister_62 hl (by decide) rfl (fun ls hl => ?_)
              refine lv_goto (tgt := 30) hx hb dX2_freeRegister_64 (by decide) ?_
              exact IH30 (v3_30 ||| o_6) (v5_30 &&& (v5_30 - (1 : Int64))) o30 _ _ _ hrun hP hD hK hS (lv_sub hl [2, 3, 4, 1, 5, 0] rfl) hk30
        obtain ⟨o30, hc30, hrun⟩ := bnd9 hrun
        refine L30 NF v3_5 (p0l 11 (nn ((p1 * (p0w 0 2)) + v4_5))) o30 _ _ _ hc30 hP hD hK hS (lv_sub hl [1, 2, 3, 4, 5, 0] rfl) ?_
        intro H locs ls hP hD hK hS hl
        have hl := hl
        refine lv_iinc (v := (v4_5 + 1)) (lv' := [(4, .int (v4_5 + 1)), (0, .ref (p0a 0)), (1, .int p1), (2, .int p2), (3, .int o30)]) hx hb dX2_freeRegister_67 hl (k := 4) rfl rfl (by decide) rfl (fun ls hl => ?_)
        refine lv_goto (tgt := 5) hx hb dX2_freeRegister_70 (by decide) ?_
        exact IH5 o30 (v4_5 + 1) o5 _ _ _ hrun hP hD hK hS (lv_sub hl [1, 2, 3, 4, 0] rfl) hk5
  obtain ⟨o5, hc5, hrun⟩ := bnd9 hrun
  refine L5 NF 0 0 o5 _ _ _ hc5 hP hD hK hS (lv_sub hl [2, 3, 4, 1, 0] rfl) ?_
  intro H locs ls hP hD hK hS hl
  have hl := hl
  refine lv_aload_n hx hb dX2_freeRegister_73 rfl (lv_at hl 0 rfl) ?_
  refine va_get (D := (dC, dI)) (ci := 9) (v := .ref (p0a 12)) (C := RX2) (T := TX2) (N := 19) hx hb hts i_X2 hown hK hP 0 rfl rfl 11 (by decide) (hts _ qw682) (fun _ h9 => h9) rfl dX2_freeRegister_74 ?_
  refine lv_iload_n hx hb dX2_freeRegister_77 rfl (lv_at hl 1 rfl) ?_
  obtain ⟨hq8, hrun⟩ := chk9 hrun
  refine va_iald hx hb hK hP 8 7 rfl rfl (ixb_in hq8) dX2_freeRegister_78 ?_
  have J95 : ∀ (v3_95 : Int32) (H : Heap) (locs : List Loc) (ls : Array Slot), (fX2_freeRegister_J95 p0n p0w p0l p1 p2 v3_95) = some o → va_P (dC, dI) cls (List.flatten ([(oX2 (p0a 0) p0a p0k p0n p0w p0l)] : List va_W)) H → va_D A (List.flatten ([(oX2 (p0a 0) p0a p0k p0n p0w p0l)] : List va_W)) → va_K (dC, dI) cls (List.flatten ([(tX2 p0k)] : List (List (ClassId × FieldType)))) s → va_S A s.heap H locs → lv_has ls 7 [(0, .ref (p0a 0)), (1, .int p1), (2, .int p2), (3, .int v3_95)] → W p l e ({ frames := 2, cells := 0, slots := 0, locals := 45 } : Room) s m ([.ref (p0a 0), .int p1, .int p2] : List Value).toArray below meth c H locs 0 0 Q (F0 m 95 ls []) := by
    intro v3_95 H locs ls hrun hP hD hK hS hl 
    unfold fX2_freeRegister_J95 at hrun
    refine lv_iload_n hx hb dX2_freeRegister_95 rfl (lv_at hl 1 rfl) ?_
    refine lv_aload_n hx hb dX2_freeRegister_96 rfl (lv_at hl 0 rfl) ?_
    refine va_get (D := (dC, dI)) (ci := 9) (v := .int (p0w 0 0)) (C := RX2) (T := TX2) (N := 19) hx hb hts i_X2 hown hK hP 0 rfl rfl 0 (by decide) (hts _ qw667) (fun _ h9 => h9) rfl dX2_freeRegister_97 ?_
    have J147 : ∀ (v3_147 : Int32) (H : Heap) (locs : List Loc) (ls : Array Slot), (fX2_freeRegister_J147 p2 v3_147) = some o → va_P (dC, dI) cls (List.flatten ([(oX2 (p0a 0) p0a p0k p0n p0w p0l)] : List va_W)) H → va_D A (List.flatten ([(oX2 (p0a 0) p0a p0k p0n p0w p0l)] : List va_W)) → va_K (dC, dI) cls (List.flatten ([(tX2 p0k)] : List (List (ClassId × FieldType)))) s → va_S A s.heap H locs → lv_has ls 7 [(2, .int p2), (3, .int v3_147)] → W p l e ({ frames := 2, cells := 0, slots := 0, locals := 45 } : Room) s m ([.ref (p0a 0), .int p1, .int p2] : List Value).toArray below meth c H locs 0 0 Q (F0 m 147 ls []) := by
      intro v3_147 H locs ls hrun hP hD hK hS hl 
      unfold fX2_freeRegister_J147 at hrun
      refine lv_iconst (v := 0) hx hb dX2_freeRegister_147 (by decide) ?_
      refine lv_istore (lv' := [(4, .int 0), (2, .int p2), (3, .int v3_147)]) hx hb dX2_freeRegister_148 hl (by decide) rfl (fun ls hl => ?_)
      have L150 : ∀ (n_150 : Nat) (v4_150 : Int32) (o150 : (Sum Int32 Unit)) (H : Heap) (locs : List Loc) (ls : Array Slot), (fX2_freeRegister_L150 p2 v3_147 n_150) v4_150 = some o150 → va_P (dC, dI) cls (List.flatten ([(oX2 (p0a 0) p0a p0k p0n p0w p0l)] : List va_W)) H → va_D A (List.flatten ([(oX2 (p0a 0) p0a p0k p0n p0w p0l)] : List va_W)) → va_K (dC, dI) cls (List.flatten ([(tX2 p0k)] : List (List (ClassId × FieldType)))) s → va_S A s.heap H locs → lv_has ls 7 [(2, .int p2), (3, .int v3_147), (4, .int v4_150)] → (∀ r, o150 = Sum.inl r → r = o) → (∀ (t150 : Unit), o150 = Sum.inr t150 → ∀ (H : Heap) (locs : List Loc) (ls : Array Slot), va_P (dC, dI) cls (List.flatten ([(oX2 (p0a 0) p0a p0k p0n p0w p0l)] : List va_W)) H → va_D A (List.flatten ([(oX2 (p0a 0) p0a p0k p0n p0w p0l)] : List va_W)) → va_K (dC, dI) cls (List.flatten ([(tX2 p0k)] : List (List (ClassId × FieldType)))) s → va_S A s.heap H locs → lv_has ls 7 [] → W p l e ({ frames := 2, cells := 0, slots := 0, locals := 45 } : Room) s m ([.ref (p0a 0), .int p1, .int p2] : List Value).toArray below meth c H locs 0 0 Q (F0 m 174 ls [])) → W p l e ({ frames := 2, cells := 0, slots := 0, locals := 45 } : Room) s m ([.ref (p0a 0), .int p1, .int p2] : List Value).toArray below meth c H locs 0 0 Q (F0 m 150 ls []) := by
        intro n_150
        induction n_150 with
        | zero => intro v4_150 o150 H locs ls hrun; exact (no9 rfl hrun).elim
        | succ n_150 IH150 =>
          intro v4_150 o150 H locs ls hrun hP hD hK hS hl hr150 hk150
          unfold fX2_freeRegister_L150 at hrun
          refine lv_iload hx hb dX2_freeRegister_150 (lv_at hl 2 rfl) ?_
          refine lv_iload_n hx hb dX2_freeRegister_152 rfl (lv_at hl 0 rfl) ?_
          rcases br9 hrun with ⟨hc9, hrun⟩ | ⟨hc9, hrun⟩
          · refine lv_icmp_ge (tgt := 174) hx hb dX2_freeRegister_153 (by decide) (fun _ => ?_) (fun c => absurd hc9 c)
            obtain rfl := (Option.some.inj hrun)
            exact hk150 _ rfl _ _ _ hP hD hK hS (lv_sub hl [] rfl)
          · refine lv_icmp_ge (tgt := 174) hx hb dX2_freeRegister_153 (by decide) (fun c => absurd c hc9) (fun _ => ?_)
            refine lv_iload_n hx hb dX2_freeRegister_156 rfl (lv_at hl 1 rfl) ?_
            refine lv_iload hx hb dX2_freeRegister_157 (lv_at hl 2 rfl) ?_
            refine lv_ishr hx hb dX2_freeRegister_159 ?_
            refine lv_iconst (v := 1) hx hb dX2_freeRegister_160 (by decide) ?_
            refine lv_iand hx hb dX2_freeRegister_161 ?_
            rcases br9 hrun with ⟨hc10, hrun⟩ | ⟨hc10, hrun⟩
            · refine lv_if_ne (tgt := 168) hx hb dX2_freeRegister_162 (by decide) (fun c => absurd hc10 c) (fun _ => ?_)
              refine lv_iload hx hb dX2_freeRegister_165 (lv_at hl 2 rfl) ?_
              have ho9 : v4_150 = o := hr150 _ (Option.some.inj hrun).symm
              have hP9 : va_P (dC, dI) cls (List.flatten ([(oX2 (p0a 0) p0a p0k p0n p0w p0l)] : List va_W)) H := by first | exact hP | (rw [← ho9]; exact hP)
              have hD9 : va_D A (List.flatten ([(oX2 (p0a 0) p0a p0k p0n p0w p0l)] : List va_W)) := by first | exact hD | (rw [← ho9]; exact hD)
              subst hQ
              exact W.iret (v := v4_150) hx hb hr (fun t ht hW => ⟨⟨v4_150, (), rfl, (by rw [← ho9]), ⟨by rw [ht]; exact hP9, va_K.moved hW.alike hK, hD9⟩⟩, hS.F ht⟩) hS.2.2 dX2_freeRegister_167
            · refine lv_if_ne (tgt := 168) hx hb dX2_freeRegister_162 (by decide) (fun _ => ?_) (fun c => absurd c hc10)
              refine lv_iinc (v := (v4_150 + 1)) (lv' := [(4, .int (v4_150 + 1)), (2, .int p2), (3, .int v3_147)]) hx hb dX2_freeRegister_168 hl (k := 2) rfl rfl (by decide) rfl (fun ls hl => ?_)
              refine lv_goto (tgt := 150) hx hb dX2_freeRegister_171 (by decide) ?_
              exact IH150 (v4_150 + 1) o150 _ _ _ hrun hP hD hK hS (lv_sub hl [1, 2, 0] rfl) hr150 hk150
      obtain ⟨o150, hc150, hrun⟩ := bnd9 hrun
      refine L150 NF 0 o150 _ _ _ hc150 hP hD hK hS (lv_sub hl [1, 2, 0] rfl) (fun r e9 => by subst e9; exact Option.some.inj hrun) ?_
      intro t150 e9
      subst e9
      replace hrun := el9 hrun
      intro H locs ls hP hD hK hS hl
      have hl := hl
      refine lv_iconst (v := (-1)) hx hb dX2_freeRegister_174 (by decide) ?_
      have ho9 : (-1) = o := Option.some.inj hrun
      have hP9 : va_P (dC, dI) cls (List.flatten ([(oX2 (p0a 0) p0a p0k p0n p0w p0l)] : List va_W)) H := by first | exact hP | (rw [← ho9]; exact hP)
      have hD9 : va_D A (List.flatten ([(oX2 (p0a 0) p0a p0k p0n p0w p0l)] : List va_W)) := by first | exact hD | (rw [← ho9]; exact hD)
      subst hQ
      exact W.iret (v := (-1)) hx hb hr (fun t ht hW => ⟨⟨(-1), (), rfl, (by rw [← ho9]), ⟨by rw [ht]; exact hP9, va_K.moved hW.alike hK, hD9⟩⟩, hS.F ht⟩) hS.2.2 dX2_freeRegister_175
    rcases br9 hrun with ⟨hc11, hrun⟩ | ⟨hc11, hrun⟩
    · refine lv_icmp_ge (tgt := 147) hx hb dX2_freeRegister_100 (by decide) (fun _ => ?_) (fun c => absurd hc11 c)
      exact J147 v3_95 _ _ _ hrun hP hD hK hS (lv_sub hl [2, 3] rfl)
    · refine lv_icmp_ge (tgt := 147) hx hb dX2_freeRegister_100 (by decide) (fun c => absurd c hc11) (fun _ => ?_)
      refine lv_aload_n hx hb dX2_freeRegister_103 rfl (lv_at hl 0 rfl) ?_
      refine va_get (D := (dC, dI)) (ci := 9) (v := .int (p0w 0 0)) (C := RX2) (T := TX2) (N := 19) hx hb hts i_X2 hown hK hP 0 rfl rfl 0 (by decide) (hts _ qw667) (fun _ h9 => h9) rfl dX2_freeRegister_104 ?_
      refine lv_istore (lv' := [(4, .int (p0w 0 0)), (0, .ref (p0a 0)), (1, .int p1), (2, .int p2), (3, .int v3_95)]) hx hb dX2_freeRegister_107 hl (by decide) rfl (fun ls hl => ?_)
      have L109 : ∀ (n_109 : Nat) (v3_109 : Int32) (v4_109 : Int32) (o109 : Int32) (H : Heap) (locs : List Loc) (ls : Array Slot), (fX2_freeRegister_L109 p0n p0w p0l p1 n_109) v3_109 v4_109 = some o109 → va_P (dC, dI) cls (List.flatten ([(oX2 (p0a 0) p0a p0k p0n p0w p0l)] : List va_W)) H → va_D A (List.flatten ([(oX2 (p0a 0) p0a p0k p0n p0w p0l)] : List va_W)) → va_K (dC, dI) cls (List.flatten ([(tX2 p0k)] : List (List (ClassId × FieldType)))) s → va_S A s.heap H locs → lv_has ls 7 [(0, .ref (p0a 0)), (1, .int p1), (2, .int p2), (3, .int v3_109), (4, .int v4_109)] → (∀ (H : Heap) (locs : List Loc) (ls : Array Slot), va_P (dC, dI) cls (List.flatten ([(oX2 (p0a 0) p0a p0k p0n p0w p0l)] : List va_W)) H → va_D A (List.flatten ([(oX2 (p0a 0) p0a p0k p0n p0w p0l)] : List va_W)) → va_K (dC, dI) cls (List.flatten ([(tX2 p0k)] : List (List (ClassId × FieldType)))) s → va_S A s.heap H locs → lv_has ls 7 [(2, .int p2), (3, .int o109)] → W p l e ({ frames := 2, cells := 0, slots := 0, locals := 45 } : Room) s m ([.ref (p0a 0), .int p1, .int p2] : List Value).toArray below meth c H locs 0 0 Q (F0 m 147 ls [])) → W p l e ({ frames := 2, cells := 0, slots := 0, locals := 45 } : Room) s m ([.ref (p0a 0), .int p1, .int p2] : List Value).toArray below meth c H locs 0 0 Q (F0 m 109 ls []) := by
        intro n_109
        induction n_109 with
        | zero => intro v3_109 v4_109 o109 H locs ls hrun; exact (no9 rfl hrun).elim
        | succ n_109 IH109 =>
          intro v3_109 v4_109 o109 H locs ls hrun hP hD hK hS hl hk109
          unfold fX2_freeRegister_L109 at hrun
          refine lv_iload hx hb dX2_freeRegister_109 (lv_at hl 4 rfl) ?_
          refine lv_aload_n hx hb dX2_freeRegister_111 rfl (lv_at hl 0 rfl) ?_
          refine va_get (D := (dC, dI)) (ci := 9) (v := .int (p0w 0 1)) (C := RX2) (T := TX2) (N := 19) hx hb hts i_X2 hown hK hP 0 rfl rfl 1 (by decide) (hts _ qw668) (fun _ h9 => h9) rfl dX2_freeRegister_112 ?_
          rcases br9 hrun with ⟨hc12, hrun⟩ | ⟨hc12, hrun⟩
          · refine lv_icmp_ge (tgt := 147) hx hb dX2_freeRegister_115 (by decide) (fun _ => ?_) (fun c => absurd hc12 c)
            obtain rfl := (Option.some.inj hrun)
            exact hk109 _ _ _ hP hD hK hS (lv_sub hl [2, 3] rfl)
          · refine lv_icmp_ge (tgt := 147) hx hb dX2_freeRegister_115 (by decide) (fun c => absurd c hc12) (fun _ => ?_)
            refine lv_aload_n hx hb dX2_freeRegister_118 rfl (lv_at hl 0 rfl) ?_
            refine lv_aload_n hx hb dX2_freeRegister_119 rfl (lv_at hl 0 rfl) ?_
            refine va_get (D := (dC, dI)) (ci := 9) (v := .ref (p0a 11)) (C := RX2) (T := TX2) (N := 19) hx hb hts i_X2 hown hK hP 0 rfl rfl 10 (by decide) (hts _ qw681) (fun _ h9 => h9) rfl dX2_freeRegister_120 ?_
            refine lv_iload hx hb dX2_freeRegister_123 (lv_at hl 4 rfl) ?_
            refine lv_iload_n hx hb dX2_freeRegister_125 rfl (lv_at hl 1 rfl) ?_
            obtain ⟨o_13, hc_13, hrun⟩ := bnd9 hrun
            have hPx : va_P (dC, dI) cls ((List.flatten ([(oX2 (p0a 0) p0a p0k p0n p0w p0l)] : List va_W)) ++ (List.flatten ([] : List va_W))) H := vP_fa (vP_perm hP (bP (List.Perm.refl _)))
            have hDx : va_D A ((List.flatten ([(oX2 (p0a 0) p0a p0k p0n p0w p0l)] : List va_W)) ++ (List.flatten ([] : List va_W))) := vD_fa (vD_perm hD (bP (List.Perm.refl _)))
            have hKx : va_K (dC, dI) cls ((List.flatten ([(tX2 p0k)] : List (List (ClassId × FieldType)))) ++ (List.flatten ([] : List (List (ClassId × FieldType))))) s := vK_fa (vK_perm hK (bP (List.Perm.refl _)))
            have hPc := vP_l hPx
            have hDc := vD_l hDx
            have hKc := vK_l hKx
            have hFc := vfree hDx hS hA
            refine va_calli (va_runV (As := [.ref (p0a 11), .int v4_109, .int p1]) (rest := []) ⟨hx, hb, hml, hown, hts⟩ (kX2_isIn_a1_p0_10 l dC dI (p0a := p0a) (p0k := p0k) (p0n := p0n) (p0w := p0w) (p0l := p0l) (p2 := v4_109) (p3 := p1) (sz := _) (o := o_13) (hrun := hc_13)) (cwV 3 hts (gi_V qw709 qw710 qw711 qw694 (gi_z qw708)) rfl rfl rfl (by decide +kernel) ⟨Nat.le_of_ble_eq_true rfl, Nat.le_of_ble_eq_true rfl⟩) ⟨PRE.blind, va_recv hKc hPc (ci := 9) (q0 := 0) rfl rfl, PRE.of hE hS hFc hPc hKc hDc⟩ rfl rfl hl.1 rfl (lv_room (Nat.le_of_ble_eq_true rfl)) dX2_freeRegister_126 ⟨(Nat.le_of_ble_eq_true rfl), (Nat.le_of_ble_eq_true rfl)⟩) hS (fun q _ h => hFc q h) hFc (fun r14 u t H locs ht hvm hw hB hz1 hk1 hS => ?_)
            obtain ⟨b1, b2, b3⟩ := hB
            rw [ht] at b1
            obtain ⟨hP, hD, hK⟩ := JOINC (wc := (List.flatten ([(oX2 (p0a 0) p0a p0k p0n p0w p0l)] : List va_W))) (wr := (List.flatten ([] : List va_W))) (w1 := (List.flatten ([(oX2 (p0a 0) p0a p0k p0n p0w p0l)] : List va_W))) (t1 := (List.flatten ([(tX2 p0k)] : List (List (ClassId × FieldType))))) hPx hDx hKx hk1 hFc b1 (va_K.moved hvm.symm b2) b3
            have hP : va_P (dC, dI) cls (List.flatten ([(oX2 (p0a 0) p0a p0k p0n p0w p0l)] : List va_W)) H := vP_perm (vP_fb hP) (bP (List.Perm.refl _))
            have hD : va_D A (List.flatten ([(oX2 (p0a 0) p0a p0k p0n p0w p0l)] : List va_W)) := vD_perm (vD_fb hD) (bP (List.Perm.refl _))
            have hK : va_K (dC, dI) cls (List.flatten ([(tX2 p0k)] : List (List (ClassId × FieldType)))) s := vK_perm (vK_fb hK) (bP (List.Perm.refl _))
            obtain rfl : o_13 = r14 := hw.symm
            have J141 : ∀ (v3_141 : Int32) (H : Heap) (locs : List Loc) (ls : Array Slot), (fX2_freeRegister_J141 (fX2_freeRegister_L109 p0n p0w p0l p1 n_109) v4_109 v3_141) = some o109 → va_P (dC, dI) cls (List.flatten ([(oX2 (p0a 0) p0a p0k p0n p0w p0l)] : List va_W)) H → va_D A (List.flatten ([(oX2 (p0a 0) p0a p0k p0n p0w p0l)] : List va_W)) → va_K (dC, dI) cls (List.flatten ([(tX2 p0k)] : List (List (ClassId × FieldType)))) s → va_S A s.heap H locs → lv_has ls 7 [(0, .ref (p0a 0)), (1, .int p1), (2, .int p2), (3, .int v3_141), (4, .int v4_109)] → W p l e ({ frames := 2, cells := 0, slots := 0, locals := 45 } : Room) s m ([.ref (p0a 0), .int p1, .int p2] : List Value).toArray below meth c H locs 0 0 Q (F0 m 141 ls []) := by
              intro v3_141 H locs ls hrun hP hD hK hS hl 
              unfold fX2_freeRegister_J141 at hrun
              refine lv_iinc (v := (v4_109 + 1)) (lv' := [(4, .int (v4_109 + 1)), (0, .ref (p0a 0)), (1, .int p1), (2, .int p2), (3, .int v3_141)]) hx hb dX2_freeRegister_141 hl (k := 4) rfl rfl (by decide) rfl (fun ls hl => ?_)
              refine lv_goto (tgt := 109) hx hb dX2_freeRegister_144 (by decide) ?_
              exact IH109 v3_141 (v4_109 + 1) o109 _ _ _ hrun hP hD hK hS (lv_sub hl [1, 2, 3, 4, 0] rfl) hk109
            rcases br9 hrun with ⟨hc15, hrun⟩ | ⟨hc15, hrun⟩
            · refine lv_if_eq (tgt := 141) hx hb dX2_freeRegister_129 (by decide) (fun _ => ?_) (fun c => absurd hc15 c)
              exact J141 v3_109 _ _ _ hrun hP hD hK hS (lv_sub hl [0, 1, 2, 3, 4] rfl)
            · refine lv_if_eq (tgt := 141) hx hb dX2_freeRegister_129 (by decide) (fun c => absurd c hc15) (fun _ => ?_)
              refine lv_iload_n hx hb dX2_freeRegister_132 rfl (lv_at hl 3 rfl) ?_
              refine lv_aload_n hx hb dX2_freeRegister_133 rfl (lv_at hl 0 rfl) ?_
              refine lv_iload hx hb dX2_freeRegister_134 (lv_at hl 4 rfl) ?_
              obtain ⟨o_16, hc_16, hrun⟩ := bnd9 hrun
              have hPx : va_P (dC, dI) cls ((List.flatten ([(oX2 (p0a 0) p0a p0k p0n p0w p0l)] : List va_W)) ++ (List.flatten ([] : List va_W))) H := vP_fa (vP_perm hP (bP (List.Perm.refl _)))
              have hDx : va_D A ((List.flatten ([(oX2 (p0a 0) p0a p0k p0n p0w p0l)] : List va_W)) ++ (List.flatten ([] : List va_W))) := vD_fa (vD_perm hD (bP (List.Perm.refl _)))
              have hKx : va_K (dC, dI) cls ((List.flatten ([(tX2 p0k)] : List (List (ClassId × FieldType)))) ++ (List.flatten ([] : List (List (ClassId × FieldType))))) s := vK_fa (vK_perm hK (bP (List.Perm.refl _)))
              have hPc := vP_l hPx
              have hDc := vD_l hDx
              have hKc := vK_l hKx
              have hFc := vfree hDx hS hA
              refine va_calli (va_runV (As := [.int v4_109]) (rest := [.int v3_109]) ⟨hx, hb, hml, hown, hts⟩ (kX2_registerBit l dC dI (p0a := p0a) (p0k := p0k) (p0n := p0n) (p0w := p0w) (p0l := p0l) (p1 := v4_109) (sz := _) (o := o_16) (hrun := hc_16)) (cwV 1 hts (gi_V qw830 qw831 qw832 qw694 (gi_z qw829)) rfl rfl rfl (by decide +kernel) ⟨Nat.le_of_ble_eq_true rfl, Nat.le_of_ble_eq_true rfl⟩) ⟨PRE.blind, va_recv hKc hPc (ci := 9) (q0 := 0) rfl rfl, PRE.of hE hS hFc hPc hKc hDc⟩ rfl rfl hl.1 rfl (lv_room (Nat.le_of_ble_eq_true rfl)) dX2_freeRegister_136 ⟨(Nat.le_of_ble_eq_true rfl), (Nat.le_of_ble_eq_true rfl)⟩) hS (fun q _ h => hFc q h) hFc (fun r17 u t H locs ht hvm hw hB hz1 hk1 hS => ?_)
              obtain ⟨b1, b2, b3⟩ := hB
              rw [ht] at b1
              obtain ⟨hP, hD, hK⟩ := JOINC (wc := (List.flatten ([(oX2 (p0a 0) p0a p0k p0n p0w p0l)] : List va_W))) (wr := (List.flatten ([] : List va_W))) (w1 := (List.flatten ([(oX2 (p0a 0) p0a p0k p0n p0w p0l)] : List va_W))) (t1 := (List.flatten ([(tX2 p0k)] : List (List (ClassId × FieldType))))) hPx hDx hKx hk1 hFc b1 (va_K.moved hvm.symm b2) b3
              have hP : va_P (dC, dI) cls (List.flatten ([(oX2 (p0a 0) p0a p0k p0n p0w p0l)] : List va_W)) H := vP_perm (vP_fb hP) (bP (List.Perm.refl _))
              have hD : va_D A (List.flatten ([(oX2 (p0a 0) p0a p0k p0n p0w p0l)] : List va_W)) := vD_perm (vD_fb hD) (bP (List.Perm.refl _))
              have hK : va_K (dC, dI) cls (List.flatten ([(tX2 p0k)] : List (List (ClassId × FieldType)))) s := vK_perm (vK_fb hK) (bP (List.Perm.refl _))
              obtain rfl : o_16 = r17 := hw.symm
              refine lv_ior hx hb dX2_freeRegister_139 ?_
              refine lv_istore_n (lv' := [(3, .int (v3_109 ||| o_16)), (0, .ref (p0a 0)), (1, .int p1), (2, .int p2), (4, .int v4_109)]) hx hb dX2_freeRegister_140 rfl hl (by decide) rfl (fun ls hl => ?_)
              exact J141 (v3_109 ||| o_16) _ _ _ hrun hP hD hK hS (lv_sub hl [1, 2, 3, 0, 4] rfl)
      obtain ⟨o109, hc109, hrun⟩ := bnd9 hrun
      refine L109 NF v3_95 (p0w 0 0) o109 _ _ _ hc109 hP hD hK hS (lv_sub hl [1, 2, 3, 4, 0] rfl) ?_
      intro H locs ls hP hD hK hS hl
      have hl := hl
      exact J147 o109 _ _ _ hrun hP hD hK hS (lv_sub hl [0, 1] rfl)
  rcases br9 hrun with ⟨hc18, hrun⟩ | ⟨hc18, hrun⟩
  · refine lv_if_lt (tgt := 95) hx hb dX2_freeRegister_79 (by decide) (fun _ => ?_) (fun c => absurd hc18 c)
    exact J95 o5 _ _ _ hrun hP hD hK hS (lv_sub hl [0, 1, 2, 3] rfl)
  · refine lv_if_lt (tgt := 95) hx hb dX2_freeRegister_79 (by decide) (fun c => absurd c hc18) (fun _ => ?_)
    refine lv_iload_n hx hb dX2_freeRegister_82 rfl (lv_at hl 3 rfl) ?_
    refine lv_aload_n hx hb dX2_freeRegister_83 rfl (lv_at hl 0 rfl) ?_
    refine lv_aload_n hx hb dX2_freeRegister_84 rfl (lv_at hl 0 rfl) ?_
    refine va_get (D := (dC, dI)) (ci := 9) (v := .ref (p0a 12)) (C := RX2) (T := TX2) (N := 19) hx hb hts i_X2 hown hK hP 0 rfl rfl 11 (by decide) (hts _ qw682) (fun _ h9 => h9) rfl dX2_freeRegister_85 ?_
    refine lv_iload_n hx hb dX2_freeRegister_88 rfl (lv_at hl 1 rfl) ?_
    obtain ⟨hq19, hrun⟩ := chk9 hrun
    refine va_iald hx hb hK hP 8 7 rfl rfl (ixb_in hq19) dX2_freeRegister_89 ?_
    obtain ⟨o_20, hc_20, hrun⟩ := bnd9 hrun
    have hPx : va_P (dC, dI) cls ((List.flatten ([(oX2 (p0a 0) p0a p0k p0n p0w p0l)] : List va_W)) ++ (List.flatten ([] : List va_W))) H := vP_fa (vP_perm hP (bP (List.Perm.refl _)))
    have hDx : va_D A ((List.flatten ([(oX2 (p0a 0) p0a p0k p0n p0w p0l)] : List va_W)) ++ (List.flatten ([] : List va_W))) := vD_fa (vD_perm hD (bP (List.Perm.refl _)))
    have hKx : va_K (dC, dI) cls ((List.flatten ([(tX2 p0k)] : List (List (ClassId × FieldType)))) ++ (List.flatten ([] : List (List (ClassId × FieldType))))) s := vK_fa (vK_perm hK (bP (List.Perm.refl _)))
    have hPc := vP_l hPx
    have hDc := vD_l hDx
    have hKc := vK_l hKx
    have hFc := vfree hDx hS hA
    refine va_calli (va_runV (As := [.int (p0w 12 (nn p1))]) (rest := [.int o5]) ⟨hx, hb, hml, hown, hts⟩ (kX2_registerBit l dC dI (p0a := p0a) (p0k := p0k) (p0n := p0n) (p0w := p0w) (p0l := p0l) (p1 := (p0w 12 (nn p1))) (sz := _) (o := o_20) (hrun := hc_20)) (cwV 1 hts (gi_V qw830 qw831 qw832 qw694 (gi_z qw829)) rfl rfl rfl (by decide +kernel) ⟨Nat.le_of_ble_eq_true rfl, Nat.le_of_ble_eq_true rfl⟩) ⟨PRE.blind, va_recv hKc hPc (ci := 9) (q0 := 0) rfl rfl, PRE.of hE hS hFc hPc hKc hDc⟩ rfl rfl hl.1 rfl (lv_room (Nat.le_of_ble_eq_true rfl)) dX2_freeRegister_90 ⟨(Nat.le_of_ble_eq_true rfl), (Nat.le_of_ble_eq_true rfl)⟩) hS (fun q _ h => hFc q h) hFc (fun r21 u t H locs ht hvm hw hB hz1 hk1 hS => ?_)
    obtain ⟨b1, b2, b3⟩ := hB
    rw [ht] at b1
    obtain ⟨hP, hD, hK⟩ := JOINC (wc := (List.flatten ([(oX2 (p0a 0) p0a p0k p0n p0w p0l)] : List va_W))) (wr := (List.flatten ([] : List va_W))) (w1 := (List.flatten ([(oX2 (p0a 0) p0a p0k p0n p0w p0l)] : List va_W))) (t1 := (List.flatten ([(tX2 p0k)] : List (List (ClassId × FieldType))))) hPx hDx hKx hk1 hFc b1 (va_K.moved hvm.symm b2) b3
    have hP : va_P (dC, dI) cls (List.flatten ([(oX2 (p0a 0) p0a p0k p0n p0w p0l)] : List va_W)) H := vP_perm (vP_fb hP) (bP (List.Perm.refl _))
    have hD : va_D A (List.flatten ([(oX2 (p0a 0) p0a p0k p0n p0w p0l)] : List va_W)) := vD_perm (vD_fb hD) (bP (List.Perm.refl _))
    have hK : va_K (dC, dI) cls (List.flatten ([(tX2 p0k)] : List (List (ClassId × FieldType)))) s := vK_perm (vK_fb hK) (bP (List.Perm.refl _))
    obtain rfl : o_20 = r21 := hw.symm
    refine lv_ior hx hb dX2_freeRegister_93 ?_
    refine lv_istore_n (lv' := [(3, .int (o5 ||| o_20)), (0, .ref (p0a 0)), (1, .int p1), (2, .int p2)]) hx hb dX2_freeRegister_94 rfl hl (by decide) rfl (fun ls hl => ?_)
    exact J95 (o5 ||| o_20) _ _ _ hrun hP hD hK hS (lv_sub hl [1, 2, 3, 0] rfl)
def fX2_colour_J71 (kk10 : Int32 → Int32 → ST → Option (Int32 × ST)) (v4_10 : Int32) (w7 : ST) (y0_71 : Int32) (y1_71 : Int32) : Option (Int32 × ST) := (kk10 (y1_71 + y0_71) (v4_10 + 1) w7)
def fX2_colour_J46 (kk10 : Int32 → Int32 → ST → Option (Int32 × ST)) (p0n : Nat → Nat) (v3_10 : Int32) (v4_10 : Int32) (p0w_10 : ST) (y0_46 : Int32) (y1_46 : Int32) : Option (Int32 × ST) := (if ixb y1_46 (p0n 18) = true then (lt9 (upw p0w_10 18 (nn y1_46) y0_46) fun (w5 : ST) => (if ixb v4_10 (p0n 17) = true then (lt9 (upw w5 17 (nn v4_10) (-1)) fun (w7 : ST) => (if ixb v4_10 (p0n 15) = true then (if (w7 15 (nn v4_10)) ≤ 0 then (fX2_colour_J71 kk10 v4_10 w7 0 v3_10) else (fX2_colour_J71 kk10 v4_10 w7 1 v3_10)) else none)) else none)) else none)
def fX2_colour_L10 (p0n : Nat → Nat) : Nat → Int32 → Int32 → ST → Option (Int32 × ST)
  | 0 => fun _ _ _ => none
  | n_10 + 1 => fun v3_10 v4_10 p0w_10 => (if (p0w_10 0 1) ≤ v4_10 then some (v3_10, p0w_10) else (if ixb v4_10 (p0n 15) = true then (if (p0w_10 15 (nn v4_10)) ≤ 0 then (fX2_colour_J46 (fX2_colour_L10 p0n n_10) p0n v3_10 v4_10 p0w_10 (-1) v4_10) else (if ixb v4_10 (p0n 13) = true then (fX2_colour_J46 (fX2_colour_L10 p0n n_10) p0n v3_10 v4_10 p0w_10 (p0w_10 13 (nn v4_10)) v4_10) else none)) else none))
def fX2_colour_L82 (p0n : Nat → Nat) (p2 : Int32) (o_1 : ST × SL) (o10 : Int32 × ST) : Nat → Int32 → ST → Option ST
  | 0 => fun _ _ => none
  | n_82 + 1 => fun v4_82 p0w_82 => (if (o10.1) ≤ v4_82 then some p0w_82 else ((fX2_nextToTake p0n p0w_82 (o_1.2) p2).bind fun (o_13 : Int32) => (if ixb v4_82 (p0n 19) = true then (lt9 (upw p0w_82 19 (nn v4_82) o_13) fun (w16 : ST) => (if ixb v4_82 (p0n 19) = true then ((fX2_takeAway p0n w16 (o_1.2) (w16 19 (nn v4_82))).bind fun (o_18 : ST) => ((fX2_colour_L82 p0n p2 o_1 o10 n_82) (v4_82 + 1) o_18)) else none)) else none)))
def fX2_colour_J179 (kk125 : Int32 → Int32 → ST → Option (Int32 × ST)) (v5_125 : Int32) (w25 : ST) (y0_179 : Int32) : Option (Int32 × ST) := (kk125 y0_179 (v5_125 + (-1)) w25)
def fX2_colour_J178 (kk125 : Int32 → Int32 → ST → Option (Int32 × ST)) (v5_125 : Int32) (w25 : ST) : Option (Int32 × ST) := (fX2_colour_J179 kk125 v5_125 w25 0)
def fX2_colour_L125 (p0n : Nat → Nat) (p2 : Int32) (o_1 : ST × SL) : Nat → Int32 → Int32 → ST → Option (Int32 × ST)
  | 0 => fun _ _ _ => none
  | n_125 + 1 => fun v4_125 v5_125 p0w_125 => (if v5_125 < 0 then some (v4_125, p0w_125) else (if ixb v5_125 (p0n 19) = true then (if ixb v5_125 (p0n 19) = true then ((fX2_freeRegister p0n p0w_125 (o_1.2) (p0w_125 19 (nn v5_125)) p2).bind fun (o_22 : Int32) => (if ixb (p0w_125 19 (nn v5_125)) (p0n 17) = true then (lt9 (upw p0w_125 17 (nn (p0w_125 19 (nn v5_125))) o_22) fun (w25 : ST) => (if v4_125 = 0 then (fX2_colour_J178 (fX2_colour_L125 p0n p2 o_1 n_125) v5_125 w25) else (if ixb v5_125 (p0n 19) = true then (if ixb (w25 19 (nn v5_125)) (p0n 17) = true then (if (w25 17 (nn (w25 19 (nn v5_125)))) < 0 then (fX2_colour_J178 (fX2_colour_L125 p0n p2 o_1 n_125) v5_125 w25) else (fX2_colour_J179 (fX2_colour_L125 p0n p2 o_1 n_125) v5_125 w25 1)) else none) else none))) else none)) else none) else none))
def fX2_colour (p0n : Nat → Nat) (p0w : ST) (p0l : SL) (p1w : ST) (p2 : Int32) (p1_2n : Nat → Nat) (p1_2w : ST) : Option (Int32 × ST × SL) := ((fX2_weigh p0n p0w p0l p1w p1_2n p1_2w).bind fun (o_1 : ST × SL) => ((fX2_colour_L10 p0n NF 0 0 (o_1.1)).bind fun (o10 : Int32 × ST) => ((fX2_colour_L82 p0n p2 o_1 o10 NF 0 (o10.2)).bind fun (o82 : ST) => ((fX2_colour_L125 p0n p2 o_1 NF 1 ((o10.1) - 1) o82).bind fun (o125 : Int32 × ST) => (if (o125.1) = 0 ∨ (o125.1) = 1 then some ((o125.1), (o125.2), (o_1.2)) else none)))))
set_option maxHeartbeats 16000000 in
set_option maxRecDepth 100000 in
theorem kX2_colour {zs : ZS} (l : Launch) (dC : Nat → ClassId) (dI : Nat → Nat → Nat) (p0a : Nat → Nat) (p0k : Nat → ClassId) (p0n : Nat → Nat) (p0w : ST) (p0l : SL) (p1a : Nat → Nat) (p1k : Nat → ClassId) (p1n : Nat → Nat) (p1w : ST) (p1l : SL) (p2 : Int32) (p1_2a : Nat → Nat) (p1_2k : Nat → ClassId) (p1_2n : Nat → Nat) (p1_2w : ST) (sz : Nat) (o : Int32 × ST × SL) (hrun : fX2_colour p0n p0w p0l p1w p2 p1_2n p1_2w = some o) : Met l yX2_colour (wz yX2_colour cX2_colour 6 (Option.some Jvm.ClassFile.FieldType.boolean)) ({ frames := 3, cells := 0, slots := 0, locals := 74 } : Room) (va_Pc [.ref (p0a 0), .ref (p1a 0), .int p2] (PRE zs dC dI (List.flatten ([(oX2 (p0a 0) p0a p0k p0n p0w p0l), (oX1 (p1a 0) p1a p1k p1n p1w p1l), (oX9 (p1a 3) p1_2a p1_2k p1_2n p1_2w)] : List va_W)) (List.flatten ([(tX2 p0k), (tX1 p1k), (tX9 p1_2k)] : List (List (ClassId × FieldType)))) sz)) (va_Qi (fun (r : Int32) (_ : Unit) => r = (o.1)) (fun _ t => POST dC dI (List.flatten ([(oX2 (p0a 0) p0a p0k p0n (o.2.1) (o.2.2)), (oX1 (p1a 0) p1a p1k p1n p1w p1l), (oX9 (p1a 3) p1_2a p1_2k p1_2n p1_2w)] : List va_W)) (List.flatten ([(tX2 p0k), (tX1 p1k), (tX9 p1_2k)] : List (List (ClassId × FieldType)))) (va_A (List.flatten ([(oX2 (p0a 0) p0a p0k p0n p0w p0l), (oX1 (p1a 0) p1a p1k p1n p1w p1l), (oX9 (p1a 3) p1_2a p1_2k p1_2n p1_2w)] : List va_W)) sz) t) (va_A (List.flatten ([(oX2 (p0a 0) p0a p0k p0n p0w p0l), (oX1 (p1a 0) p1a p1k p1n p1w p1l), (oX9 (p1a 3) p1_2a p1_2k p1_2n p1_2w)] : List va_W)) sz)) 0 0 (va_A (List.flatten ([(oX2 (p0a 0) p0a p0k p0n p0w p0l), (oX1 (p1a 0) p1a p1k p1n p1w p1l), (oX9 (p1a 3) p1_2a p1_2k p1_2n p1_2w)] : List va_W)) sz) := by
  refine Met.ofW (cc := cX2_colour) (maxL := 6) (ret := (Option.some Jvm.ClassFile.FieldType.boolean)) (by decide) rfl ?_
  intro p e s m args below meth c s₁ B hml hv
  obtain ⟨rfl, hsz, hP, hK, hD0, hE⟩ := hv
  have hx := B.exec
  have hb := B.bytes
  have hr := B.returns
  have hts0 := atoms_spec (ws := wz yX2_colour cX2_colour 6 (Option.some Jvm.ClassFile.FieldType.boolean)) B.pre
  have hts : ∀ w ∈ gw, w.before _ s = true := fun w h => hts0 w (List.mem_cons_of_mem _ h)
  have hown : s.vm.findClass RX2 = some m.cls := findClass_of_methodNamed B.named
  have hlocks := B.notSynchronized
  subst hsz
  have hD := hD0.self (sz := s.heap.size)
  refine gQ9 ?_
  intro Q hQ
  generalize hAe : va_A (List.flatten ([(oX2 (p0a 0) p0a p0k p0n p0w p0l), (oX1 (p1a 0) p1a p1k p1n p1w p1l), (oX9 (p1a 3) p1_2a p1_2k p1_2n p1_2w)] : List va_W)) s.heap.size = A at hD hE hQ
  have hA : ∀ q : Nat, s.heap.size ≤ q → A q := fun q h => by rw [← hAe]; exact Or.inr h
  have hS : va_S A s.heap s.heap [] := va_S.rf
  have hP : va_P (dC, dI) cls (List.flatten ([(oX2 (p0a 0) p0a p0k p0n p0w p0l), (oX1 (p1a 0) p1a p1k p1n p1w p1l), (oX9 (p1a 3) p1_2a p1_2k p1_2n p1_2w)] : List va_W)) s.heap := hP
  have hl := lv_entry ([.ref (p0a 0), .ref (p1a 0), .int p2]) (n := 6) (Nat.le_of_ble_eq_true rfl)
  rw [lg_entry_eq]
  generalize (lg_sl ([.ref (p0a 0), .ref (p1a 0), .int p2]) ++ List.replicate (6 - (lg_sl ([.ref (p0a 0), .ref (p1a 0), .int p2])).length) Slot.unset).toArray = ls at hl ⊢
  have hl : lv_has ls 6 [(0, .ref (p0a 0)), (1, .ref (p1a 0)), (2, .int p2)] := hl
  obtain ⟨H, hHe⟩ : ∃ H, H = s.heap := ⟨_, rfl⟩
  obtain ⟨locs, hle⟩ : ∃ locs : List Loc, locs = [] := ⟨_, rfl⟩
  rw [← hHe] at hP
  have hS : va_S A s.heap H locs := by rw [hHe, hle]; exact hS
  show W p l e ({ frames := 3, cells := 0, slots := 0, locals := 74 } : Room) s m ([.ref (p0a 0), .ref (p1a 0), .int p2] : List Value).toArray below meth c s.heap [] 0 0 Q (F0 m 0 ls [])
  rw [← hle]
  refine wH9 hHe ?_
  unfold fX2_colour at hrun
  refine lv_aload_n hx hb dX2_colour_0 rfl (lv_at hl 0 rfl) ?_
  refine lv_aload_n hx hb dX2_colour_1 rfl (lv_at hl 1 rfl) ?_
  obtain ⟨o_1, hc_1, hrun⟩ := bnd9 hrun
  have hPx : va_P (dC, dI) cls ((List.flatten ([(oX2 (p0a 0) p0a p0k p0n p0w p0l), (oX1 (p1a 0) p1a p1k p1n p1w p1l), (oX9 (p1a 3) p1_2a p1_2k p1_2n p1_2w)] : List va_W)) ++ (List.flatten ([] : List va_W))) H := vP_fa (vP_perm hP (bP (List.Perm.refl _)))
  have hDx : va_D A ((List.flatten ([(oX2 (p0a 0) p0a p0k p0n p0w p0l), (oX1 (p1a 0) p1a p1k p1n p1w p1l), (oX9 (p1a 3) p1_2a p1_2k p1_2n p1_2w)] : List va_W)) ++ (List.flatten ([] : List va_W))) := vD_fa (vD_perm hD (bP (List.Perm.refl _)))
  have hKx : va_K (dC, dI) cls ((List.flatten ([(tX2 p0k), (tX1 p1k), (tX9 p1_2k)] : List (List (ClassId × FieldType)))) ++ (List.flatten ([] : List (List (ClassId × FieldType))))) s := vK_fa (vK_perm hK (bP (List.Perm.refl _)))
  have hPc := vP_l hPx
  have hDc := vD_l hDx
  have hKc := vK_l hKx
  have hFc := vfree hDx hS hA
  refine va_callv (va_runV (As := [.ref (p1a 0)]) (rest := []) ⟨hx, hb, hml, hown, hts⟩ (kX2_weigh l dC dI (p0a := p0a) (p0k := p0k) (p0n := p0n) (p0w := p0w) (p0l := p0l) (p1a := p1a) (p1k := p1k) (p1n := p1n) (p1w := p1w) (p1l := p1l) (p1_2a := p1_2a) (p1_2k := p1_2k) (p1_2n := p1_2n) (p1_2w := p1_2w) (sz := _) (o := o_1) (hrun := hc_1)) (cwV 1 hts (gi_V qw814 qw815 qw816 qw694 (gi_z qw813)) rfl rfl rfl (by decide +kernel) ⟨Nat.le_of_ble_eq_true rfl, Nat.le_of_ble_eq_true rfl⟩) ⟨PRE.blind, va_recv hKc hPc (ci := 9) (q0 := 0) rfl rfl, PRE.of hE hS hFc hPc hKc hDc⟩ rfl rfl hl.1 rfl (lv_room (Nat.le_of_ble_eq_true rfl)) dX2_colour_2 ⟨(Nat.le_of_ble_eq_true rfl), (Nat.le_of_ble_eq_true rfl)⟩) hS (fun q _ h => hFc q h) hFc (fun u t H locs ht hvm hw hB hz1 hk1 hS => ?_)
  obtain ⟨b1, b2, b3⟩ := hB
  rw [ht] at b1
  obtain ⟨hP, hD, hK⟩ := JOINC (wc := (List.flatten ([(oX2 (p0a 0) p0a p0k p0n p0w p0l), (oX1 (p1a 0) p1a p1k p1n p1w p1l), (oX9 (p1a 3) p1_2a p1_2k p1_2n p1_2w)] : List va_W))) (wr := (List.flatten ([] : List va_W))) (w1 := (List.flatten ([(oX2 (p0a 0) p0a p0k p0n (o_1.1) (o_1.2)), (oX1 (p1a 0) p1a p1k p1n p1w p1l), (oX9 (p1a 3) p1_2a p1_2k p1_2n p1_2w)] : List va_W))) (t1 := (List.flatten ([(tX2 p0k), (tX1 p1k), (tX9 p1_2k)] : List (List (ClassId × FieldType))))) hPx hDx hKx hk1 hFc b1 (va_K.moved hvm.symm b2) b3
  have hP : va_P (dC, dI) cls (List.flatten ([(oX2 (p0a 0) p0a p0k p0n (o_1.1) (o_1.2)), (oX1 (p1a 0) p1a p1k p1n p1w p1l), (oX9 (p1a 3) p1_2a p1_2k p1_2n p1_2w)] : List va_W)) H := vP_perm (vP_fb hP) (bP (List.Perm.refl _))
  have hD : va_D A (List.flatten ([(oX2 (p0a 0) p0a p0k p0n (o_1.1) (o_1.2)), (oX1 (p1a 0) p1a p1k p1n p1w p1l), (oX9 (p1a 3) p1_2a p1_2k p1_2n p1_2w)] : List va_W)) := vD_perm (vD_fb hD) (bP (List.Perm.refl _))
  have hK : va_K (dC, dI) cls (List.flatten ([(tX2 p0k), (tX1 p1k), (tX9 p1_2k)] : List (List (ClassId × FieldType)))) s := vK_perm (vK_fb hK) (bP (List.Perm.refl _))
  refine lv_iconst (v := 0) hx hb dX2_colour_5 (by decide) ?_
  refine lv_istore_n (lv' := [(3, .int 0), (0, .ref (p0a 0)), (1, .ref (p1a 0)), (2, .int p2)]) hx hb dX2_colour_6 rfl hl (by decide) rfl (fun ls hl => ?_)
  refine lv_iconst (v := 0) hx hb dX2_colour_7 (by decide) ?_
  refine lv_istore (lv' := [(4, .int 0), (3, .int 0), (0, .ref (p0a 0)), (1, .ref (p1a 0)), (2, .int p2)]) hx hb dX2_colour_8 hl (by decide) rfl (fun ls hl => ?_)
  have L10 : ∀ (n_10 : Nat) (v3_10 : Int32) (v4_10 : Int32) (p0w_10 : ST) (o10 : Int32 × ST) (H : Heap) (locs : List Loc) (ls : Array Slot), (fX2_colour_L10 p0n n_10) v3_10 v4_10 p0w_10 = some o10 → va_P (dC, dI) cls (List.flatten ([(oX2 (p0a 0) p0a p0k p0n p0w_10 (o_1.2)), (oX1 (p1a 0) p1a p1k p1n p1w p1l), (oX9 (p1a 3) p1_2a p1_2k p1_2n p1_2w)] : List va_W)) H → va_D A (List.flatten ([(oX2 (p0a 0) p0a p0k p0n p0w_10 (o_1.2)), (oX1 (p1a 0) p1a p1k p1n p1w p1l), (oX9 (p1a 3) p1_2a p1_2k p1_2n p1_2w)] : List va_W)) → va_K (dC, dI) cls (List.flatten ([(tX2 p0k), (tX1 p1k), (tX9 p1_2k)] : List (List (ClassId × FieldType)))) s → va_S A s.heap H locs → lv_has ls 6 [(0, .ref (p0a 0)), (2, .int p2), (3, .int v3_10), (4, .int v4_10)] → (∀ (H : Heap) (locs : List Loc) (ls : Array Slot), va_P (dC, dI) cls (List.flatten ([(oX2 (p0a 0) p0a p0k p0n (o10.2) (o_1.2)), (oX1 (p1a 0) p1a p1k p1n p1w p1l), (oX9 (p1a 3) p1_2a p1_2k p1_2n p1_2w)] : List va_W)) H → va_D A (List.flatten ([(oX2 (p0a 0) p0a p0k p0n (o10.2) (o_1.2)), (oX1 (p1a 0) p1a p1k p1n p1w p1l), (oX9 (p1a 3) p1_2a p1_2k p1_2n p1_2w)] : List va_W)) → va_K (dC, dI) cls (List.flatten ([(tX2 p0k), (tX1 p1k), (tX9 p1_2k)] : List (List (ClassId × FieldType)))) s → va_S A s.heap H locs → lv_has ls 6 [(0, .ref (p0a 0)), (2, .int p2), (3, .int (o10.1))] → W p l e ({ frames := 3, cells := 0, slots := 0, locals := 74 } : Room) s m ([.ref (p0a 0), .ref (p1a 0), .int p2] : List Value).toArray below meth c H locs 0 0 Q (F0 m 79 ls [])) → W p l e ({ frames := 3, cells := 0, slots := 0, locals := 74 } : Room) s m ([.ref (p0a 0), .ref (p1a 0), .int p2] : List Value).toArray below meth c H locs 0 0 Q (F0 m 10 ls []) := by
    intro n_10
    induction n_10 with
    | zero => intro v3_10 v4_10 p0w_10 o10 H locs ls hrun; exact (no9 rfl hrun).elim
    | succ n_10 IH10 =>
      intro v3_10 v4_10 p0w_10 o10 H locs ls hrun hP hD hK hS hl hk10
      unfold fX2_colour_L10 at hrun
      refine lv_iload hx hb dX2_colour_10 (lv_at hl 3 rfl) ?_
      refine lv_aload_n hx hb dX2_colour_12 rfl (lv_at hl 0 rfl) ?_
      refine va_get (D := (dC, dI)) (ci := 9) (v := .int (p0w_10 0 1)) (C := RX2) (T := TX2) (N := 19) hx hb hts i_X2 hown hK hP 0 rfl rfl 1 (by decide) (hts _ qw668) (fun _ h9 => h9) rfl dX2_colour_13 ?_
      rcases br9 hrun with ⟨hc2, hrun⟩ | ⟨hc2, hrun⟩
      · refine lv_icmp_ge (tgt := 79) hx hb dX2_colour_16 (by decide) (fun _ => ?_) (fun c => absurd hc2 c)
        obtain rfl := (Option.some.inj hrun)
        exact hk10 _ _ _ hP hD hK hS (lv_sub hl [0, 1, 2] rfl)
      · refine lv_icmp_ge (tgt := 79) hx hb dX2_colour_16 (by decide) (fun c => absurd c hc2) (fun _ => ?_)
        refine lv_aload_n hx hb dX2_colour_19 rfl (lv_at hl 0 rfl) ?_
        refine va_get (D := (dC, dI)) (ci := 9) (v := .ref (p0a 18)) (C := RX2) (T := TX2) (N := 19) hx hb hts i_X2 hown hK hP 0 rfl rfl 17 (by decide) (hts _ qw688) (fun _ h9 => h9) rfl dX2_colour_20 ?_
        refine lv_iload hx hb dX2_colour_23 (lv_at hl 3 rfl) ?_
        refine lv_aload_n hx hb dX2_colour_25 rfl (lv_at hl 0 rfl) ?_
        refine va_get (D := (dC, dI)) (ci := 9) (v := .ref (p0a 15)) (C := RX2) (T := TX2) (N := 19) hx hb hts i_X2 hown hK hP 0 rfl rfl 14 (by decide) (hts _ qw685) (fun _ h9 => h9) rfl dX2_colour_26 ?_
        refine lv_iload hx hb dX2_colour_29 (lv_at hl 3 rfl) ?_
        obtain ⟨hq3, hrun⟩ := chk9 hrun
        refine va_iald hx hb hK hP 11 10 rfl rfl (ixb_in hq3) dX2_colour_31 ?_
        have J46 : ∀ (y0_46 : Int32) (y1_46 : Int32) (H : Heap) (locs : List Loc) (ls : Array Slot), (fX2_colour_J46 (fX2_colour_L10 p0n n_10) p0n v3_10 v4_10 p0w_10 y0_46 y1_46) = some o10 → va_P (dC, dI) cls (List.flatten ([(oX2 (p0a 0) p0a p0k p0n p0w_10 (o_1.2)), (oX1 (p1a 0) p1a p1k p1n p1w p1l), (oX9 (p1a 3) p1_2a p1_2k p1_2n p1_2w)] : List va_W)) H → va_D A (List.flatten ([(oX2 (p0a 0) p0a p0k p0n p0w_10 (o_1.2)), (oX1 (p1a 0) p1a p1k p1n p1w p1l), (oX9 (p1a 3) p1_2a p1_2k p1_2n p1_2w)] : List va_W)) → va_K (dC, dI) cls (List.flatten ([(tX2 p0k), (tX1 p1k), (tX9 p1_2k)] : List (List (ClassId × FieldType)))) s → va_S A s.heap H locs → lv_has ls 6 [(0, .ref (p0a 0)), (2, .int p2), (3, .int v3_10), (4, .int v4_10)] → W p l e ({ frames := 3, cells := 0, slots := 0, locals := 74 } : Room) s m ([.ref (p0a 0), .ref (p1a 0), .int p2] : List Value).toArray below meth c H locs 0 0 Q (F0 m 46 ls [.int y0_46, .int y1_46, .ref (p0a 18)]) := by
          intro y0_46 y1_46 H locs ls hrun hP hD hK hS hl 
          unfold fX2_colour_J46 at hrun
          obtain ⟨hq4, hrun⟩ := chk9 hrun
          refine va_iast hx hb hK hP hD hS 14 13 rfl rfl (ixb_in hq4) dX2_colour_46 (fun H locs hP hD hS => ?_)
          have hP : va_P (dC, dI) cls (List.flatten ([(oX2 (p0a 0) p0a p0k p0n (upw p0w_10 18 (nn y1_46) y0_46) (o_1.2)), (oX1 (p1a 0) p1a p1k p1n p1w p1l), (oX9 (p1a 3) p1_2a p1_2k p1_2n p1_2w)] : List va_W)) H := hP
          have hD : va_D A (List.flatten ([(oX2 (p0a 0) p0a p0k p0n (upw p0w_10 18 (nn y1_46) y0_46) (o_1.2)), (oX1 (p1a 0) p1a p1k p1n p1w p1l), (oX9 (p1a 3) p1_2a p1_2k p1_2n p1_2w)] : List va_W)) := hD
          obtain ⟨w5, ew5, hrun⟩ := let9 hrun
          rw [← ew5] at hP hD
          refine lv_aload_n hx hb dX2_colour_47 rfl (lv_at hl 0 rfl) ?_
          refine va_get (D := (dC, dI)) (ci := 9) (v := .ref (p0a 17)) (C := RX2) (T := TX2) (N := 19) hx hb hts i_X2 hown hK hP 0 rfl rfl 16 (by decide) (hts _ qw687) (fun _ h9 => h9) rfl dX2_colour_48 ?_
          refine lv_iload hx hb dX2_colour_51 (lv_at hl 3 rfl) ?_
          refine lv_iconst (v := (-1)) hx hb dX2_colour_53 (by decide) ?_
          obtain ⟨hq6, hrun⟩ := chk9 hrun
          refine va_iast hx hb hK hP hD hS 13 12 rfl rfl (ixb_in hq6) dX2_colour_54 (fun H locs hP hD hS => ?_)
          have hP : va_P (dC, dI) cls (List.flatten ([(oX2 (p0a 0) p0a p0k p0n (upw w5 17 (nn v4_10) (-1)) (o_1.2)), (oX1 (p1a 0) p1a p1k p1n p1w p1l), (oX9 (p1a 3) p1_2a p1_2k p1_2n p1_2w)] : List va_W)) H := hP
          have hD : va_D A (List.flatten ([(oX2 (p0a 0) p0a p0k p0n (upw w5 17 (nn v4_10) (-1)) (o_1.2)), (oX1 (p1a 0) p1a p1k p1n p1w p1l), (oX9 (p1a 3) p1_2a p1_2k p1_2n p1_2w)] : List va_W)) := hD
          obtain ⟨w7, ew7, hrun⟩ := let9 hrun
          rw [← ew7] at hP hD
          refine lv_iload_n hx hb dX2_colour_55 rfl (lv_at hl 2 rfl) ?_
          refine lv_aload_n hx hb dX2_colour_56 rfl (lv_at hl 0 rfl) ?_
          refine va_get (D := (dC, dI)) (ci := 9) (v := .ref (p0a 15)) (C := RX2) (T := TX2) (N := 19) hx hb hts i_X2 hown hK hP 0 rfl rfl 14 (by decide) (hts _ qw685) (fun _ h9 => h9) rfl dX2_colour_57 ?_
          refine lv_iload hx hb dX2_colour_60 (lv_at hl 3 rfl) ?_
          obtain ⟨hq8, hrun⟩ := chk9 hrun
          refine va_iald hx hb hK hP 11 10 rfl rfl (ixb_in hq8) dX2_colour_62 ?_
          have J71 : ∀ (y0_71 : Int32) (y1_71 : Int32) (H : Heap) (locs : List Loc) (ls : Array Slot), (fX2_colour_J71 (fX2_colour_L10 p0n n_10) v4_10 w7 y0_71 y1_71) = some o10 → va_P (dC, dI) cls (List.flatten ([(oX2 (p0a 0) p0a p0k p0n w7 (o_1.2)), (oX1 (p1a 0) p1a p1k p1n p1w p1l), (oX9 (p1a 3) p1_2a p1_2k p1_2n p1_2w)] : List va_W)) H → va_D A (List.flatten ([(oX2 (p0a 0) p0a p0k p0n w7 (o_1.2)), (oX1 (p1a 0) p1a p1k p1n p1w p1l), (oX9 (p1a 3) p1_2a p1_2k p1_2n p1_2w)] : List va_W)) → va_K (dC, dI) cls (List.flatten ([(tX2 p0k), (tX1 p1k), (tX9 p1_2k)] : List (List (ClassId × FieldType)))) s → va_S A s.heap H locs → lv_has ls 6 [(0, .ref (p0a 0)), (2, .int p2), (4, .int v4_10)] → W p l e ({ frames := 3, cells := 0, slots := 0, locals := 74 } : Room) s m ([.ref (p0a 0), .ref (p1a 0), .int p2] : List Value).toArray below meth c H locs 0 0 Q (F0 m 71 ls [.int y0_71, .int y1_71]) := by
            intro y0_71 y1_71 H locs ls hrun hP hD hK hS hl 
            unfold fX2_colour_J71 at hrun
            refine lv_iadd hx hb dX2_colour_71 ?_
            refine lv_istore_n (lv' := [(3, .int (y1_71 + y0_71)), (0, .ref (p0a 0)), (2, .int p2), (4, .int v4_10)]) hx hb dX2_colour_72 rfl hl (by decide) rfl (fun ls hl => ?_)
            refine lv_iinc (v := (v4_10 + 1)) (lv' := [(4, .int (v4_10 + 1)), (3, .int (y1_71 + y0_71)), (0, .ref (p0a 0)), (2, .int p2)]) hx hb dX2_colour_73 hl (k := 3) rfl rfl (by decide) rfl (fun ls hl => ?_)
            refine lv_goto (tgt := 10) hx hb dX2_colour_76 (by decide) ?_
            exact IH10 (y1_71 + y0_71) (v4_10 + 1) w7 o10 _ _ _ hrun hP hD hK hS (lv_sub hl [2, 3, 1, 0] rfl) hk10
          rcases br9 hrun with ⟨hc9, hrun⟩ | ⟨hc9, hrun⟩
          · refine lv_if_le (tgt := 70) hx hb dX2_colour_63 (by decide) (fun _ => ?_) (fun c => absurd hc9 c)
            refine lv_iconst (v := 0) hx hb dX2_colour_70 (by decide) ?_
            exact J71 0 v3_10 _ _ _ hrun hP hD hK hS (lv_sub hl [0, 1, 3] rfl)
          · refine lv_if_le (tgt := 70) hx hb dX2_colour_63 (by decide) (fun c => absurd c hc9) (fun _ => ?_)
            refine lv_iconst (v := 1) hx hb dX2_colour_66 (by decide) ?_
            refine lv_goto (tgt := 71) hx hb dX2_colour_67 (by decide) ?_
            exact J71 1 v3_10 _ _ _ hrun hP hD hK hS (lv_sub hl [0, 1, 3] rfl)
        rcases br9 hrun with ⟨hc10, hrun⟩ | ⟨hc10, hrun⟩
        · refine lv_if_le (tgt := 45) hx hb dX2_colour_32 (by decide) (fun _ => ?_) (fun c => absurd hc10 c)
          refine lv_iconst (v := (-1)) hx hb dX2_colour_45 (by decide) ?_
          exact J46 (-1) v4_10 _ _ _ hrun hP hD hK hS (lv_sub hl [0, 1, 2, 3] rfl)
        · refine lv_if_le (tgt := 45) hx hb dX2_colour_32 (by decide) (fun c => absurd c hc10) (fun _ => ?_)
          refine lv_aload_n hx hb dX2_colour_35 rfl (lv_at hl 0 rfl) ?_
          refine va_get (D := (dC, dI)) (ci := 9) (v := .ref (p0a 13)) (C := RX2) (T := TX2) (N := 19) hx hb hts i_X2 hown hK hP 0 rfl rfl 12 (by decide) (hts _ qw683) (fun _ h9 => h9) rfl dX2_colour_36 ?_
          refine lv_iload hx hb dX2_colour_39 (lv_at hl 3 rfl) ?_
          obtain ⟨hq11, hrun⟩ := chk9 hrun
          refine va_iald hx hb hK hP 9 8 rfl rfl (ixb_in hq11) dX2_colour_41 ?_
          refine lv_goto (tgt := 46) hx hb dX2_colour_42 (by decide) ?_
          exact J46 (p0w_10 13 (nn v4_10)) v4_10 _ _ _ hrun hP hD hK hS (lv_sub hl [0, 1, 2, 3] rfl)
  obtain ⟨o10, hc10, hrun⟩ := bnd9 hrun
  refine L10 NF 0 0 (o_1.1) o10 _ _ _ hc10 hP hD hK hS (lv_sub hl [2, 4, 1, 0] rfl) ?_
  intro H locs ls hP hD hK hS hl
  have hl := hl
  refine lv_iconst (v := 0) hx hb dX2_colour_79 (by decide) ?_
  refine lv_istore (lv' := [(4, .int 0), (0, .ref (p0a 0)), (2, .int p2), (3, .int (o10.1))]) hx hb dX2_colour_80 hl (by decide) rfl (fun ls hl => ?_)
  have L82 : ∀ (n_82 : Nat) (v4_82 : Int32) (p0w_82 : ST) (o82 : ST) (H : Heap) (locs : List Loc) (ls : Array Slot), (fX2_colour_L82 p0n p2 o_1 o10 n_82) v4_82 p0w_82 = some o82 → va_P (dC, dI) cls (List.flatten ([(oX2 (p0a 0) p0a p0k p0n p0w_82 (o_1.2)), (oX1 (p1a 0) p1a p1k p1n p1w p1l), (oX9 (p1a 3) p1_2a p1_2k p1_2n p1_2w)] : List va_W)) H → va_D A (List.flatten ([(oX2 (p0a 0) p0a p0k p0n p0w_82 (o_1.2)), (oX1 (p1a 0) p1a p1k p1n p1w p1l), (oX9 (p1a 3) p1_2a p1_2k p1_2n p1_2w)] : List va_W)) → va_K (dC, dI) cls (List.flatten ([(tX2 p0k), (tX1 p1k), (tX9 p1_2k)] : List (List (ClassId × FieldType)))) s → va_S A s.heap H locs → lv_has ls 6 [(0, .ref (p0a 0)), (2, .int p2), (3, .int (o10.1)), (4, .int v4_82)] → (∀ (H : Heap) (locs : List Loc) (ls : Array Slot), va_P (dC, dI) cls (List.flatten ([(oX2 (p0a 0) p0a p0k p0n o82 (o_1.2)), (oX1 (p1a 0) p1a p1k p1n p1w p1l), (oX9 (p1a 3) p1_2a p1_2k p1_2n p1_2w)] : List va_W)) H → va_D A (List.flatten ([(oX2 (p0a 0) p0a p0k p0n o82 (o_1.2)), (oX1 (p1a 0) p1a p1k p1n p1w p1l), (oX9 (p1a 3) p1_2a p1_2k p1_2n p1_2w)] : List va_W)) → va_K (dC, dI) cls (List.flatten ([(tX2 p0k), (tX1 p1k), (tX9 p1_2k)] : List (List (ClassId × FieldType)))) s → va_S A s.heap H locs → lv_has ls 6 [(0, .ref (p0a 0)), (2, .int p2), (3, .int (o10.1))] → W p l e ({ frames := 3, cells := 0, slots := 0, locals := 74 } : Room) s m ([.ref (p0a 0), .ref (p1a 0), .int p2] : List Value).toArray below meth c H locs 0 0 Q (F0 m 117 ls [])) → W p l e ({ frames := 3, cells := 0, slots := 0, locals := 74 } : Room) s m ([.ref (p0a 0), .ref (p1a 0), .int p2] : List Value).toArray below meth c H locs 0 0 Q (F0 m 82 ls []) := by
    intro n_82
    induction n_82 with
    | zero => intro v4_82 p0w_82 o82 H locs ls hrun; exact (no9 rfl hrun).elim
    | succ n_82 IH82 =>
      intro v4_82 p0w_82 o82 H locs ls hrun hP hD hK hS hl hk82
      unfold fX2_colour_L82 at hrun
      refine lv_iload hx hb dX2_colour_82 (lv_at hl 3 rfl) ?_
      refine lv_iload_n hx hb dX2_colour_84 rfl (lv_at hl 2 rfl) ?_
      rcases br9 hrun with ⟨hc12, hrun⟩ | ⟨hc12, hrun⟩
      · refine lv_icmp_ge (tgt := 117) hx hb dX2_colour_85 (by decide) (fun _ => ?_) (fun c => absurd hc12 c)
        obtain rfl := (Option.some.inj hrun)
        exact hk82 _ _ _ hP hD hK hS (lv_sub hl [0, 1, 2] rfl)
      · refine lv_icmp_ge (tgt := 117) hx hb dX2_colour_85 (by decide) (fun c => absurd c hc12) (fun _ => ?_)
        refine lv_aload_n hx hb dX2_colour_88 rfl (lv_at hl 0 rfl) ?_
        refine va_get (D := (dC, dI)) (ci := 9) (v := .ref (p0a 19)) (C := RX2) (T := TX2) (N := 19) hx hb hts i_X2 hown hK hP 0 rfl rfl 18 (by decide) (hts _ qw689) (fun _ h9 => h9) rfl dX2_colour_89 ?_
        refine lv_iload hx hb dX2_colour_92 (lv_at hl 3 rfl) ?_
        refine lv_aload_n hx hb dX2_colour_94 rfl (lv_at hl 0 rfl) ?_
        refine lv_iload_n hx hb dX2_colour_95 rfl (lv_at hl 1 rfl) ?_
        obtain ⟨o_13, hc_13, hrun⟩ := bnd9 hrun
        have hPx : va_P (dC, dI) cls ((List.flatten ([(oX2 (p0a 0) p0a p0k p0n p0w_82 (o_1.2))] : List va_W)) ++ (List.flatten ([(oX1 (p1a 0) p1a p1k p1n p1w p1l), (oX9 (p1a 3) p1_2a p1_2k p1_2n p1_2w)] : List va_W))) H := vP_fa (vP_perm hP (bP (List.Perm.refl _)))
        have hDx : va_D A ((List.flatten ([(oX2 (p0a 0) p0a p0k p0n p0w_82 (o_1.2))] : List va_W)) ++ (List.flatten ([(oX1 (p1a 0) p1a p1k p1n p1w p1l), (oX9 (p1a 3) p1_2a p1_2k p1_2n p1_2w)] : List va_W))) := vD_fa (vD_perm hD (bP (List.Perm.refl _)))
        have hKx : va_K (dC, dI) cls ((List.flatten ([(tX2 p0k)] : List (List (ClassId × FieldType)))) ++ (List.flatten ([(tX1 p1k), (tX9 p1_2k)] : List (List (ClassId × FieldType))))) s := vK_fa (vK_perm hK (bP (List.Perm.refl _)))
        have hPc := vP_l hPx
        have hDc := vD_l hDx
        have hKc := vK_l hKx
        have hFc := vfree hDx hS hA
        refine va_calli (va_runV (As := [.int p2]) (rest := [.int v4_82, .ref (p0a 19)]) ⟨hx, hb, hml, hown, hts⟩ (kX2_nextToTake l dC dI (p0a := p0a) (p0k := p0k) (p0n := p0n) (p0w := p0w_82) (p0l := (o_1.2)) (p1 := p2) (sz := _) (o := o_13) (hrun := hc_13)) (cwV 1 hts (gi_V qw818 qw819 qw820 qw694 (gi_z qw817)) rfl rfl rfl (by decide +kernel) ⟨Nat.le_of_ble_eq_true rfl, Nat.le_of_ble_eq_true rfl⟩) ⟨PRE.blind, va_recv hKc hPc (ci := 9) (q0 := 0) rfl rfl, PRE.of hE hS hFc hPc hKc hDc⟩ rfl rfl hl.1 rfl (lv_room (Nat.le_of_ble_eq_true rfl)) dX2_colour_96 ⟨(Nat.le_of_ble_eq_true rfl), (Nat.le_of_ble_eq_true rfl)⟩) hS (fun q _ h => hFc q h) hFc (fun r14 u t H locs ht hvm hw hB hz1 hk1 hS => ?_)
        obtain ⟨b1, b2, b3⟩ := hB
        rw [ht] at b1
        obtain ⟨hP, hD, hK⟩ := JOINC (wc := (List.flatten ([(oX2 (p0a 0) p0a p0k p0n p0w_82 (o_1.2))] : List va_W))) (wr := (List.flatten ([(oX1 (p1a 0) p1a p1k p1n p1w p1l), (oX9 (p1a 3) p1_2a p1_2k p1_2n p1_2w)] : List va_W))) (w1 := (List.flatten ([(oX2 (p0a 0) p0a p0k p0n p0w_82 (o_1.2))] : List va_W))) (t1 := (List.flatten ([(tX2 p0k)] : List (List (ClassId × FieldType))))) hPx hDx hKx hk1 hFc b1 (va_K.moved hvm.symm b2) b3
        have hP : va_P (dC, dI) cls (List.flatten ([(oX2 (p0a 0) p0a p0k p0n p0w_82 (o_1.2)), (oX1 (p1a 0) p1a p1k p1n p1w p1l), (oX9 (p1a 3) p1_2a p1_2k p1_2n p1_2w)] : List va_W)) H := vP_perm (vP_fb hP) (bP (List.Perm.refl _))
        have hD : va_D A (List.flatten ([(oX2 (p0a 0) p0a p0k p0n p0w_82 (o_1.2)), (oX1 (p1a 0) p1a p1k p1n p1w p1l), (oX9 (p1a 3) p1_2a p1_2k p1_2n p1_2w)] : List va_W)) := vD_perm (vD_fb hD) (bP (List.Perm.refl _))
        have hK : va_K (dC, dI) cls (List.flatten ([(tX2 p0k), (tX1 p1k), (tX9 p1_2k)] : List (List (ClassId × FieldType)))) s := vK_perm (vK_fb hK) (bP (List.Perm.refl _))
        obtain rfl : o_13 = r14 := hw.symm
        obtain ⟨hq15, hrun⟩ := chk9 hrun
        refine va_iast hx hb hK hP hD hS 15 14 rfl rfl (ixb_in hq15) dX2_colour_99 (fun H locs hP hD hS => ?_)
        have hP : va_P (dC, dI) cls (List.flatten ([(oX2 (p0a 0) p0a p0k p0n (upw p0w_82 19 (nn v4_82) o_13) (o_1.2)), (oX1 (p1a 0) p1a p1k p1n p1w p1l), (oX9 (p1a 3) p1_2a p1_2k p1_2n p1_2w)] : List va_W)) H := hP
        have hD : va_D A (List.flatten ([(oX2 (p0a 0) p0a p0k p0n (upw p0w_82 19 (nn v4_82) o_13) (o_1.2)), (oX1 (p1a 0) p1a p1k p1n p1w p1l), (oX9 (p1a 3) p1_2a p1_2k p1_2n p1_2w)] : List va_W)) := hD
        obtain ⟨w16, ew16, hrun⟩ := let9 hrun
        rw [← ew16] at hP hD
        refine lv_aload_n hx hb dX2_colour_100 rfl (lv_at hl 0 rfl) ?_
        refine lv_aload_n hx hb dX2_colour_101 rfl (lv_at hl 0 rfl) ?_
        refine va_get (D := (dC, dI)) (ci := 9) (v := .ref (p0a 19)) (C := RX2) (T := TX2) (N := 19) hx hb hts i_X2 hown hK hP 0 rfl rfl 18 (by decide) (hts _ qw689) (fun _ h9 => h9) rfl dX2_colour_102 ?_
        refine lv_iload hx hb dX2_colour_105 (lv_at hl 3 rfl) ?_
        obtain ⟨hq17, hrun⟩ := chk9 hrun
        refine va_iald hx hb hK hP 15 14 rfl rfl (ixb_in hq17) dX2_colour_107 ?_
        obtain ⟨o_18, hc_18, hrun⟩ := bnd9 hrun
        have hPx : va_P (dC, dI) cls ((List.flatten ([(oX2 (p0a 0) p0a p0k p0n w16 (o_1.2))] : List va_W)) ++ (List.flatten ([(oX1 (p1a 0) p1a p1k p1n p1w p1l), (oX9 (p1a 3) p1_2a p1_2k p1_2n p1_2w)] : List va_W))) H := vP_fa (vP_perm hP (bP (List.Perm.refl _)))
        have hDx : va_D A ((List.flatten ([(oX2 (p0a 0) p0a p0k p0n w16 (o_1.2))] : List va_W)) ++ (List.flatten ([(oX1 (p1a 0) p1a p1k p1n p1w p1l), (oX9 (p1a 3) p1_2a p1_2k p1_2n p1_2w)] : List va_W))) := vD_fa (vD_perm hD (bP (List.Perm.refl _)))
        have hKx : va_K (dC, dI) cls ((List.flatten ([(tX2 p0k)] : List (List (ClassId × FieldType)))) ++ (List.flatten ([(tX1 p1k), (tX9 p1_2k)] : List (List (ClassId × FieldType))))) s := vK_fa (vK_perm hK (bP (List.Perm.refl _)))
        have hPc := vP_l hPx
        have hDc := vD_l hDx
        have hKc := vK_l hKx
        have hFc := vfree hDx hS hA
        refine va_callv (va_runV (As := [.int (w16 19 (nn v4_82))]) (rest := []) ⟨hx, hb, hml, hown, hts⟩ (kX2_takeAway l dC dI (p0a := p0a) (p0k := p0k) (p0n := p0n) (p0w := w16) (p0l := (o_1.2)) (p1 := (w16 19 (nn v4_82))) (sz := _) (o := o_18) (hrun := hc_18)) (cwV 1 hts (gi_V qw826 qw827 qw828 qw694 (gi_z qw825)) rfl rfl rfl (by decide +kernel) ⟨Nat.le_of_ble_eq_true rfl, Nat.le_of_ble_eq_true rfl⟩) ⟨PRE.blind, va_recv hKc hPc (ci := 9) (q0 := 0) rfl rfl, PRE.of hE hS hFc hPc hKc hDc⟩ rfl rfl hl.1 rfl (lv_room (Nat.le_of_ble_eq_true rfl)) dX2_colour_108 ⟨(Nat.le_of_ble_eq_true rfl), (Nat.le_of_ble_eq_true rfl)⟩) hS (fun q _ h => hFc q h) hFc (fun u t H locs ht hvm hw hB hz1 hk1 hS => ?_)
        obtain ⟨b1, b2, b3⟩ := hB
        rw [ht] at b1
        obtain ⟨hP, hD, hK⟩ := JOINC (wc := (List.flatten ([(oX2 (p0a 0) p0a p0k p0n w16 (o_1.2))] : List va_W))) (wr := (List.flatten ([(oX1 (p1a 0) p1a p1k p1n p1w p1l), (oX9 (p1a 3) p1_2a p1_2k p1_2n p1_2w)] : List va_W))) (w1 := (List.flatten ([(oX2 (p0a 0) p0a p0k p0n o_18 (o_1.2))] : List va_W))) (t1 := (List.flatten ([(tX2 p0k)] : List (List (ClassId × FieldType))))) hPx hDx hKx hk1 hFc b1 (va_K.moved hvm.symm b2) b3
        have hP : va_P (dC, dI) cls (List.flatten ([(oX2 (p0a 0) p0a p0k p0n o_18 (o_1.2)), (oX1 (p1a 0) p1a p1k p1n p1w p1l), (oX9 (p1a 3) p1_2a p1_2k p1_2n p1_2w)] : List va_W)) H := vP_perm (vP_fb hP) (bP (List.Perm.refl _))
        have hD : va_D A (List.flatten ([(oX2 (p0a 0) p0a p0k p0n o_18 (o_1.2)), (oX1 (p1a 0) p1a p1k p1n p1w p1l), (oX9 (p1a 3) p1_2a p1_2k p1_2n p1_2w)] : List va_W)) := vD_perm (vD_fb hD) (bP (List.Perm.refl _))
        have hK : va_K (dC, dI) cls (List.flatten ([(tX2 p0k), (tX1 p1k), (tX9 p1_2k)] : List (List (ClassId × FieldType)))) s := vK_perm (vK_fb hK) (bP (List.Perm.refl _))
        refine lv_iinc (v := (v4_82 + 1)) (lv' := [(4, .int (v4_82 + 1)), (0, .ref (p0a 0)), (2, .int p2), (3, .int (o10.1))]) hx hb dX2_colour_111 hl (k := 3) rfl rfl (by decide) rfl (fun ls hl => ?_)
        refine lv_goto (tgt := 82) hx hb dX2_colour_114 (by decide) ?_
        exact IH82 (v4_82 + 1) o_18 o82 _ _ _ hrun hP hD hK hS (lv_sub hl [1, 2, 3, 0] rfl) hk82
  obtain ⟨o82, hc82, hrun⟩ := bnd9 hrun
  refine L82 NF 0 (o10.2) o82 _ _ _ hc82 hP hD hK hS (lv_sub hl [1, 2, 3, 0] rfl) ?_
  intro H locs ls hP hD hK hS hl
  have hl := hl
  refine lv_iconst (v := 1) hx hb dX2_colour_117 (by decide) ?_
  refine lv_istore (lv' := [(4, .int 1), (0, .ref (p0a 0)), (2, .int p2), (3, .int (o10.1))]) hx hb dX2_colour_118 hl (by decide) rfl (fun ls hl => ?_)
  refine lv_iload_n hx hb dX2_colour_120 rfl (lv_at hl 3 rfl) ?_
  refine lv_iconst (v := 1) hx hb dX2_colour_121 (by decide) ?_
  refine lv_isub hx hb dX2_colour_122 ?_
  refine lv_istore (lv' := [(5, .int ((o10.1) - 1)), (4, .int 1), (0, .ref (p0a 0)), (2, .int p2), (3, .int (o10.1))]) hx hb dX2_colour_123 hl (by decide) rfl (fun ls hl => ?_)
  have L125 : ∀ (n_125 : Nat) (v4_125 : Int32) (v5_125 : Int32) (p0w_125 : ST) (o125 : Int32 × ST) (H : Heap) (locs : List Loc) (ls : Array Slot), (fX2_colour_L125 p0n p2 o_1 n_125) v4_125 v5_125 p0w_125 = some o125 → va_P (dC, dI) cls (List.flatten ([(oX2 (p0a 0) p0a p0k p0n p0w_125 (o_1.2)), (oX1 (p1a 0) p1a p1k p1n p1w p1l), (oX9 (p1a 3) p1_2a p1_2k p1_2n p1_2w)] : List va_W)) H → va_D A (List.flatten ([(oX2 (p0a 0) p0a p0k p0n p0w_125 (o_1.2)), (oX1 (p1a 0) p1a p1k p1n p1w p1l), (oX9 (p1a 3) p1_2a p1_2k p1_2n p1_2w)] : List va_W)) → va_K (dC, dI) cls (List.flatten ([(tX2 p0k), (tX1 p1k), (tX9 p1_2k)] : List (List (ClassId × FieldType)))) s → va_S A s.heap H locs → lv_has ls 6 [(0, .ref (p0a 0)), (2, .int p2), (4, .int v4_125), (5, .int v5_125)] → (∀ (H : Heap) (locs : List Loc) (ls : Array Slot), va_P (dC, dI) cls (List.flatten ([(oX2 (p0a 0) p0a p0k p0n (o125.2) (o_1.2)), (oX1 (p1a 0) p1a p1k p1n p1w p1l), (oX9 (p1a 3) p1_2a p1_2k p1_2n p1_2w)] : List va_W)) H → va_D A (List.flatten ([(oX2 (p0a 0) p0a p0k p0n (o125.2) (o_1.2)), (oX1 (p1a 0) p1a p1k p1n p1w p1l), (oX9 (p1a 3) p1_2a p1_2k p1_2n p1_2w)] : List va_W)) → va_K (dC, dI) cls (List.flatten ([(tX2 p0k), (tX1 p1k), (tX9 p1_2k)] : List (List (ClassId × FieldType)))) s → va_S A s.heap H locs → lv_has ls 6 [(4, .int (o125.1))] → W p l e ({ frames := 3, cells := 0, slots := 0, locals := 74 } : Room) s m ([.ref (p0a 0), .ref (p1a 0), .int p2] : List Value).toArray below meth c H locs 0 0 Q (F0 m 187 ls [])) → W p l e ({ frames := 3, cells := 0, slots := 0, locals := 74 } : Room) s m ([.ref (p0a 0), .ref (p1a 0), .int p2] : List Value).toArray below meth c H locs 0 0 Q (F0 m 125 ls []) := by
    intro n_125
    induction n_125 with
    | zero => intro v4_125 v5_125 p0w_125 o125 H locs ls hrun; exact (no9 rfl hrun).elim
    | succ n_125 IH125 =>
      intro v4_125 v5_125 p0w_125 o125 H locs ls hrun hP hD hK hS hl hk125
      unfold fX2_colour_L125 at hrun
      refine lv_iload hx hb dX2_colour_125 (lv_at hl 3 rfl) ?_
      rcases br9 hrun with ⟨hc19, hrun⟩ | ⟨hc19, hrun⟩
      · refine lv_if_lt (tgt := 187) hx hb dX2_colour_127 (by decide) (fun _ => ?_) (fun c => absurd hc19 c)
        obtain rfl := (Option.some.inj hrun)
        exact hk125 _ _ _ hP hD hK hS (lv_sub hl [2] rfl)
      · refine lv_if_lt (tgt := 187) hx hb dX2_colour_127 (by decide) (fun c => absurd c hc19) (fun _ => ?_)
        refine lv_aload_n hx hb dX2_colour_130 rfl (lv_at hl 0 rfl) ?_
        refine va_get (D := (dC, dI)) (ci := 9) (v := .ref (p0a 17)) (C := RX2) (T := TX2) (N := 19) hx hb hts i_X2 hown hK hP 0 rfl rfl 16 (by decide) (hts _ qw687) (fun _ h9 => h9) rfl dX2_colour_131 ?_
        refine lv_aload_n hx hb dX2_colour_134 rfl (lv_at hl 0 rfl) ?_
        refine va_get (D := (dC, dI)) (ci := 9) (v := .ref (p0a 19)) (C := RX2) (T := TX2) (N := 19) hx hb hts i_X2 hown hK hP 0 rfl rfl 18 (by decide) (hts _ qw689) (fun _ h9 => h9) rfl dX2_colour_135 ?_
        refine lv_iload hx hb dX2_colour_138 (lv_at hl 3 rfl) ?_
        obtain ⟨hq20, hrun⟩ := chk9 hrun
        refine va_iald hx hb hK hP 15 14 rfl rfl (ixb_in hq20) dX2_colour_140 ?_
        refine lv_aload_n hx hb dX2_colour_141 rfl (lv_at hl 0 rfl) ?_
        refine lv_aload_n hx hb dX2_colour_142 rfl (lv_at hl 0 rfl) ?_
        refine va_get (D := (dC, dI)) (ci := 9) (v := .ref (p0a 19)) (C := RX2) (T := TX2) (N := 19) hx hb hts i_X2 hown hK hP 0 rfl rfl 18 (by decide) (hts _ qw689) (fun _ h9 => h9) rfl dX2_colour_143 ?_
        refine lv_iload hx hb dX2_colour_146 (lv_at hl 3 rfl) ?_
        obtain ⟨hq21, hrun⟩ := chk9 hrun
        refine va_iald hx hb hK hP 15 14 rfl rfl (ixb_in hq21) dX2_colour_148 ?_
        refine lv_iload_n hx hb dX2_colour_149 rfl (lv_at hl 1 rfl) ?_
        obtain ⟨o_22, hc_22, hrun⟩ := bnd9 hrun
        have hPx : va_P (dC, dI) cls ((List.flatten ([(oX2 (p0a 0) p0a p0k p0n p0w_125 (o_1.2))] : List va_W)) ++ (List.flatten ([(oX1 (p1a 0) p1a p1k p1n p1w p1l), (oX9 (p1a 3) p1_2a p1_2k p1_2n p1_2w)] : List va_W))) H := vP_fa (vP_perm hP (bP (List.Perm.refl _)))
        have hDx : va_D A ((List.flatten ([(oX2 (p0a 0) p0a p0k p0n p0w_125 (o_1.2))] : List va_W)) ++ (List.flatten ([(oX1 (p1a 0) p1a p1k p1n p1w p1l), (oX9 (p1a 3) p1_2a p1_2k p1_2n p1_2w)] : List va_W))) := vD_fa (vD_perm hD (bP (List.Perm.refl _)))
        have hKx : va_K (dC, dI) cls ((List.flatten ([(tX2 p0k)] : List (List (ClassId × FieldType)))) ++ (List.flatten ([(tX1 p1k), (tX9 p1_2k)] : List (List (ClassId × FieldType))))) s := vK_fa (vK_perm hK (bP (List.Perm.refl _)))
        have hPc := vP_l hPx
        have hDc := vD_l hDx
        have hKc := vK_l hKx
        have hFc := vfree hDx hS hA
        refine va_calli (va_runV (As := [.int (p0w_125 19 (nn v5_125)), .int p2]) (rest := [.int (p0w_125 19 (nn v5_125)), .ref (p0a 17)]) ⟨hx, hb, hml, hown, hts⟩ (kX2_freeRegister l dC dI (p0a := p0a) (p0k := p0k) (p0n := p0n) (p0w := p0w_125) (p0l := (o_1.2)) (p1 := (p0w_125 19 (nn v5_125))) (p2 := p2) (sz := _) (o := o_22) (hrun := hc_22)) (cwV 2 hts (gi_V qw834 qw835 qw836 qw694 (gi_z qw833)) rfl rfl rfl (by decide +kernel) ⟨Nat.le_of_ble_eq_true rfl, Nat.le_of_ble_eq_true rfl⟩) ⟨PRE.blind, va_recv hKc hPc (ci := 9) (q0 := 0) rfl rfl, PRE.of hE hS hFc hPc hKc hDc⟩ rfl rfl hl.1 rfl (lv_room (Nat.le_of_ble_eq_true rfl)) dX2_colour_150 ⟨(Nat.le_of_ble_eq_true rfl), (Nat.le_of_ble_eq_true rfl)⟩) hS (fun q _ h => hFc q h) hFc (fun r23 u t H locs ht hvm hw hB hz1 hk1 hS => ?_)
        obtain ⟨b1, b2, b3⟩ := hB
        rw [ht] at b1
        obtain ⟨hP, hD, hK⟩ := JOINC (wc := (List.flatten ([(oX2 (p0a 0) p0a p0k p0n p0w_125 (o_1.2))] : List va_W))) (wr := (List.flatten ([(oX1 (p1a 0) p1a p1k p1n p1w p1l), (oX9 (p1a 3) p1_2a p1_2k p1_2n p1_2w)] : List va_W))) (w1 := (List.flatten ([(oX2 (p0a 0) p0a p0k p0n p0w_125 (o_1.2))] : List va_W))) (t1 := (List.flatten ([(tX2 p0k)] : List (List (ClassId × FieldType))))) hPx hDx hKx hk1 hFc b1 (va_K.moved hvm.symm b2) b3
        have hP : va_P (dC, dI) cls (List.flatten ([(oX2 (p0a 0) p0a p0k p0n p0w_125 (o_1.2)), (oX1 (p1a 0) p1a p1k p1n p1w p1l), (oX9 (p1a 3) p1_2a p1_2k p1_2n p1_2w)] : List va_W)) H := vP_perm (vP_fb hP) (bP (List.Perm.refl _))
        have hD : va_D A (List.flatten ([(oX2 (p0a 0) p0a p0k p0n p0w_125 (o_1.2)), (oX1 (p1a 0) p1a p1k p1n p1w p1l), (oX9 (p1a 3) p1_2a p1_2k p1_2n p1_2w)] : List va_W)) := vD_perm (vD_fb hD) (bP (List.Perm.refl _))
        have hK : va_K (dC, dI) cls (List.flatten ([(tX2 p0k), (tX1 p1k), (tX9 p1_2k)] : List (List (ClassId × FieldType)))) s := vK_perm (vK_fb hK) (bP (List.Perm.refl _))
        obtain rfl : o_22 = r23 := hw.symm
        obtain ⟨hq24, hrun⟩ := chk9 hrun
        refine va_iast hx hb hK hP hD hS 13 12 rfl rfl (ixb_in hq24) dX2_colour_153 (fun H locs hP hD hS => ?_)
        have hP : va_P (dC, dI) cls (List.flatten ([(oX2 (p0a 0) p0a p0k p0n (upw p0w_125 17 (nn (p0w_125 19 (nn v5_125))) o_22) (o_1.2)), (oX1 (p1a 0) p1a p1k p1n p1w p1l), (oX9 (p1a 3) p1_2a p1_2k p1_2n p1_2w)] : List va_W)) H := hP
        have hD : va_D A (List.flatten ([(oX2 (p0a 0) p0a p0k p0n (upw p0w_125 17 (nn (p0w_125 19 (nn v5_125))) o_22) (o_1.2)), (oX1 (p1a 0) p1a p1k p1n p1w p1l), (oX9 (p1a 3) p1_2a p1_2k p1_2n p1_2w)] : List va_W)) := hD
        obtain ⟨w25, ew25, hrun⟩ := let9 hrun
        rw [← ew25] at hP hD
        refine lv_iload hx hb dX2_colour_154 (lv_at hl 2 rfl) ?_
        have J179 : ∀ (y0_179 : Int32) (H : Heap) (locs : List Loc) (ls : Array Slot), (fX2_colour_J179 (fX2_colour_L125 p0n p2 o_1 n_125) v5_125 w25 y0_179) = some o125 → va_P (dC, dI) cls (List.flatten ([(oX2 (p0a 0) p0a p0k p0n w25 (o_1.2)), (oX1 (p1a 0) p1a p1k p1n p1w p1l), (oX9 (p1a 3) p1_2a p1_2k p1_2n p1_2w)] : List va_W)) H → va_D A (List.flatten ([(oX2 (p0a 0) p0a p0k p0n w25 (o_1.2)), (oX1 (p1a 0) p1a p1k p1n p1w p1l), (oX9 (p1a 3) p1_2a p1_2k p1_2n p1_2w)] : List va_W)) → va_K (dC, dI) cls (List.flatten ([(tX2 p0k), (tX1 p1k), (tX9 p1_2k)] : List (List (ClassId × FieldType)))) s → va_S A s.heap H locs → lv_has ls 6 [(0, .ref (p0a 0)), (2, .int p2), (5, .int v5_125)] → W p l e ({ frames := 3, cells := 0, slots := 0, locals := 74 } : Room) s m ([.ref (p0a 0), .ref (p1a 0), .int p2] : List Value).toArray below meth c H locs 0 0 Q (F0 m 179 ls [.int y0_179]) := by
          intro y0_179 H locs ls hrun hP hD hK hS hl 
          unfold fX2_colour_J179 at hrun
          refine lv_istore (lv' := [(4, .int y0_179), (0, .ref (p0a 0)), (2, .int p2), (5, .int v5_125)]) hx hb dX2_colour_179 hl (by decide) rfl (fun ls hl => ?_)
          refine lv_iinc (v := (v5_125 + (-1))) (lv' := [(5, .int (v5_125 + (-1))), (4, .int y0_179), (0, .ref (p0a 0)), (2, .int p2)]) hx hb dX2_colour_181 hl (k := 3) rfl rfl (by decide) rfl (fun ls hl => ?_)
          refine lv_goto (tgt := 125) hx hb dX2_colour_184 (by decide) ?_
          exact IH125 y0_179 (v5_125 + (-1)) w25 o125 _ _ _ hrun hP hD hK hS (lv_sub hl [2, 3, 1, 0] rfl) hk125
        have J178 : ∀ (H : Heap) (locs : List Loc) (ls : Array Slot), (fX2_colour_J178 (fX2_colour_L125 p0n p2 o_1 n_125) v5_125 w25) = some o125 → va_P (dC, dI) cls (List.flatten ([(oX2 (p0a 0) p0a p0k p0n w25 (o_1.2)), (oX1 (p1a 0) p1a p1k p1n p1w p1l), (oX9 (p1a 3) p1_2a p1_2k p1_2n p1_2w)] : List va_W)) H → va_D A (List.flatten ([(oX2 (p0a 0) p0a p0k p0n w25 (o_1.2)), (oX1 (p1a 0) p1a p1k p1n p1w p1l), (oX9 (p1a 3) p1_2a p1_2k p1_2n p1_2w)] : List va_W)) → va_K (dC, dI) cls (List.flatten ([(tX2 p0k), (tX1 p1k), (tX9 p1_2k)] : List (List (ClassId × FieldType)))) s → va_S A s.heap H locs → lv_has ls 6 [(0, .ref (p0a 0)), (2, .int p2), (5, .int v5_125)] → W p l e ({ frames := 3, cells := 0, slots := 0, locals := 74 } : Room) s m ([.ref (p0a 0), .ref (p1a 0), .int p2] : List Value).toArray below meth c H locs 0 0 Q (F0 m 178 ls []) := by
          intro  H locs ls hrun hP hD hK hS hl 
          unfold fX2_colour_J178 at hrun
          refine lv_iconst (v := 0) hx hb dX2_colour_178 (by decide) ?_
          exact J179 0 _ _ _ hrun hP hD hK hS (lv_sub hl [0, 1, 2] rfl)
        rcases br9 hrun with ⟨hc26, hrun⟩ | ⟨hc26, hrun⟩
        · refine lv_if_eq (tgt := 178) hx hb dX2_colour_156 (by decide) (fun _ => ?_) (fun c => absurd hc26 c)
          exact J178 _ _ _ hrun hP hD hK hS (lv_sub hl [0, 1, 3] rfl)
        · refine lv_if_eq (tgt := 178) hx hb dX2_colour_156 (by decide) (fun c => absurd c hc26) (fun _ => ?_)
          refine lv_aload_n hx hb dX2_colour_159 rfl (lv_at hl 0 rfl) ?_
          refine va_get (D := (dC, dI)) (ci := 9) (v := .ref (p0a 17)) (C := RX2) (T := TX2) (N := 19) hx hb hts i_X2 hown hK hP 0 rfl rfl 16 (by decide) (hts _ qw687) (fun _ h9 => h9) rfl dX2_colour_160 ?_
          refine lv_aload_n hx hb dX2_colour_163 rfl (lv_at hl 0 rfl) ?_
          refine va_get (D := (dC, dI)) (ci := 9) (v := .ref (p0a 19)) (C := RX2) (T := TX2) (N := 19) hx hb hts i_X2 hown hK hP 0 rfl rfl 18 (by decide) (hts _ qw689) (fun _ h9 => h9) rfl dX2_colour_164 ?_
          refine lv_iload hx hb dX2_colour_167 (lv_at hl 3 rfl) ?_
          obtain ⟨hq27, hrun⟩ := chk9 hrun
          refine va_iald hx hb hK hP 15 14 rfl rfl (ixb_in hq27) dX2_colour_169 ?_
          obtain ⟨hq28, hrun⟩ := chk9 hrun
          refine va_iald hx hb hK hP 13 12 rfl rfl (ixb_in hq28) dX2_colour_170 ?_
          rcases br9 hrun with ⟨hc29, hrun⟩ | ⟨hc29, hrun⟩
          · refine lv_if_lt (tgt := 178) hx hb dX2_colour_171 (by decide) (fun _ => ?_) (fun c => absurd hc29 c)
            exact J178 _ _ _ hrun hP hD hK hS (lv_sub hl [0, 1, 3] rfl)
          · refine lv_if_lt (tgt := 178) hx hb dX2_colour_171 (by decide) (fun c => absurd c hc29) (fun _ => ?_)
            refine lv_iconst (v := 1) hx hb dX2_colour_174 (by decide) ?_
            refine lv_goto (tgt := 179) hx hb dX2_colour_175 (by decide) ?_
            exact J179 1 _ _ _ hrun hP hD hK hS (lv_sub hl [0, 1, 3] rfl)
  obtain ⟨o125, hc125, hrun⟩ := bnd9 hrun
  refine L125 NF 1 ((o10.1) - 1) o82 o125 _ _ _ hc125 hP hD hK hS (lv_sub hl [2, 3, 1, 0] rfl) ?_
  intro H locs ls hP hD hK hS hl
  have hl := hl
  refine lv_iload hx hb dX2_colour_187 (lv_at hl 0 rfl) ?_
  obtain ⟨hz9, hrun⟩ := chk9 hrun
  have ho9 : ((o125.1), (o125.2), (o_1.2)) = o := Option.some.inj hrun
  have hP9 : va_P (dC, dI) cls (List.flatten ([(oX2 (p0a 0) p0a p0k p0n (o.2.1) (o.2.2)), (oX1 (p1a 0) p1a p1k p1n p1w p1l), (oX9 (p1a 3) p1_2a p1_2k p1_2n p1_2w)] : List va_W)) H := by first | exact hP | (rw [← ho9]; exact hP)
  have hD9 : va_D A (List.flatten ([(oX2 (p0a 0) p0a p0k p0n (o.2.1) (o.2.2)), (oX1 (p1a 0) p1a p1k p1n p1w p1l), (oX9 (p1a 3) p1_2a p1_2k p1_2n p1_2w)] : List va_W)) := by first | exact hD | (rw [← ho9]; exact hD)
  subst hQ
  exact W.zret (v := (o125.1)) hx hb hr (bz9 hz9) (fun t ht hW => ⟨⟨(o125.1), (), rfl, (by rw [← ho9]), ⟨by rw [ht]; exact hP9, va_K.moved hW.alike hK, hD9⟩⟩, hS.F ht⟩) hS.2.2 dX2_colour_189
def fX0_putAwayIn_J246 (p0w_246 : ST) (p0_0w_246 : ST) (p0_0_2w_246 : ST) (p0_0_2n_246 : Nat → Nat) : Option (ST × ST × ST × (Nat → Nat)) := some (p0w_246, p0_0w_246, p0_0_2w_246, p0_0_2n_246)
theorem mo_fX0_putAwayIn_J246 {p0w_246 : ST} {p0_0w_246 : ST} {p0_0_2w_246 : ST} {p0_0_2n_246 : Nat → Nat} {o9q : ST × ST × ST × (Nat → Nat)} (hrun : fX0_putAwayIn_J246 p0w_246 p0_0w_246 p0_0_2w_246 p0_0_2n_246 = some o9q) : glX9 p0_0_2n_246 (o9q.2.2.2) := by
  unfold fX0_putAwayIn_J246 at hrun
  obtain rfl := (Option.some.inj hrun)
  exact (glX9_rf _)
def fX0_putAwayIn_G235_27 (p0w_157 : ST) (o_15 : Int32 × ST × ST × (Nat → Nat)) : Option (ST × ST × ST × (Nat → Nat)) := (lt9 (upw p0w_157 0 8 ((p0w_157 0 8) + 1)) fun (w28 : ST) => (fX0_putAwayIn_J246 w28 (o_15.2.1) (o_15.2.2.1) (o_15.2.2.2)))
theorem mo_fX0_putAwayIn_G235_27 {p0w_157 : ST} {o_15 : Int32 × ST × ST × (Nat → Nat)} {o9q : ST × ST × ST × (Nat → Nat)} (hrun : fX0_putAwayIn_G235_27 p0w_157 o_15 = some o9q) : glX9 (o_15.2.2.2) (o9q.2.2.2) := by
  unfold fX0_putAwayIn_G235_27 at hrun
  obtain ⟨w28, ew28, hrun⟩ := let9 hrun
  exact (mo_fX0_putAwayIn_J246 hrun)
def fX0_putAwayIn_J182 (p1 : Int32) (p2 : Int32) (p0w_157 : ST) (p0_0w_157 : ST) (p0_0_2w_157 : ST) (p0_0_2n_157 : Nat → Nat) (y0_182 : Int32) : Option (ST × ST × ST × (Nat → Nat)) := (if y0_182 = (-2) then some (p0w_157, p0_0w_157, p0_0_2w_157, p0_0_2n_157) else ((fX1_link p0_0w_157 p1 p2 p0_0_2n_157 p0_0_2w_157).bind fun (o_11 : ST × ST) => (if y0_182 = (-1) then (fX0_putAwayIn_J246 p0w_157 (o_11.1) (o_11.2) p0_0_2n_157) else (if ixb p2 (p0_0_2n_157 3) = true then (lt9 (upw (o_11.2) 3 (nn p2) (p0w_157 0 8)) fun (w14 : ST) => ((fX1_addStep (o_11.1) p1 27 (-1) (p0w_157 0 8) y0_182 p0_0_2n_157 w14).bind fun (o_15 : Int32 × ST × ST × (Nat → Nat)) => (fX0_putAwayIn_G235_27 p0w_157 o_15))) else none))))
theorem mo_fX0_putAwayIn_J182 {p1 : Int32} {p2 : Int32} {p0w_157 : ST} {p0_0w_157 : ST} {p0_0_2w_157 : ST} {p0_0_2n_157 : Nat → Nat} {y0_182 : Int32} {o9q : ST × ST × ST × (Nat → Nat)} (hrun : fX0_putAwayIn_J182 p1 p2 p0w_157 p0_0w_157 p0_0_2w_157 p0_0_2n_157 y0_182 = some o9q) : glX9 p0_0_2n_157 (o9q.2.2.2) := by
  unfold fX0_putAwayIn_J182 at hrun
  rcases br9 hrun with ⟨hc10, hrun⟩ | ⟨hc10, hrun⟩
  · skip
    obtain rfl := (Option.some.inj hrun)
    exact (glX9_rf _)
  · skip
    obtain ⟨o_11, hc_11, hrun⟩ := bnd9 hrun
    rcases br9 hrun with ⟨hc12, hrun⟩ | ⟨hc12, hrun⟩
    · skip
      exact (mo_fX0_putAwayIn_J246 hrun)
    · skip
      obtain ⟨hq13, hrun⟩ := chk9 hrun
      obtain ⟨w14, ew14, hrun⟩ := let9 hrun
      obtain ⟨o_15, hc_15, hrun⟩ := bnd9 hrun
      exact (glX9_tr (mo_fX1_addStep hc_15) (mo_fX0_putAwayIn_G235_27 hrun))
def fX0_putAwayIn_J157 (p0n : Nat → Nat) (p1 : Int32) (p2 : Int32) (p0w_157 : ST) (p0_0w_157 : ST) (p0_0_2w_157 : ST) (p0_0_2n_157 : Nat → Nat) : Option (ST × ST × ST × (Nat → Nat)) := (if ixb p2 (p0_0_2n_157 3) = true then (if 0 ≤ (p0_0_2w_157 3 (nn p2)) then (if ixb (p0_0_2w_157 3 (nn p2)) (p0n 13) = true then (fX0_putAwayIn_J182 p1 p2 p0w_157 p0_0w_157 p0_0_2w_157 p0_0_2n_157 (p0w_157 13 (nn (p0_0_2w_157 3 (nn p2))))) else none) else (fX0_putAwayIn_J182 p1 p2 p0w_157 p0_0w_157 p0_0_2w_157 p0_0_2n_157 (-1))) else none)
theorem mo_fX0_putAwayIn_J157 {p0n : Nat → Nat} {p1 : Int32} {p2 : Int32} {p0w_157 : ST} {p0_0w_157 : ST} {p0_0_2w_157 : ST} {p0_0_2n_157 : Nat → Nat} {o9q : ST × ST × ST × (Nat → Nat)} (hrun : fX0_putAwayIn_J157 p0n p1 p2 p0w_157 p0_0w_157 p0_0_2w_157 p0_0_2n_157 = some o9q) : glX9 p0_0_2n_157 (o9q.2.2.2) := by
  unfold fX0_putAwayIn_J157 at hrun
  obtain ⟨hq9, hrun⟩ := chk9 hrun
  rcases br9 hrun with ⟨hc29, hrun⟩ | ⟨hc29, hrun⟩
  · skip
    obtain ⟨hq30, hrun⟩ := chk9 hrun
    exact (mo_fX0_putAwayIn_J182 hrun)
  · skip
    exact (mo_fX0_putAwayIn_J182 hrun)
def fX0_putAwayIn_G146_47 (p0n : Nat → Nat) (p1 : Int32) (p2 : Int32) (o_35 : Int32 × ST × ST × ST × (Nat → Nat)) : Option (ST × ST × ST × (Nat → Nat)) := (if ixb p2 ((o_35.2.2.2.2) 5) = true then (lt9 (upw (o_35.2.2.2.1) 5 (nn p2) (o_35.1)) fun (w49 : ST) => (fX0_putAwayIn_J157 p0n p1 p2 (o_35.2.1) (o_35.2.2.1) w49 (o_35.2.2.2.2))) else none)
theorem mo_fX0_putAwayIn_G146_47 {p0n : Nat → Nat} {p1 : Int32} {p2 : Int32} {o_35 : Int32 × ST × ST × ST × (Nat → Nat)} {o9q : ST × ST × ST × (Nat → Nat)} (hrun : fX0_putAwayIn_G146_47 p0n p1 p2 o_35 = some o9q) : glX9 (o_35.2.2.2.2) (o9q.2.2.2) := by
  unfold fX0_putAwayIn_G146_47 at hrun
  obtain ⟨hq48, hrun⟩ := chk9 hrun
  obtain ⟨w49, ew49, hrun⟩ := let9 hrun
  exact (mo_fX0_putAwayIn_J157 hrun)
def fX0_putAwayIn_J100 (p0n : Nat → Nat) (p1 : Int32) (p2 : Int32) (p3 : Int32) (p0w_100 : ST) (p0_0w_100 : ST) (p0_0_2w_100 : ST) (p0_0_2n_100 : Nat → Nat) : Option (ST × ST × ST × (Nat → Nat)) := (if ixb p2 (p0_0_2n_100 5) = true then (if ixb p2 (p0_0_2n_100 2) = true then ((fX11_usesRight (p0_0_2w_100 2 (nn p2))).bind fun (o_7 : Int32) => (if o_7 = 0 then (fX0_putAwayIn_J157 p0n p1 p2 p0w_100 p0_0w_100 p0_0_2w_100 p0_0_2n_100) else (if p3 ≤ (p0_0_2w_100 5 (nn p2)) then (fX0_putAwayIn_J157 p0n p1 p2 p0w_100 p0_0w_100 p0_0_2w_100 p0_0_2n_100) else (if ixb (p0_0_2w_100 5 (nn p2)) (p0n 13) = true then (if (p0w_100 13 (nn (p0_0_2w_100 5 (nn p2)))) = (-1) then (fX0_putAwayIn_J157 p0n p1 p2 p0w_100 p0_0w_100 p0_0_2w_100 p0_0_2n_100) else ((fX0_fetch p0n p0w_100 p1 (p0_0_2w_100 5 (nn p2)) p0_0w_100 p0_0_2n_100 p0_0_2w_100).bind fun (o_35 : Int32 × ST × ST × ST × (Nat → Nat)) => (fX0_putAwayIn_G146_47 p0n p1 p2 o_35))) else none)))) else none) else none)
theorem mo_fX0_putAwayIn_J100 {p0n : Nat → Nat} {p1 : Int32} {p2 : Int32} {p3 : Int32} {p0w_100 : ST} {p0_0w_100 : ST} {p0_0_2w_100 : ST} {p0_0_2n_100 : Nat → Nat} {o9q : ST × ST × ST × (Nat → Nat)} (hrun : fX0_putAwayIn_J100 p0n p1 p2 p3 p0w_100 p0_0w_100 p0_0_2w_100 p0_0_2n_100 = some o9q) : glX9 p0_0_2n_100 (o9q.2.2.2) := by
  unfold fX0_putAwayIn_J100 at hrun
  obtain ⟨hq5, hrun⟩ := chk9 hrun
  obtain ⟨hq6, hrun⟩ := chk9 hrun
  obtain ⟨o_7, hc_7, hrun⟩ := bnd9 hrun
  rcases br9 hrun with ⟨hc31, hrun⟩ | ⟨hc31, hrun⟩
  · skip
    exact (mo_fX0_putAwayIn_J157 hrun)
  · skip
    rcases br9 hrun with ⟨hc32, hrun⟩ | ⟨hc32, hrun⟩
    · skip
      exact (mo_fX0_putAwayIn_J157 hrun)
    · skip
      obtain ⟨hq33, hrun⟩ := chk9 hrun
      rcases br9 hrun with ⟨hc34, hrun⟩ | ⟨hc34, hrun⟩
      · skip
        exact (mo_fX0_putAwayIn_J157 hrun)
      · skip
        obtain ⟨o_35, hc_35, hrun⟩ := bnd9 hrun
        exact (glX9_tr (mo_fX0_fetch hc_35) (mo_fX0_putAwayIn_G146_47 hrun))
def fX0_putAwayIn_G55_66 (p0n : Nat → Nat) (p1 : Int32) (p2 : Int32) (p3 : Int32) (p0_0_2w : ST) (o_54 : Int32 × ST × ST × ST × (Nat → Nat)) : Option (ST × ST × ST × (Nat → Nat)) := (if ixb p2 ((o_54.2.2.2.2) 4) = true then (lt9 (upw (o_54.2.2.2.1) 4 (nn p2) (o_54.1)) fun (w68 : ST) => (if ixb p2 ((o_54.2.2.2.2) 2) = true then ((fX11_usesRight (w68 2 (nn p2))).bind fun (o_70 : Int32) => (if o_70 = 0 then (fX0_putAwayIn_J100 p0n p1 p2 p3 (o_54.2.1) (o_54.2.2.1) w68 (o_54.2.2.2.2)) else (if ixb p2 ((o_54.2.2.2.2) 5) = true then (if (w68 5 (nn p2)) = (p0_0_2w 4 (nn p2)) then (if ixb p2 ((o_54.2.2.2.2) 5) = true then (lt9 (upw w68 5 (nn p2) (o_54.1)) fun (w76 : ST) => (fX0_putAwayIn_J100 p0n p1 p2 p3 (o_54.2.1) (o_54.2.2.1) w76 (o_54.2.2.2.2))) else none) else (fX0_putAwayIn_J100 p0n p1 p2 p3 (o_54.2.1) (o_54.2.2.1) w68 (o_54.2.2.2.2))) else none))) else none)) else none)
theorem mo_fX0_putAwayIn_G55_66 {p0n : Nat → Nat} {p1 : Int32} {p2 : Int32} {p3 : Int32} {p0_0_2w : ST} {o_54 : Int32 × ST × ST × ST × (Nat → Nat)} {o9q : ST × ST × ST × (Nat → Nat)} (hrun : fX0_putAwayIn_G55_66 p0n p1 p2 p3 p0_0_2w o_54 = some o9q) : glX9 (o_54.2.2.2.2) (o9q.2.2.2) := by
  unfold fX0_putAwayIn_G55_66 at hrun
  obtain ⟨hq67, hrun⟩ := chk9 hrun
  obtain ⟨w68, ew68, hrun⟩ := let9 hrun
  obtain ⟨hq69, hrun⟩ := chk9 hrun
  obtain ⟨o_70, hc_70, hrun⟩ := bnd9 hrun
  rcases br9 hrun with ⟨hc72, hrun⟩ | ⟨hc72, hrun⟩
  · skip
    exact (mo_fX0_putAwayIn_J100 hrun)
  · skip
    obtain ⟨hq73, hrun⟩ := chk9 hrun
    rcases br9 hrun with ⟨hc74, hrun⟩ | ⟨hc74, hrun⟩
    · skip
      obtain ⟨hq75, hrun⟩ := chk9 hrun
      obtain ⟨w76, ew76, hrun⟩ := let9 hrun
      exact (mo_fX0_putAwayIn_J100 hrun)
    · skip
      exact (mo_fX0_putAwayIn_J100 hrun)
def fX0_putAwayIn (p0n : Nat → Nat) (p0w : ST) (p1 : Int32) (p2 : Int32) (p3 : Int32) (p0_0w : ST) (p0_0_2n : Nat → Nat) (p0_0_2w : ST) : Option (ST × ST × ST × (Nat → Nat)) := (if ixb p2 (p0_0_2n 4) = true then (if ixb p2 (p0_0_2n 2) = true then ((fX11_usesLeft (p0_0_2w 2 (nn p2))).bind fun (o_3 : Int32) => (if o_3 = 0 then (fX0_putAwayIn_J100 p0n p1 p2 p3 p0w p0_0w p0_0_2w p0_0_2n) else (if p3 ≤ (p0_0_2w 4 (nn p2)) then (fX0_putAwayIn_J100 p0n p1 p2 p3 p0w p0_0w p0_0_2w p0_0_2n) else (if ixb (p0_0_2w 4 (nn p2)) (p0n 13) = true then (if (p0w 13 (nn (p0_0_2w 4 (nn p2)))) = (-1) then (fX0_putAwayIn_J100 p0n p1 p2 p3 p0w p0_0w p0_0_2w p0_0_2n) else ((fX0_fetch p0n p0w p1 (p0_0_2w 4 (nn p2)) p0_0w p0_0_2n p0_0_2w).bind fun (o_54 : Int32 × ST × ST × ST × (Nat → Nat)) => (fX0_putAwayIn_G55_66 p0n p1 p2 p3 p0_0_2w o_54))) else none)))) else none) else none)
theorem mo_fX0_putAwayIn {p0n : Nat → Nat} {p0w : ST} {p1 : Int32} {p2 : Int32} {p3 : Int32} {p0_0w : ST} {p0_0_2n : Nat → Nat} {p0_0_2w : ST} {o9q : ST × ST × ST × (Nat → Nat)} (hrun : fX0_putAwayIn p0n p0w p1 p2 p3 p0_0w p0_0_2n p0_0_2w = some o9q) : glX9 p0_0_2n (o9q.2.2.2) := by
  unfold fX0_putAwayIn at hrun
  obtain ⟨hq1, hrun⟩ := chk9 hrun
  obtain ⟨hq2, hrun⟩ := chk9 hrun
  obtain ⟨o_3, hc_3, hrun⟩ := bnd9 hrun
  rcases br9 hrun with ⟨hc50, hrun⟩ | ⟨hc50, hrun⟩
  · skip
    exact (mo_fX0_putAwayIn_J100 hrun)
  · skip
    rcases br9 hrun with ⟨hc51, hrun⟩ | ⟨hc51, hrun⟩
    · skip
      exact (mo_fX0_putAwayIn_J100 hrun)
    · skip
      obtain ⟨hq52, hrun⟩ := chk9 hrun
      rcases br9 hrun with ⟨hc53, hrun⟩ | ⟨hc53, hrun⟩
      · skip
        exact (mo_fX0_putAwayIn_J100 hrun)
      · skip
        obtain ⟨o_54, hc_54, hrun⟩ := bnd9 hrun
        exact (glX9_tr (mo_fX0_fetch hc_54) (mo_fX0_putAwayIn_G55_66 hrun))
set_option maxHeartbeats 16000000 in
set_option maxRecDepth 100000 in
theorem kX0_putAwayIn {zs : ZS} (l : Launch) (dC : Nat → ClassId) (dI : Nat → Nat → Nat) (p0a : Nat → Nat) (p0k : Nat → ClassId) (p0n : Nat → Nat) (p0w : ST) (p1 : Int32) (p2 : Int32) (p3 : Int32) (p0_0a : Nat → Nat) (p0_0k : Nat → ClassId) (p0_0n : Nat → Nat) (p0_0w : ST) (p0_0l : SL) (p0_0_2a : Nat → Nat) (p0_0_2k : Nat → ClassId) (p0_0_2n : Nat → Nat) (p0_0_2w : ST) (sz : Nat) (o : ST × ST × ST × (Nat → Nat)) (hrun : fX0_putAwayIn p0n p0w p1 p2 p3 p0_0w p0_0_2n p0_0_2w = some o) : Met l yX0_putAwayIn (wz yX0_putAwayIn cX0_putAwayIn 9 (Option.none : Option Jvm.ClassFile.FieldType)) ({ frames := 5, cells := (hcX9 p0_0_2n (o.2.2.2)), slots := (3 * (gcX9 p0_0_2n (o.2.2.2))), locals := 135 } : Room) (va_Pc [.ref (p0a 0), .int p1, .int p2, .int p3] (PRE zs dC dI (List.flatten ([(oX0 (p0a 0) p0a p0k p0n p0w), (oX1 (p0a 1) p0_0a p0_0k p0_0n p0_0w p0_0l), (oX9 (p0_0a 3) p0_0_2a p0_0_2k p0_0_2n p0_0_2w)] : List va_W)) (List.flatten ([(tX0 p0k), (tX1 p0_0k), (tX9 p0_0_2k)] : List (List (ClassId × FieldType)))) sz)) (va_Qv (fun (_ : Unit) => True) (fun _ t => ∃ (xp0_0_2_1_z : Nat), ∃ (zp0_0_2_1_z : ClassId), ∃ (xp0_0_2_2_z : Nat), ∃ (zp0_0_2_2_z : ClassId), ∃ (xp0_0_2_3_z : Nat), ∃ (zp0_0_2_3_z : ClassId), ∃ (xp0_0_2_4_z : Nat), ∃ (zp0_0_2_4_z : ClassId), ∃ (xp0_0_2_5_z : Nat), ∃ (zp0_0_2_5_z : ClassId), POST dC dI (List.flatten ([(oX0 (p0a 0) p0a p0k p0n (o.1)), (oX1 (p0a 1) p0_0a p0_0k p0_0n (o.2.1) p0_0l), (oX9 (p0_0a 3) (st1 (st1 (st1 (st1 (st1 p0_0_2a 2 xp0_0_2_1_z) 3 xp0_0_2_2_z) 4 xp0_0_2_3_z) 5 xp0_0_2_4_z) 6 xp0_0_2_5_z) (st1 (st1 (st1 (st1 (st1 p0_0_2k 2 zp0_0_2_1_z) 3 zp0_0_2_2_z) 4 zp0_0_2_3_z) 5 zp0_0_2_4_z) 6 zp0_0_2_5_z) (o.2.2.2) (o.2.2.1))] : List va_W)) (List.flatten ([(tX0 p0k), (tX1 p0_0k), (tX9 (st1 (st1 (st1 (st1 (st1 p0_0_2k 2 zp0_0_2_1_z) 3 zp0_0_2_2_z) 4 zp0_0_2_3_z) 5 zp0_0_2_4_z) 6 zp0_0_2_5_z))] : List (List (ClassId × FieldType)))) (va_A (List.flatten ([(oX0 (p0a 0) p0a p0k p0n p0w), (oX1 (p0a 1) p0_0a p0_0k p0_0n p0_0w p0_0l), (oX9 (p0_0a 3) p0_0_2a p0_0_2k p0_0_2n p0_0_2w)] : List va_W)) sz) t) (va_A (List.flatten ([(oX0 (p0a 0) p0a p0k p0n p0w), (oX1 (p0a 1) p0_0a p0_0k p0_0n p0_0w p0_0l), (oX9 (p0_0a 3) p0_0_2a p0_0_2k p0_0_2n p0_0_2w)] : List va_W)) sz)) (hcX9 p0_0_2n (o.2.2.2)) (3 * (gcX9 p0_0_2n (o.2.2.2))) (va_A (List.flatten ([(oX0 (p0a 0) p0a p0k p0n p0w), (oX1 (p0a 1) p0_0a p0_0k p0_0n p0_0w p0_0l), (oX9 (p0_0a 3) p0_0_2a p0_0_2k p0_0_2n p0_0_2w)] : List va_W)) sz) := by
  refine Met.ofW (cc := cX0_putAwayIn) (maxL := 9) (ret := (Option.none : Option Jvm.ClassFile.FieldType)) (by decide) rfl ?_
  intro p e s m args below meth c s₁ B hml hv
  obtain ⟨rfl, hsz, hP, hK, hD0, hE⟩ := hv
  have hx := B.exec
  have hb := B.bytes
  have hr := B.returns
  have hts0 := atoms_spec (ws := wz yX0_putAwayIn cX0_putAwayIn 9 (Option.none : Option Jvm.ClassFile.FieldType)) B.pre
  have hts : ∀ w ∈ gw, w.before _ s = true := fun w h => hts0 w (List.mem_cons_of_mem _ h)
  have hown : s.vm.findClass RX0 = some m.cls := findClass_of_methodNamed B.named
  have hlocks := B.notSynchronized
  subst hsz
  have hD := hD0.self (sz := s.heap.size)
  refine gQ9 ?_
  intro Q hQ
  generalize hAe : va_A (List.flatten ([(oX0 (p0a 0) p0a p0k p0n p0w), (oX1 (p0a 1) p0_0a p0_0k p0_0n p0_0w p0_0l), (oX9 (p0_0a 3) p0_0_2a p0_0_2k p0_0_2n p0_0_2w)] : List va_W)) s.heap.size = A at hD hE hQ
  have hA : ∀ q : Nat, s.heap.size ≤ q → A q := fun q h => by rw [← hAe]; exact Or.inr h
  have hS : va_S A s.heap s.heap [] := va_S.rf
  have hP : va_P (dC, dI) cls (List.flatten ([(oX0 (p0a 0) p0a p0k p0n p0w), (oX1 (p0a 1) p0_0a p0_0k p0_0n p0_0w p0_0l), (oX9 (p0_0a 3) p0_0_2a p0_0_2k p0_0_2n p0_0_2w)] : List va_W)) s.heap := hP
  have hl := lv_entry ([.ref (p0a 0), .int p1, .int p2, .int p3]) (n := 9) (Nat.le_of_ble_eq_true rfl)
  rw [lg_entry_eq]
  generalize (lg_sl ([.ref (p0a 0), .int p1, .int p2, .int p3]) ++ List.replicate (9 - (lg_sl ([.ref (p0a 0), .int p1, .int p2, .int p3])).length) Slot.unset).toArray = ls at hl ⊢
  have hl : lv_has ls 9 [(0, .ref (p0a 0)), (1, .int p1), (2, .int p2), (3, .int p3)] := hl
  obtain ⟨H, hHe⟩ : ∃ H, H = s.heap := ⟨_, rfl⟩
  obtain ⟨locs, hle⟩ : ∃ locs : List Loc, locs = [] := ⟨_, rfl⟩
  rw [← hHe] at hP
  have hS : va_S A s.heap H locs := by rw [hHe, hle]; exact hS
  show W p l e ({ frames := 5, cells := (hcX9 p0_0_2n (o.2.2.2)), slots := (3 * (gcX9 p0_0_2n (o.2.2.2))), locals := 135 } : Room) s m ([.ref (p0a 0), .int p1, .int p2, .int p3] : List Value).toArray below meth c s.heap [] 0 0 Q (F0 m 0 ls [])
  rw [← hle]
  refine wH9 hHe ?_
  have hg_p0_0_2 := glX9_rf p0_0_2n
  have hgn_p0_0_2 : glX9 p0_0_2n (o.2.2.2) := (mo_fX0_putAwayIn hrun)
  refine W.widen (k := (hcX9 p0_0_2n p0_0_2n)) (n := (3 * (gcX9 p0_0_2n p0_0_2n))) (Nat.zero_le _) (Nat.zero_le _) ?_
  unfold fX0_putAwayIn at hrun
  refine lv_aload_n hx hb dX0_putAwayIn_0 rfl (lv_at hl 0 rfl) ?_
  refine va_get (D := (dC, dI)) (ci := 8) (v := .ref (p0a 1)) (C := RX0) (T := TX0) (N := 17) hx hb hts i_X0 hown hK hP 0 rfl rfl 0 (by decide) (hts _ qw618) (fun _ h9 => h9) rfl dX0_putAwayIn_1 ?_
  refine va_get (D := (dC, dI)) (ci := 4) (v := .ref (p0_0a 3)) (C := RX1) (T := TX1) (N := 21) hx hb hts i_X1 hown hK hP 9 rfl rfl 2 (by decide) (hts _ qw629) (fun _ h9 => h9) rfl dX0_putAwayIn_4 ?_
  refine lv_astore (lv' := [(4, .ref (p0_0a 3)), (0, .ref (p0a 0)), (1, .int p1), (2, .int p2), (3, .int p3)]) hx hb dX0_putAwayIn_7 hl (by decide) rfl (fun ls hl => ?_)
  refine lv_aload hx hb dX0_putAwayIn_9 (lv_at hl 0 rfl) ?_
  refine va_get (D := (dC, dI)) (ci := 3) (v := .ref (p0_0_2a 4)) (C := RX9) (T := TX9) (N := 6) hx hb hts i_X9 hown hK hP 27 rfl rfl 3 (by decide) (hts _ qw631) (fun _ h9 => h9) rfl dX0_putAwayIn_11 ?_
  refine lv_iload_n hx hb dX0_putAwayIn_14 rfl (lv_at hl 3 rfl) ?_
  obtain ⟨hq1, hrun⟩ := chk9 hrun
  refine va_iald hx hb hK hP 30 27 rfl rfl (ixb_in hq1) dX0_putAwayIn_15 ?_
  refine lv_istore (lv' := [(5, .int (p0_0_2w 4 (nn p2))), (4, .ref (p0_0a 3)), (0, .ref (p0a 0)), (1, .int p1), (2, .int p2), (3, .int p3)]) hx hb dX0_putAwayIn_16 hl (by decide) rfl (fun ls hl => ?_)
  refine lv_aload hx hb dX0_putAwayIn_18 (lv_at hl 1 rfl) ?_
  refine va_get (D := (dC, dI)) (ci := 3) (v := .ref (p0_0_2a 2)) (C := RX9) (T := TX9) (N := 6) hx hb hts i_X9 hown hK hP 27 rfl rfl 1 (by decide) (hts _ qw630) (fun _ h9 => h9) rfl dX0_putAwayIn_20 ?_
  refine lv_iload_n hx hb dX0_putAwayIn_23 rfl (lv_at hl 4 rfl) ?_
  obtain ⟨hq2, hrun⟩ := chk9 hrun
  refine va_iald hx hb hK hP 28 25 rfl rfl (ixb_in hq2) dX0_putAwayIn_24 ?_
  obtain ⟨o_3, hc_3, hrun⟩ := bnd9 hrun
  have hPx : va_P (dC, dI) cls ((List.flatten ([] : List va_W)) ++ (List.flatten ([(oX0 (p0a 0) p0a p0k p0n p0w), (oX1 (p0a 1) p0_0a p0_0k p0_0n p0_0w p0_0l), (oX9 (p0_0a 3) p0_0_2a p0_0_2k p0_0_2n p0_0_2w)] : List va_W))) H := vP_fa (vP_perm hP (bP (List.Perm.refl _)))
  have hDx : va_D A ((List.flatten ([] : List va_W)) ++ (List.flatten ([(oX0 (p0a 0) p0a p0k p0n p0w), (oX1 (p0a 1) p0_0a p0_0k p0_0n p0_0w p0_0l), (oX9 (p0_0a 3) p0_0_2a p0_0_2k p0_0_2n p0_0_2w)] : List va_W))) := vD_fa (vD_perm hD (bP (List.Perm.refl _)))
  have hKx : va_K (dC, dI) cls ((List.flatten ([] : List (List (ClassId × FieldType)))) ++ (List.flatten ([(tX0 p0k), (tX1 p0_0k), (tX9 p0_0_2k)] : List (List (ClassId × FieldType))))) s := vK_fa (vK_perm hK (bP (List.Perm.refl _)))
  have hPc := vP_l hPx
  have hDc := vD_l hDx
  have hKc := vK_l hKx
  have hFc := vfree hDx hS hA
  refine va_calli (va_runSN (As := [.int (p0_0_2w 2 (nn p2))]) (rest := []) ⟨hx, hb, hml, hown, hts⟩ (kX11_usesLeft l dC dI (p0 := (p0_0_2w 2 (nn p2))) (sz := _) (o := o_3) (hrun := hc_3)) ⟨(va_cnB 1 hts (gi_z qw446) rfl rfl rfl (hE.nw (List.mem_append_right _ (tbl_9 (i := 64) rfl)) rfl) (hts _ qw129) (by decide +kernel) ⟨Nat.le_of_ble_eq_true rfl, Nat.le_of_ble_eq_true rfl⟩), (hts _ qw447), trivial⟩ ⟨PRE.blind, PRE.of hE hS hFc hPc hKc hDc⟩ rfl rfl hl.1 rfl (lv_room (Nat.le_of_ble_eq_true rfl)) dX0_putAwayIn_25 ⟨(show (hcX9 p0_0_2n p0_0_2n) + 0 ≤ (hcX9 p0_0_2n (o.2.2.2)) from by have q0 := gmX9 hg_p0_0_2 hgn_p0_0_2; omega), (show (3 * (gcX9 p0_0_2n p0_0_2n)) + 0 ≤ (3 * (gcX9 p0_0_2n (o.2.2.2))) from by have q0 := gmX9 hg_p0_0_2 hgn_p0_0_2; omega)⟩) hS (fun q _ h => hFc q h) hFc (fun r4 u t H locs ht hvm hw hB hz1 hk1 hS => ?_)
  obtain ⟨b1, b2, b3⟩ := hB
  rw [ht] at b1
  obtain ⟨hP, hD, hK⟩ := JOINC (wc := (List.flatten ([] : List va_W))) (wr := (List.flatten ([(oX0 (p0a 0) p0a p0k p0n p0w), (oX1 (p0a 1) p0_0a p0_0k p0_0n p0_0w p0_0l), (oX9 (p0_0a 3) p0_0_2a p0_0_2k p0_0_2n p0_0_2w)] : List va_W))) (w1 := (List.flatten ([] : List va_W))) (t1 := (List.flatten ([] : List (List (ClassId × FieldType))))) hPx hDx hKx hk1 hFc b1 (va_K.moved hvm.symm b2) b3
  have hP : va_P (dC, dI) cls (List.flatten ([(oX0 (p0a 0) p0a p0k p0n p0w), (oX1 (p0a 1) p0_0a p0_0k p0_0n p0_0w p0_0l), (oX9 (p0_0a 3) p0_0_2a p0_0_2k p0_0_2n p0_0_2w)] : List va_W)) H := vP_perm (vP_fb hP) (bP (List.Perm.refl _))
  have hD : va_D A (List.flatten ([(oX0 (p0a 0) p0a p0k p0n p0w), (oX1 (p0a 1) p0_0a p0_0k p0_0n p0_0w p0_0l), (oX9 (p0_0a 3) p0_0_2a p0_0_2k p0_0_2n p0_0_2w)] : List va_W)) := vD_perm (vD_fb hD) (bP (List.Perm.refl _))
  have hK : va_K (dC, dI) cls (List.flatten ([(tX0 p0k), (tX1 p0_0k), (tX9 p0_0_2k)] : List (List (ClassId × FieldType)))) s := vK_perm (vK_fb hK) (bP (List.Perm.refl _))
  obtain rfl : o_3 = r4 := hw.symm
  have J100 : ∀ (p0w_100 : ST) (p0_0w_100 : ST) (p0_0_2w_100 : ST) (p0_0_2n_100 : Nat → Nat) (xp0_0_2_1_100 : Nat) (zp0_0_2_1_100 : ClassId) (xp0_0_2_2_100 : Nat) (zp0_0_2_2_100 : ClassId) (xp0_0_2_3_100 : Nat) (zp0_0_2_3_100 : ClassId) (xp0_0_2_4_100 : Nat) (zp0_0_2_4_100 : ClassId) (xp0_0_2_5_100 : Nat) (zp0_0_2_5_100 : ClassId) (H : Heap) (locs : List Loc) (ls : Array Slot), (fX0_putAwayIn_J100 p0n p1 p2 p3 p0w_100 p0_0w_100 p0_0_2w_100 p0_0_2n_100) = some o → va_P (dC, dI) cls (List.flatten ([(oX0 (p0a 0) p0a p0k p0n p0w_100), (oX1 (p0a 1) p0_0a p0_0k p0_0n p0_0w_100 p0_0l), (oX9 (p0_0a 3) (st1 (st1 (st1 (st1 (st1 p0_0_2a 2 xp0_0_2_1_100) 3 xp0_0_2_2_100) 4 xp0_0_2_3_100) 5 xp0_0_2_4_100) 6 xp0_0_2_5_100) (st1 (st1 (st1 (st1 (st1 p0_0_2k 2 zp0_0_2_1_100) 3 zp0_0_2_2_100) 4 zp0_0_2_3_100) 5 zp0_0_2_4_100) 6 zp0_0_2_5_100) p0_0_2n_100 p0_0_2w_100)] : List va_W)) H → va_D A (List.flatten ([(oX0 (p0a 0) p0a p0k p0n p0w_100), (oX1 (p0a 1) p0_0a p0_0k p0_0n p0_0w_100 p0_0l), (oX9 (p0_0a 3) (st1 (st1 (st1 (st1 (st1 p0_0_2a 2 xp0_0_2_1_100) 3 xp0_0_2_2_100) 4 xp0_0_2_3_100) 5 xp0_0_2_4_100) 6 xp0_0_2_5_100) (st1 (st1 (st1 (st1 (st1 p0_0_2k 2 zp0_0_2_1_100) 3 zp0_0_2_2_100) 4 zp0_0_2_3_100) 5 zp0_0_2_4_100) 6 zp0_0_2_5_100) p0_0_2n_100 p0_0_2w_100)] : List va_W)) → va_K (dC, dI) cls (List.flatten ([(tX0 p0k), (tX1 p0_0k), (tX9 (st1 (st1 (st1 (st1 (st1 p0_0_2k 2 zp0_0_2_1_100) 3 zp0_0_2_2_100) 4 zp0_0_2_3_100) 5 zp0_0_2_4_100) 6 zp0_0_2_5_100))] : List (List (ClassId × FieldType)))) s → va_S A s.heap H locs → lv_has ls 9 [(0, .ref (p0a 0)), (1, .int p1), (2, .int p2), (3, .int p3), (4, .ref (p0_0a 3))] → glX9 p0_0_2n p0_0_2n_100 → W p l e ({ frames := 5, cells := (hcX9 p0_0_2n (o.2.2.2)), slots := (3 * (gcX9 p0_0_2n (o.2.2.2))), locals := 135 } : Room) s m ([.ref (p0a 0), .int p1, .int p2, .int p3] : List Value).toArray below meth c H locs (hcX9 p0_0_2n p0_0_2n_100) (3 * (gcX9 p0_0_2n p0_0_2n_100)) Q (F0 m 100 ls []) := by
    intro p0w_100 p0_0w_100 p0_0_2w_100 p0_0_2n_100 xp0_0_2_1_100 zp0_0_2_1_100 xp0_0_2_2_100 zp0_0_2_2_100 xp0_0_2_3_100 zp0_0_2_3_100 xp0_0_2_4_100 zp0_0_2_4_100 xp0_0_2_5_100 zp0_0_2_5_100 H locs ls hrun hP hD hK hS hl hg_p0_0_2 
    have hgn_p0_0_2 : glX9 p0_0_2n_100 (o.2.2.2) := (mo_fX0_putAwayIn_J100 hrun)
    unfold fX0_putAwayIn_J100 at hrun
    refine lv_aload hx hb dX0_putAwayIn_100 (lv_at hl 4 rfl) ?_
    refine va_get (D := (dC, dI)) (ci := 3) (v := .ref xp0_0_2_4_100) (C := RX9) (T := TX9) (N := 6) hx hb hts i_X9 hown hK hP 27 rfl rfl 4 (by decide) (hts _ qw801) (fun _ h9 => h9) rfl dX0_putAwayIn_102 ?_
    refine lv_iload_n hx hb dX0_putAwayIn_105 rfl (lv_at hl 2 rfl) ?_
    obtain ⟨hq5, hrun⟩ := chk9 hrun
    refine va_iald hx hb hK hP 31 28 rfl rfl (ixb_in hq5) dX0_putAwayIn_106 ?_
    refine lv_istore (lv' := [(6, .int (p0_0_2w_100 5 (nn p2))), (0, .ref (p0a 0)), (1, .int p1), (2, .int p2), (3, .int p3), (4, .ref (p0_0a 3))]) hx hb dX0_putAwayIn_107 hl (by decide) rfl (fun ls hl => ?_)
    refine lv_aload hx hb dX0_putAwayIn_109 (lv_at hl 5 rfl) ?_
    refine va_get (D := (dC, dI)) (ci := 3) (v := .ref xp0_0_2_1_100) (C := RX9) (T := TX9) (N := 6) hx hb hts i_X9 hown hK hP 27 rfl rfl 1 (by decide) (hts _ qw630) (fun _ h9 => h9) rfl dX0_putAwayIn_111 ?_
    refine lv_iload_n hx hb dX0_putAwayIn_114 rfl (lv_at hl 3 rfl) ?_
    obtain ⟨hq6, hrun⟩ := chk9 hrun
    refine va_iald hx hb hK hP 28 25 rfl rfl (ixb_in hq6) dX0_putAwayIn_115 ?_
    obtain ⟨o_7, hc_7, hrun⟩ := bnd9 hrun
    have hPx : va_P (dC, dI) cls ((List.flatten ([] : List va_W)) ++ (List.flatten ([(oX0 (p0a 0) p0a p0k p0n p0w_100), (oX1 (p0a 1) p0_0a p0_0k p0_0n p0_0w_100 p0_0l), (oX9 (p0_0a 3) (st1 (st1 (st1 (st1 (st1 p0_0_2a 2 xp0_0_2_1_100) 3 xp0_0_2_2_100) 4 xp0_0_2_3_100) 5 xp0_0_2_4_100) 6 xp0_0_2_5_100) (st1 (st1 (st1 (st1 (st1 p0_0_2k 2 zp0_0_2_1_100) 3 zp0_0_2_2_100) 4 zp0_0_2_3_100) 5 zp0_0_2_4_100) 6 zp0_0_2_5_100) p0_0_2n_100 p0_0_2w_100)] : List va_W))) H := vP_fa (vP_perm hP (bP (List.Perm.refl _)))
    have hDx : va_D A ((List.flatten ([] : List va_W)) ++ (List.flatten ([(oX0 (p0a 0) p0a p0k p0n p0w_100), (oX1 (p0a 1) p0_0a p0_0k p0_0n p0_0w_100 p0_0l), (oX9 (p0_0a 3) (st1 (st1 (st1 (st1 (st1 p0_0_2a 2 xp0_0_2_1_100) 3 xp0_0_2_2_100) 4 xp0_0_2_3_100) 5 xp0_0_2_4_100) 6 xp0_0_2_5_100) (st1 (st1 (st1 (st1 (st1 p0_0_2k 2 zp0_0_2_1_100) 3 zp0_0_2_2_100) 4 zp0_0_2_3_100) 5 zp0_0_2_4_100) 6 zp0_0_2_5_100) p0_0_2n_100 p0_0_2w_100)] : List va_W))) := vD_fa (vD_perm hD (bP (List.Perm.refl _)))
    have hKx : va_K (dC, dI) cls ((List.flatten ([] : List (List (ClassId × FieldType)))) ++ (List.flatten ([(tX0 p0k), (tX1 p0_0k), (tX9 (st1 (st1 (st1 (st1 (st1 p0_0_2k 2 zp0_0_2_1_100) 3 zp0_0_2_2_100) 4 zp0_0_2_3_100) 5 zp0_0_2_4_100) 6 zp0_0_2_5_100))] : List (List (ClassId × FieldType))))) s := vK_fa (vK_perm hK (bP (List.Perm.refl _)))
    have hPc := vP_l hPx
    have hDc := vD_l hDx
    have hKc := vK_l hKx
    have hFc := vfree hDx hS hA
    refine va_calli (va_runSN (As := [.int (p0_0_2w_100 2 (nn p2))]) (rest := []) ⟨hx, hb, hml, hown, hts⟩ (kX11_usesRight l dC dI (p0 := (p0_0_2w_100 2 (nn p2))) (sz := _) (o := o_7) (hrun := hc_7)) ⟨(va_cnB 1 hts (gi_z qw351) rfl rfl rfl (hE.nw (List.mem_append_right _ (tbl_9 (i := 65) rfl)) rfl) (hts _ qw129) (by decide +kernel) ⟨Nat.le_of_ble_eq_true rfl, Nat.le_of_ble_eq_true rfl⟩), (hts _ qw352), trivial⟩ ⟨PRE.blind, PRE.of hE hS hFc hPc hKc hDc⟩ rfl rfl hl.1 rfl (lv_room (Nat.le_of_ble_eq_true rfl)) dX0_putAwayIn_116 ⟨(show (hcX9 p0_0_2n p0_0_2n_100) + 0 ≤ (hcX9 p0_0_2n (o.2.2.2)) from by have q0 := gmX9 hg_p0_0_2 hgn_p0_0_2; omega), (show (3 * (gcX9 p0_0_2n p0_0_2n_100)) + 0 ≤ (3 * (gcX9 p0_0_2n (o.2.2.2))) from by have q0 := gmX9 hg_p0_0_2 hgn_p0_0_2; omega)⟩) hS (fun q _ h => hFc q h) hFc (fun r8 u t H locs ht hvm hw hB hz1 hk1 hS => ?_)
    obtain ⟨b1, b2, b3⟩ := hB
    rw [ht] at b1
    obtain ⟨hP, hD, hK⟩ := JOINC (wc := (List.flatten ([] : List va_W))) (wr := (List.flatten ([(oX0 (p0a 0) p0a p0k p0n p0w_100), (oX1 (p0a 1) p0_0a p0_0k p0_0n p0_0w_100 p0_0l), (oX9 (p0_0a 3) (st1 (st1 (st1 (st1 (st1 p0_0_2a 2 xp0_0_2_1_100) 3 xp0_0_2_2_100) 4 xp0_0_2_3_100) 5 xp0_0_2_4_100) 6 xp0_0_2_5_100) (st1 (st1 (st1 (st1 (st1 p0_0_2k 2 zp0_0_2_1_100) 3 zp0_0_2_2_100) 4 zp0_0_2_3_100) 5 zp0_0_2_4_100) 6 zp0_0_2_5_100) p0_0_2n_100 p0_0_2w_100)] : List va_W))) (w1 := (List.flatten ([] : List va_W))) (t1 := (List.flatten ([] : List (List (ClassId × FieldType))))) hPx hDx hKx hk1 hFc b1 (va_K.moved hvm.symm b2) b3
    have hP : va_P (dC, dI) cls (List.flatten ([(oX0 (p0a 0) p0a p0k p0n p0w_100), (oX1 (p0a 1) p0_0a p0_0k p0_0n p0_0w_100 p0_0l), (oX9 (p0_0a 3) (st1 (st1 (st1 (st1 (st1 p0_0_2a 2 xp0_0_2_1_100) 3 xp0_0_2_2_100) 4 xp0_0_2_3_100) 5 xp0_0_2_4_100) 6 xp0_0_2_5_100) (st1 (st1 (st1 (st1 (st1 p0_0_2k 2 zp0_0_2_1_100) 3 zp0_0_2_2_100) 4 zp0_0_2_3_100) 5 zp0_0_2_4_100) 6 zp0_0_2_5_100) p0_0_2n_100 p0_0_2w_100)] : List va_W)) H := vP_perm (vP_fb hP) (bP (List.Perm.refl _))
    have hD : va_D A (List.flatten ([(oX0 (p0a 0) p0a p0k p0n p0w_100), (oX1 (p0a 1) p0_0a p0_0k p0_0n p0_0w_100 p0_0l), (oX9 (p0_0a 3) (st1 (st1 (st1 (st1 (st1 p0_0_2a 2 xp0_0_2_1_100) 3 xp0_0_2_2_100) 4 xp0_0_2_3_100) 5 xp0_0_2_4_100) 6 xp0_0_2_5_100) (st1 (st1 (st1 (st1 (st1 p0_0_2k 2 zp0_0_2_1_100) 3 zp0_0_2_2_100) 4 zp0_0_2_3_100) 5 zp0_0_2_4_100) 6 zp0_0_2_5_100) p0_0_2n_100 p0_0_2w_100)] : List va_W)) := vD_perm (vD_fb hD) (bP (List.Perm.refl _))
    have hK : va_K (dC, dI) cls (List.flatten ([(tX0 p0k), (tX1 p0_0k), (tX9 (st1 (st1 (st1 (st1 (st1 p0_0_2k 2 zp0_0_2_1_100) 3 zp0_0_2_2_100) 4 zp0_0_2_3_100) 5 zp0_0_2_4_100) 6 zp0_0_2_5_100))] : List (List (ClassId × FieldType)))) s := vK_perm (vK_fb hK) (bP (List.Perm.refl _))
    obtain rfl : o_7 = r8 := hw.symm
    have J157 : ∀ (p0w_157 : ST) (p0_0w_157 : ST) (p0_0_2w_157 : ST) (p0_0_2n_157 : Nat → Nat) (xp0_0_2_1_157 : Nat) (zp0_0_2_1_157 : ClassId) (xp0_0_2_2_157 : Nat) (zp0_0_2_2_157 : ClassId) (xp0_0_2_3_157 : Nat) (zp0_0_2_3_157 : ClassId) (xp0_0_2_4_157 : Nat) (zp0_0_2_4_157 : ClassId) (xp0_0_2_5_157 : Nat) (zp0_0_2_5_157 : ClassId) (H : Heap) (locs : List Loc) (ls : Array Slot), (fX0_putAwayIn_J157 p0n p1 p2 p0w_157 p0_0w_157 p0_0_2w_157 p0_0_2n_157) = some o → va_P (dC, dI) cls (List.flatten ([(oX0 (p0a 0) p0a p0k p0n p0w_157), (oX1 (p0a 1) p0_0a p0_0k p0_0n p0_0w_157 p0_0l), (oX9 (p0_0a 3) (st1 (st1 (st1 (st1 (st1 p0_0_2a 2 xp0_0_2_1_157) 3 xp0_0_2_2_157) 4 xp0_0_2_3_157) 5 xp0_0_2_4_157) 6 xp0_0_2_5_157) (st1 (st1 (st1 (st1 (st1 p0_0_2k 2 zp0_0_2_1_157) 3 zp0_0_2_2_157) 4 zp0_0_2_3_157) 5 zp0_0_2_4_157) 6 zp0_0_2_5_157) p0_0_2n_157 p0_0_2w_157)] : List va_W)) H → va_D A (List.flatten ([(oX0 (p0a 0) p0a p0k p0n p0w_157), (oX1 (p0a 1) p0_0a p0_0k p0_0n p0_0w_157 p0_0l), (oX9 (p0_0a 3) (st1 (st1 (st1 (st1 (st1 p0_0_2a 2 xp0_0_2_1_157) 3 xp0_0_2_2_157) 4 xp0_0_2_3_157) 5 xp0_0_2_4_157) 6 xp0_0_2_5_157) (st1 (st1 (st1 (st1 (st1 p0_0_2k 2 zp0_0_2_1_157) 3 zp0_0_2_2_157) 4 zp0_0_2_3_157) 5 zp0_0_2_4_157) 6 zp0_0_2_5_157) p0_0_2n_157 p0_0_2w_157)] : List va_W)) → va_K (dC, dI) cls (List.flatten ([(tX0 p0k), (tX1 p0_0k), (tX9 (st1 (st1 (st1 (st1 (st1 p0_0_2k 2 zp0_0_2_1_157) 3 zp0_0_2_2_157) 4 zp0_0_2_3_157) 5 zp0_0_2_4_157) 6 zp0_0_2_5_157))] : List (List (ClassId × FieldType)))) s → va_S A s.heap H locs → lv_has ls 9 [(0, .ref (p0a 0)), (1, .int p1), (2, .int p2), (4, .ref (p0_0a 3))] → glX9 p0_0_2n p0_0_2n_157 → W p l e ({ frames := 5, cells := (hcX9 p0_0_2n (o.2.2.2)), slots := (3 * (gcX9 p0_0_2n (o.2.2.2))), locals := 135 } : Room) s m ([.ref (p0a 0), .int p1, .int p2, .int p3] : List Value).toArray below meth c H locs (hcX9 p0_0_2n p0_0_2n_157) (3 * (gcX9 p0_0_2n p0_0_2n_157)) Q (F0 m 157 ls []) := by
      intro p0w_157 p0_0w_157 p0_0_2w_157 p0_0_2n_157 xp0_0_2_1_157 zp0_0_2_1_157 xp0_0_2_2_157 zp0_0_2_2_157 xp0_0_2_3_157 zp0_0_2_3_157 xp0_0_2_4_157 zp0_0_2_4_157 xp0_0_2_5_157 zp0_0_2_5_157 H locs ls hrun hP hD hK hS hl hg_p0_0_2 
      have hgn_p0_0_2 : glX9 p0_0_2n_157 (o.2.2.2) := (mo_fX0_putAwayIn_J157 hrun)
      unfold fX0_putAwayIn_J157 at hrun
      refine lv_aload hx hb dX0_putAwayIn_157 (lv_at hl 3 rfl) ?_
      refine va_get (D := (dC, dI)) (ci := 3) (v := .ref xp0_0_2_2_157) (C := RX9) (T := TX9) (N := 6) hx hb hts i_X9 hown hK hP 27 rfl rfl 2 (by decide) (hts _ qw636) (fun _ h9 => h9) rfl dX0_putAwayIn_159 ?_
      refine lv_iload_n hx hb dX0_putAwayIn_162 rfl (lv_at hl 2 rfl) ?_
      obtain ⟨hq9, hrun⟩ := chk9 hrun
      refine va_iald hx hb hK hP 29 26 rfl rfl (ixb_in hq9) dX0_putAwayIn_163 ?_
      refine lv_istore (lv' := [(7, .int (p0_0_2w_157 3 (nn p2))), (0, .ref (p0a 0)), (1, .int p1), (2, .int p2), (4, .ref (p0_0a 3))]) hx hb dX0_putAwayIn_164 hl (by decide) rfl (fun ls hl => ?_)
      refine lv_iload hx hb dX0_putAwayIn_166 (lv_at hl 0 rfl) ?_
      have J182 : ∀ (y0_182 : Int32) (H : Heap) (locs : List Loc) (ls : Array Slot), (fX0_putAwayIn_J182 p1 p2 p0w_157 p0_0w_157 p0_0_2w_157 p0_0_2n_157 y0_182) = some o → va_P (dC, dI) cls (List.flatten ([(oX0 (p0a 0) p0a p0k p0n p0w_157), (oX1 (p0a 1) p0_0a p0_0k p0_0n p0_0w_157 p0_0l), (oX9 (p0_0a 3) (st1 (st1 (st1 (st1 (st1 p0_0_2a 2 xp0_0_2_1_157) 3 xp0_0_2_2_157) 4 xp0_0_2_3_157) 5 xp0_0_2_4_157) 6 xp0_0_2_5_157) (st1 (st1 (st1 (st1 (st1 p0_0_2k 2 zp0_0_2_1_157) 3 zp0_0_2_2_157) 4 zp0_0_2_3_157) 5 zp0_0_2_4_157) 6 zp0_0_2_5_157) p0_0_2n_157 p0_0_2w_157)] : List va_W)) H → va_D A (List.flatten ([(oX0 (p0a 0) p0a p0k p0n p0w_157), (oX1 (p0a 1) p0_0a p0_0k p0_0n p0_0w_157 p0_0l), (oX9 (p0_0a 3) (st1 (st1 (st1 (st1 (st1 p0_0_2a 2 xp0_0_2_1_157) 3 xp0_0_2_2_157) 4 xp0_0_2_3_157) 5 xp0_0_2_4_157) 6 xp0_0_2_5_157) (st1 (st1 (st1 (st1 (st1 p0_0_2k 2 zp0_0_2_1_157) 3 zp0_0_2_2_157) 4 zp0_0_2_3_157) 5 zp0_0_2_4_157) 6 zp0_0_2_5_157) p0_0_2n_157 p0_0_2w_157)] : List va_W)) → va_K (dC, dI) cls (List.flatten ([(tX0 p0k), (tX1 p0_0k), (tX9 (st1 (st1 (st1 (st1 (st1 p0_0_2k 2 zp0_0_2_1_157) 3 zp0_0_2_2_157) 4 zp0_0_2_3_157) 5 zp0_0_2_4_157) 6 zp0_0_2_5_157))] : List (List (ClassId × FieldType)))) s → va_S A s.heap H locs → lv_has ls 9 [(0, .ref (p0a 0)), (1, .int p1), (2, .int p2), (4, .ref (p0_0a 3))] → glX9 p0_0_2n p0_0_2n_157 → W p l e ({ frames := 5, cells := (hcX9 p0_0_2n (o.2.2.2)), slots := (3 * (gcX9 p0_0_2n (o.2.2.2))), locals := 135 } : Room) s m ([.ref (p0a 0), .int p1, .int p2, .int p3] : List Value).toArray below meth c H locs (hcX9 p0_0_2n p0_0_2n_157) (3 * (gcX9 p0_0_2n p0_0_2n_157)) Q (F0 m 182 ls [.int y0_182]) := by
        intro y0_182 H locs ls hrun hP hD hK hS hl hg_p0_0_2 
        have hgn_p0_0_2 : glX9 p0_0_2n_157 (o.2.2.2) := (mo_fX0_putAwayIn_J182 hrun)
        unfold fX0_putAwayIn_J182 at hrun
        refine lv_istore (lv' := [(8, .int y0_182), (0, .ref (p0a 0)), (1, .int p1), (2, .int p2), (4, .ref (p0_0a 3))]) hx hb dX0_putAwayIn_182 hl (by decide) rfl (fun ls hl => ?_)
        refine lv_iload hx hb dX0_putAwayIn_184 (lv_at hl 0 rfl) ?_
        refine lv_bipush (v := (-2)) hx hb dX0_putAwayIn_186 (by decide) ?_
        rcases br9 hrun with ⟨hc10, hrun⟩ | ⟨hc10, hrun⟩
        · refine lv_icmp_ne (tgt := 192) hx hb dX0_putAwayIn_188 (by decide) (fun c => absurd hc10 c) (fun _ => ?_)
          have ho9 : (p0w_157, p0_0w_157, p0_0_2w_157, p0_0_2n_157) = o := Option.some.inj hrun
          subst ho9
          subst hQ
          exact W.vret hx hb hr (fun t ht hW => ⟨⟨(), rfl, trivial, ⟨xp0_0_2_1_157, zp0_0_2_1_157, xp0_0_2_2_157, zp0_0_2_2_157, xp0_0_2_3_157, zp0_0_2_3_157, xp0_0_2_4_157, zp0_0_2_4_157, xp0_0_2_5_157, zp0_0_2_5_157, by rw [ht]; exact hP, va_K.moved hW.alike hK, hD⟩⟩, hS.F ht⟩) hS.2.2 dX0_putAwayIn_191
        · refine lv_icmp_ne (tgt := 192) hx hb dX0_putAwayIn_188 (by decide) (fun _ => ?_) (fun c => absurd c hc10)
          refine lv_aload_n hx hb dX0_putAwayIn_192 rfl (lv_at hl 1 rfl) ?_
          refine va_get (D := (dC, dI)) (ci := 8) (v := .ref (p0a 1)) (C := RX0) (T := TX0) (N := 17) hx hb hts i_X0 hown hK hP 0 rfl rfl 0 (by decide) (hts _ qw618) (fun _ h9 => h9) rfl dX0_putAwayIn_193 ?_
          refine lv_iload_n hx hb dX0_putAwayIn_196 rfl (lv_at hl 2 rfl) ?_
          refine lv_iload_n hx hb dX0_putAwayIn_197 rfl (lv_at hl 3 rfl) ?_
          obtain ⟨o_11, hc_11, hrun⟩ := bnd9 hrun
          have hPx : va_P (dC, dI) cls ((List.flatten ([(oX1 (p0a 1) p0_0a p0_0k p0_0n p0_0w_157 p0_0l), (oX9 (p0_0a 3) (st1 (st1 (st1 (st1 (st1 p0_0_2a 2 xp0_0_2_1_157) 3 xp0_0_2_2_157) 4 xp0_0_2_3_157) 5 xp0_0_2_4_157) 6 xp0_0_2_5_157) (st1 (st1 (st1 (st1 (st1 p0_0_2k 2 zp0_0_2_1_157) 3 zp0_0_2_2_157) 4 zp0_0_2_3_157) 5 zp0_0_2_4_157) 6 zp0_0_2_5_157) p0_0_2n_157 p0_0_2w_157)] : List va_W)) ++ (List.flatten ([(oX0 (p0a 0) p0a p0k p0n p0w_157)] : List va_W))) H := vP_fa (vP_perm hP (bP ((((((List.Perm.refl _)).cons _).trans (List.Perm.swap _ _ _))).trans ((((((List.Perm.refl _)).cons _).trans (List.Perm.swap _ _ _))).cons _))))
          have hDx : va_D A ((List.flatten ([(oX1 (p0a 1) p0_0a p0_0k p0_0n p0_0w_157 p0_0l), (oX9 (p0_0a 3) (st1 (st1 (st1 (st1 (st1 p0_0_2a 2 xp0_0_2_1_157) 3 xp0_0_2_2_157) 4 xp0_0_2_3_157) 5 xp0_0_2_4_157) 6 xp0_0_2_5_157) (st1 (st1 (st1 (st1 (st1 p0_0_2k 2 zp0_0_2_1_157) 3 zp0_0_2_2_157) 4 zp0_0_2_3_157) 5 zp0_0_2_4_157) 6 zp0_0_2_5_157) p0_0_2n_157 p0_0_2w_157)] : List va_W)) ++ (List.flatten ([(oX0 (p0a 0) p0a p0k p0n p0w_157)] : List va_W))) := vD_fa (vD_perm hD (bP ((((((List.Perm.refl _)).cons _).trans (List.Perm.swap _ _ _))).trans ((((((List.Perm.refl _)).cons _).trans (List.Perm.swap _ _ _))).cons _))))
          have hKx : va_K (dC, dI) cls ((List.flatten ([(tX1 p0_0k), (tX9 (st1 (st1 (st1 (st1 (st1 p0_0_2k 2 zp0_0_2_1_157) 3 zp0_0_2_2_157) 4 zp0_0_2_3_157) 5 zp0_0_2_4_157) 6 zp0_0_2_5_157))] : List (List (ClassId × FieldType)))) ++ (List.flatten ([(tX0 p0k)] : List (List (ClassId × FieldType))))) s := vK_fa (vK_perm hK (bP ((((((List.Perm.refl _)).cons _).trans (List.Perm.swap _ _ _))).trans ((((((List.Perm.refl _)).cons _).trans (List.Perm.swap _ _ _))).cons _))))
          have hPc := vP_l hPx
          have hDc := vD_l hDx
          have hKc := vK_l hKx
          have hFc := vfree hDx hS hA
          refine va_callv (va_runV (As := [.int p1, .int p2]) (rest := []) ⟨hx, hb, hml, hown, hts⟩ (kX1_link l dC dI (p0a := (st0 (p0a 1) p0_0a)) (p0k := p0_0k) (p0n := p0_0n) (p0w := p0_0w_157) (p0l := p0_0l) (p1 := p1) (p2 := p2) (p0_2a := (st1 (st1 (st1 (st1 (st1 p0_0_2a 2 xp0_0_2_1_157) 3 xp0_0_2_2_157) 4 xp0_0_2_3_157) 5 xp0_0_2_4_157) 6 xp0_0_2_5_157)) (p0_2k := (st1 (st1 (st1 (st1 (st1 p0_0_2k 2 zp0_0_2_1_157) 3 zp0_0_2_2_157) 4 zp0_0_2_3_157) 5 zp0_0_2_4_157) 6 zp0_0_2_5_157)) (p0_2n := p0_0_2n_157) (p0_2w := p0_0_2w_157) (sz := _) (o := o_11) (hrun := hc_11)) (cwV 2 hts (gi_V qw800 qw141 qw142 qw126 (gi_z qw139)) rfl rfl rfl (by decide +kernel) ⟨Nat.le_of_ble_eq_true rfl, Nat.le_of_ble_eq_true rfl⟩) ⟨PRE.blind, va_recv hKc hPc (ci := 4) (q0 := 0) rfl rfl, PRE.of hE hS hFc hPc hKc hDc⟩ rfl rfl hl.1 rfl (lv_room (Nat.le_of_ble_eq_true rfl)) dX0_putAwayIn_198 ⟨(show (hcX9 p0_0_2n p0_0_2n_157) + 0 ≤ (hcX9 p0_0_2n (o.2.2.2)) from by have q0 := gmX9 hg_p0_0_2 hgn_p0_0_2; omega), (show (3 * (gcX9 p0_0_2n p0_0_2n_157)) + 0 ≤ (3 * (gcX9 p0_0_2n (o.2.2.2))) from by have q0 := gmX9 hg_p0_0_2 hgn_p0_0_2; omega)⟩) hS (fun q _ h => hFc q h) hFc (fun u t H locs ht hvm hw hB hz1 hk1 hS => ?_)
          obtain ⟨b1, b2, b3⟩ := hB
          rw [ht] at b1
          obtain ⟨hP, hD, hK⟩ := JOINC (wc := (List.flatten ([(oX1 (p0a 1) p0_0a p0_0k p0_0n p0_0w_157 p0_0l), (oX9 (p0_0a 3) (st1 (st1 (st1 (st1 (st1 p0_0_2a 2 xp0_0_2_1_157) 3 xp0_0_2_2_157) 4 xp0_0_2_3_157) 5 xp0_0_2_4_157) 6 xp0_0_2_5_157) (st1 (st1 (st1 (st1 (st1 p0_0_2k 2 zp0_0_2_1_157) 3 zp0_0_2_2_157) 4 zp0_0_2_3_157) 5 zp0_0_2_4_157) 6 zp0_0_2_5_157) p0_0_2n_157 p0_0_2w_157)] : List va_W))) (wr := (List.flatten ([(oX0 (p0a 0) p0a p0k p0n p0w_157)] : List va_W))) (w1 := (List.flatten ([(oX1 (p0a 1) p0_0a p0_0k p0_0n (o_11.1) p0_0l), (oX9 (p0_0a 3) (st1 (st1 (st1 (st1 (st1 p0_0_2a 2 xp0_0_2_1_157) 3 xp0_0_2_2_157) 4 xp0_0_2_3_157) 5 xp0_0_2_4_157) 6 xp0_0_2_5_157) (st1 (st1 (st1 (st1 (st1 p0_0_2k 2 zp0_0_2_1_157) 3 zp0_0_2_2_157) 4 zp0_0_2_3_157) 5 zp0_0_2_4_157) 6 zp0_0_2_5_157) p0_0_2n_157 (o_11.2))] : List va_W))) (t1 := (List.flatten ([(tX1 p0_0k), (tX9 (st1 (st1 (st1 (st1 (st1 p0_0_2k 2 zp0_0_2_1_157) 3 zp0_0_2_2_157) 4 zp0_0_2_3_157) 5 zp0_0_2_4_157) 6 zp0_0_2_5_157))] : List (List (ClassId × FieldType))))) hPx hDx hKx hk1 hFc b1 (va_K.moved hvm.symm b2) b3
          have hP : va_P (dC, dI) cls (List.flatten ([(oX0 (p0a 0) p0a p0k p0n p0w_157), (oX1 (p0a 1) p0_0a p0_0k p0_0n (o_11.1) p0_0l), (oX9 (p0_0a 3) (st1 (st1 (st1 (st1 (st1 p0_0_2a 2 xp0_0_2_1_157) 3 xp0_0_2_2_157) 4 xp0_0_2_3_157) 5 xp0_0_2_4_157) 6 xp0_0_2_5_157) (st1 (st1 (st1 (st1 (st1 p0_0_2k 2 zp0_0_2_1_157) 3 zp0_0_2_2_157) 4 zp0_0_2_3_157) 5 zp0_0_2_4_157) 6 zp0_0_2_5_157) p0_0_2n_157 (o_11.2))] : List va_W)) H := vP_perm (vP_fb hP) (bP (((((((List.Perm.refl _)).cons _).trans (List.Perm.swap _ _ _))).cons _).trans (List.Perm.swap _ _ _)))
          have hD : va_D A (List.flatten ([(oX0 (p0a 0) p0a p0k p0n p0w_157), (oX1 (p0a 1) p0_0a p0_0k p0_0n (o_11.1) p0_0l), (oX9 (p0_0a 3) (st1 (st1 (st1 (st1 (st1 p0_0_2a 2 xp0_0_2_1_157) 3 xp0_0_2_2_157) 4 xp0_0_2_3_157) 5 xp0_0_2_4_157) 6 xp0_0_2_5_157) (st1 (st1 (st1 (st1 (st1 p0_0_2k 2 zp0_0_2_1_157) 3 zp0_0_2_2_157) 4 zp0_0_2_3_157) 5 zp0_0_2_4_157) 6 zp0_0_2_5_157) p0_0_2n_157 (o_11.2))] : List va_W)) := vD_perm (vD_fb hD) (bP (((((((List.Perm.refl _)).cons _).trans (List.Perm.swap _ _ _))).cons _).trans (List.Perm.swap _ _ _)))
          have hK : va_K (dC, dI) cls (List.flatten ([(tX0 p0k), (tX1 p0_0k), (tX9 (st1 (st1 (st1 (st1 (st1 p0_0_2k 2 zp0_0_2_1_157) 3 zp0_0_2_2_157) 4 zp0_0_2_3_157) 5 zp0_0_2_4_157) 6 zp0_0_2_5_157))] : List (List (ClassId × FieldType)))) s := vK_perm (vK_fb hK) (bP (((((((List.Perm.refl _)).cons _).trans (List.Perm.swap _ _ _))).cons _).trans (List.Perm.swap _ _ _)))
          refine lv_iload hx hb dX0_putAwayIn_201 (lv_at hl 0 rfl) ?_
          refine lv_iconst (v := (-1)) hx hb dX0_putAwayIn_203 (by decide) ?_
          have J246 : ∀ (p0w_246 : ST) (p0_0w_246 : ST) (p0_0_2w_246 : ST) (p0_0_2n_246 : Nat → Nat) (xp0_0_2_1_246 : Nat) (zp0_0_2_1_246 : ClassId) (xp0_0_2_2_246 : Nat) (zp0_0_2_2_246 : ClassId) (xp0_0_2_3_246 : Nat) (zp0_0_2_3_246 : ClassId) (xp0_0_2_4_246 : Nat) (zp0_0_2_4_246 : ClassId) (xp0_0_2_5_246 : Nat) (zp0_0_2_5_246 : ClassId) (H : Heap) (locs : List Loc) (ls : Array Slot), (fX0_putAwayIn_J246 p0w_246 p0_0w_246 p0_0_2w_246 p0_0_2n_246) = some o → va_P (dC, dI) cls (List.flatten ([(oX0 (p0a 0) p0a p0k p0n p0w_246), (oX1 (p0a 1) p0_0a p0_0k p0_0n p0_0w_246 p0_0l), (oX9 (p0_0a 3) (st1 (st1 (st1 (st1 (st1 p0_0_2a 2 xp0_0_2_1_246) 3 xp0_0_2_2_246) 4 xp0_0_2_3_246) 5 xp0_0_2_4_246) 6 xp0_0_2_5_246) (st1 (st1 (st1 (st1 (st1 p0_0_2k 2 zp0_0_2_1_246) 3 zp0_0_2_2_246) 4 zp0_0_2_3_246) 5 zp0_0_2_4_246) 6 zp0_0_2_5_246) p0_0_2n_246 p0_0_2w_246)] : List va_W)) H → va_D A (List.flatten ([(oX0 (p0a 0) p0a p0k p0n p0w_246), (oX1 (p0a 1) p0_0a p0_0k p0_0n p0_0w_246 p0_0l), (oX9 (p0_0a 3) (st1 (st1 (st1 (st1 (st1 p0_0_2a 2 xp0_0_2_1_246) 3 xp0_0_2_2_246) 4 xp0_0_2_3_246) 5 xp0_0_2_4_246) 6 xp0_0_2_5_246) (st1 (st1 (st1 (st1 (st1 p0_0_2k 2 zp0_0_2_1_246) 3 zp0_0_2_2_246) 4 zp0_0_2_3_246) 5 zp0_0_2_4_246) 6 zp0_0_2_5_246) p0_0_2n_246 p0_0_2w_246)] : List va_W)) → va_K (dC, dI) cls (List.flatten ([(tX0 p0k), (tX1 p0_0k), (tX9 (st1 (st1 (st1 (st1 (st1 p0_0_2k 2 zp0_0_2_1_246) 3 zp0_0_2_2_246) 4 zp0_0_2_3_246) 5 zp0_0_2_4_246) 6 zp0_0_2_5_246))] : List (List (ClassId × FieldType)))) s → va_S A s.heap H locs → lv_has ls 9 [] → glX9 p0_0_2n p0_0_2n_246 → W p l e ({ frames := 5, cells := (hcX9 p0_0_2n (o.2.2.2)), slots := (3 * (gcX9 p0_0_2n (o.2.2.2))), locals := 135 } : Room) s m ([.ref (p0a 0), .int p1, .int p2, .int p3] : List Value).toArray below meth c H locs (hcX9 p0_0_2n p0_0_2n_246) (3 * (gcX9 p0_0_2n p0_0_2n_246)) Q (F0 m 246 ls []) := by
            intro p0w_246 p0_0w_246 p0_0_2w_246 p0_0_2n_246 xp0_0_2_1_246 zp0_0_2_1_246 xp0_0_2_2_246 zp0_0_2_2_246 xp0_0_2_3_246 zp0_0_2_3_246 xp0_0_2_4_246 zp0_0_2_4_246 xp0_0_2_5_246 zp0_0_2_5_246 H locs ls hrun hP hD hK hS hl hg_p0_0_2 
            have hgn_p0_0_2 : glX9 p0_0_2n_246 (o.2.2.2) := (mo_fX0_putAwayIn_J246 hrun)
            unfold fX0_putAwayIn_J246 at hrun
            have ho9 : (p0w_246, p0_0w_246, p0_0_2w_246, p0_0_2n_246) = o := Option.some.inj hrun
            subst ho9
            subst hQ
            exact W.vret hx hb hr (fun t ht hW => ⟨⟨(), rfl, trivial, ⟨xp0_0_2_1_246, zp0_0_2_1_246, xp0_0_2_2_246, zp0_0_2_2_246, xp0_0_2_3_246, zp0_0_2_3_246, xp0_0_2_4_246, zp0_0_2_4_246, xp0_0_2_5_246, zp0_0_2_5_246, by rw [ht]; exact hP, va_K.moved hW.alike hK, hD⟩⟩, hS.F ht⟩) hS.2.2 dX0_putAwayIn_246
          rcases br9 hrun with ⟨hc12, hrun⟩ | ⟨hc12, hrun⟩
          · refine lv_icmp_eq (tgt := 246) hx hb dX0_putAwayIn_204 (by decide) (fun _ => ?_) (fun c => absurd hc12 c)
            exact J246 p0w_157 (o_11.1) (o_11.2) p0_0_2n_157 xp0_0_2_1_157 zp0_0_2_1_157 xp0_0_2_2_157 zp0_0_2_2_157 xp0_0_2_3_157 zp0_0_2_3_157 xp0_0_2_4_157 zp0_0_2_4_157 xp0_0_2_5_157 zp0_0_2_5_157 _ _ _ hrun hP hD hK hS (lv_sub hl [] rfl) hg_p0_0_2
          · refine lv_icmp_eq (tgt := 246) hx hb dX0_putAwayIn_204 (by decide) (fun c => absurd c hc12) (fun _ => ?_)
            refine lv_aload hx hb dX0_putAwayIn_207 (lv_at hl 4 rfl) ?_
            refine va_get (D := (dC, dI)) (ci := 3) (v := .ref xp0_0_2_2_157) (C := RX9) (T := TX9) (N := 6) hx hb hts i_X9 hown hK hP 27 rfl rfl 2 (by decide) (hts _ qw636) (fun _ h9 => h9) rfl dX0_putAwayIn_209 ?_
            refine lv_iload_n hx hb dX0_putAwayIn_212 rfl (lv_at hl 3 rfl) ?_
            refine lv_aload_n hx hb dX0_putAwayIn_213 rfl (lv_at hl 1 rfl) ?_
            refine va_get (D := (dC, dI)) (ci := 8) (v := .int (p0w_157 0 8)) (C := RX0) (T := TX0) (N := 17) hx hb hts i_X0 hown hK hP 0 rfl rfl 8 (by decide) (hts _ qw623) (fun _ h9 => h9) rfl dX0_putAwayIn_214 ?_
            obtain ⟨hq13, hrun⟩ := chk9 hrun
            refine va_iast hx hb hK hP hD hS 29 26 rfl rfl (ixb_in hq13) dX0_putAwayIn_217 (fun H locs hP hD hS => ?_)
            have hP : va_P (dC, dI) cls (List.flatten ([(oX0 (p0a 0) p0a p0k p0n p0w_157), (oX1 (p0a 1) p0_0a p0_0k p0_0n (o_11.1) p0_0l), (oX9 (p0_0a 3) (st1 (st1 (st1 (st1 (st1 p0_0_2a 2 xp0_0_2_1_157) 3 xp0_0_2_2_157) 4 xp0_0_2_3_157) 5 xp0_0_2_4_157) 6 xp0_0_2_5_157) (st1 (st1 (st1 (st1 (st1 p0_0_2k 2 zp0_0_2_1_157) 3 zp0_0_2_2_157) 4 zp0_0_2_3_157) 5 zp0_0_2_4_157) 6 zp0_0_2_5_157) p0_0_2n_157 (upw (o_11.2) 3 (nn p2) (p0w_157 0 8)))] : List va_W)) H := hP
            have hD : va_D A (List.flatten ([(oX0 (p0a 0) p0a p0k p0n p0w_157), (oX1 (p0a 1) p0_0a p0_0k p0_0n (o_11.1) p0_0l), (oX9 (p0_0a 3) (st1 (st1 (st1 (st1 (st1 p0_0_2a 2 xp0_0_2_1_157) 3 xp0_0_2_2_157) 4 xp0_0_2_3_157) 5 xp0_0_2_4_157) 6 xp0_0_2_5_157) (st1 (st1 (st1 (st1 (st1 p0_0_2k 2 zp0_0_2_1_157) 3 zp0_0_2_2_157) 4 zp0_0_2_3_157) 5 zp0_0_2_4_157) 6 zp0_0_2_5_157) p0_0_2n_157 (upw (o_11.2) 3 (nn p2) (p0w_157 0 8)))] : List va_W)) := hD
            obtain ⟨w14, ew14, hrun⟩ := let9 hrun
            rw [← ew14] at hP hD
            refine lv_aload_n hx hb dX0_putAwayIn_218 rfl (lv_at hl 1 rfl) ?_
            refine va_get (D := (dC, dI)) (ci := 8) (v := .ref (p0a 1)) (C := RX0) (T := TX0) (N := 17) hx hb hts i_X0 hown hK hP 0 rfl rfl 0 (by decide) (hts _ qw618) (fun _ h9 => h9) rfl dX0_putAwayIn_219 ?_
            refine lv_iload_n hx hb dX0_putAwayIn_222 rfl (lv_at hl 2 rfl) ?_
            refine lv_bipush (v := 27) hx hb dX0_putAwayIn_223 (by decide) ?_
            refine lv_iconst (v := (-1)) hx hb dX0_putAwayIn_225 (by decide) ?_
            refine lv_aload_n hx hb dX0_putAwayIn_226 rfl (lv_at hl 1 rfl) ?_
            refine va_get (D := (dC, dI)) (ci := 8) (v := .int (p0w_157 0 8)) (C := RX0) (T := TX0) (N := 17) hx hb hts i_X0 hown hK hP 0 rfl rfl 8 (by decide) (hts _ qw623) (fun _ h9 => h9) rfl dX0_putAwayIn_227 ?_
            refine lv_iload hx hb dX0_putAwayIn_230 (lv_at hl 0 rfl) ?_
            obtain ⟨o_15, hc_15, hrun⟩ := bnd9 hrun
            have hPx : va_P (dC, dI) cls ((List.flatten ([(oX1 (p0a 1) p0_0a p0_0k p0_0n (o_11.1) p0_0l), (oX9 (p0_0a 3) (st1 (st1 (st1 (st1 (st1 p0_0_2a 2 xp0_0_2_1_157) 3 xp0_0_2_2_157) 4 xp0_0_2_3_157) 5 xp0_0_2_4_157) 6 xp0_0_2_5_157) (st1 (st1 (st1 (st1 (st1 p0_0_2k 2 zp0_0_2_1_157) 3 zp0_0_2_2_157) 4 zp0_0_2_3_157) 5 zp0_0_2_4_157) 6 zp0_0_2_5_157) p0_0_2n_157 w14)] : List va_W)) ++ (List.flatten ([(oX0 (p0a 0) p0a p0k p0n p0w_157)] : List va_W))) H := vP_fa (vP_perm hP (bP ((((((List.Perm.refl _)).cons _).trans (List.Perm.swap _ _ _))).trans ((((((List.Perm.refl _)).cons _).trans (List.Perm.swap _ _ _))).cons _))))
            have hDx : va_D A ((List.flatten ([(oX1 (p0a 1) p0_0a p0_0k p0_0n (o_11.1) p0_0l), (oX9 (p0_0a 3) (st1 (st1 (st1 (st1 (st1 p0_0_2a 2 xp0_0_2_1_157) 3 xp0_0_2_2_157) 4 xp0_0_2_3_157) 5 xp0_0_2_4_157) 6 xp0_0_2_5_157) (st1 (st1 (st1 (st1 (st1 p0_0_2k 2 zp0_0_2_1_157) 3 zp0_0_2_2_157) 4 zp0_0_2_3_157) 5 zp0_0_2_4_157) 6 zp0_0_2_5_157) p0_0_2n_157 w14)] : List va_W)) ++ (List.flatten ([(oX0 (p0a 0) p0a p0k p0n p0w_157)] : List va_W))) := vD_fa (vD_perm hD (bP ((((((List.Perm.refl _)).cons _).trans (List.Perm.swap _ _ _))).trans ((((((List.Perm.refl _)).cons _).trans (List.Perm.swap _ _ _))).cons _))))
            have hKx : va_K (dC, dI) cls ((List.flatten ([(tX1 p0_0k), (tX9 (st1 (st1 (st1 (st1 (st1 p0_0_2k 2 zp0_0_2_1_157) 3 zp0_0_2_2_157) 4 zp0_0_2_3_157) 5 zp0_0_2_4_157) 6 zp0_0_2_5_157))] : List (List (ClassId × FieldType)))) ++ (List.flatten ([(tX0 p0k)] : List (List (ClassId × FieldType))))) s := vK_fa (vK_perm hK (bP ((((((List.Perm.refl _)).cons _).trans (List.Perm.swap _ _ _))).trans ((((((List.Perm.refl _)).cons _).trans (List.Perm.swap _ _ _))).cons _))))
            have hPc := vP_l hPx
            have hDc := vD_l hDx
            have hKc := vK_l hKx
            have hFc := vfree hDx hS hA
            have hgn_p0_0_2 : glX9 (o_15.2.2.2) (o.2.2.2) := (mo_fX0_putAwayIn_G235_27 hrun)
            refine va_calli (va_runV (As := [.int p1, .int 27, .int (-1), .int (p0w_157 0 8), .int y0_182]) (rest := []) ⟨hx, hb, hml, hown, hts⟩ (kX1_addStep l dC dI (p0a := (st0 (p0a 1) p0_0a)) (p0k := p0_0k) (p0n := p0_0n) (p0w := (o_11.1)) (p0l := p0_0l) (p1 := p1) (p2 := 27) (p3 := (-1)) (p4 := (p0w_157 0 8)) (p5 := y0_182) (p0_2a := (st1 (st1 (st1 (st1 (st1 p0_0_2a 2 xp0_0_2_1_157) 3 xp0_0_2_2_157) 4 xp0_0_2_3_157) 5 xp0_0_2_4_157) 6 xp0_0_2_5_157)) (p0_2k := (st1 (st1 (st1 (st1 (st1 p0_0_2k 2 zp0_0_2_1_157) 3 zp0_0_2_2_157) 4 zp0_0_2_3_157) 5 zp0_0_2_4_157) 6 zp0_0_2_5_157)) (p0_2n := p0_0_2n_157) (p0_2w := w14) (sz := _) (o := o_15) (hrun := hc_15)) (cwV 5 hts (gi_V qw625 qw165 qw166 qw126 (gi_z qw163)) rfl rfl rfl (by decide +kernel) ⟨Nat.le_of_ble_eq_true rfl, Nat.le_of_ble_eq_true rfl⟩) ⟨PRE.blind, va_recv hKc hPc (ci := 4) (q0 := 0) rfl rfl, PRE.of hE hS hFc hPc hKc hDc⟩ rfl rfl hl.1 rfl (lv_room (Nat.le_of_ble_eq_true rfl)) dX0_putAwayIn_232 ⟨(show (hcX9 p0_0_2n p0_0_2n_157) + (hcX9 p0_0_2n_157 (o_15.2.2.2)) ≤ (hcX9 p0_0_2n (o.2.2.2)) from by have q0 := gsX9 hg_p0_0_2 (mo_fX1_addStep hc_15) hgn_p0_0_2; omega), (show (3 * (gcX9 p0_0_2n p0_0_2n_157)) + (3 * (gcX9 p0_0_2n_157 (o_15.2.2.2))) ≤ (3 * (gcX9 p0_0_2n (o.2.2.2))) from by have q0 := gsX9 hg_p0_0_2 (mo_fX1_addStep hc_15) hgn_p0_0_2; omega)⟩) hS (fun q _ h => hFc q h) hFc (fun r16 u t H locs ht hvm hw hB hz1 hk1 hS => ?_)
            obtain ⟨x17, z18, x19, z20, x21, z22, x23, z24, x25, z26, hB⟩ := hB
            obtain ⟨b1, b2, b3⟩ := hB
            rw [ht] at b1
            obtain ⟨hP, hD, hK⟩ := JOINC (wc := (List.flatten ([(oX1 (p0a 1) p0_0a p0_0k p0_0n (o_11.1) p0_0l), (oX9 (p0_0a 3) (st1 (st1 (st1 (st1 (st1 p0_0_2a 2 xp0_0_2_1_157) 3 xp0_0_2_2_157) 4 xp0_0_2_3_157) 5 xp0_0_2_4_157) 6 xp0_0_2_5_157) (st1 (st1 (st1 (st1 (st1 p0_0_2k 2 zp0_0_2_1_157) 3 zp0_0_2_2_157) 4 zp0_0_2_3_157) 5 zp0_0_2_4_157) 6 zp0_0_2_5_157) p0_0_2n_157 w14)] : List va_W))) (wr := (List.flatten ([(oX0 (p0a 0) p0a p0k p0n p0w_157)] : List va_W))) (w1 := (List.flatten ([(oX1 (p0a 1) p0_0a p0_0k p0_0n (o_15.2.1) p0_0l), (oX9 (p0_0a 3) (st1 (st1 (st1 (st1 (st1 p0_0_2a 2 x17) 3 x19) 4 x21) 5 x23) 6 x25) (st1 (st1 (st1 (st1 (st1 p0_0_2k 2 z18) 3 z20) 4 z22) 5 z24) 6 z26) (o_15.2.2.2) (o_15.2.2.1))] : List va_W))) (t1 := (List.flatten ([(tX1 p0_0k), (tX9 (st1 (st1 (st1 (st1 (st1 p0_0_2k 2 z18) 3 z20) 4 z22) 5 z24) 6 z26))] : List (List (ClassId × FieldType))))) hPx hDx hKx hk1 hFc b1 (va_K.moved hvm.symm b2) b3
            have hP : va_P (dC, dI) cls (List.flatten ([(oX0 (p0a 0) p0a p0k p0n p0w_157), (oX1 (p0a 1) p0_0a p0_0k p0_0n (o_15.2.1) p0_0l), (oX9 (p0_0a 3) (st1 (st1 (st1 (st1 (st1 p0_0_2a 2 x17) 3 x19) 4 x21) 5 x23) 6 x25) (st1 (st1 (st1 (st1 (st1 p0_0_2k 2 z18) 3 z20) 4 z22) 5 z24) 6 z26) (o_15.2.2.2) (o_15.2.2.1))] : List va_W)) H := vP_perm (vP_fb hP) (bP (((((((List.Perm.refl _)).cons _).trans (List.Perm.swap _ _ _))).cons _).trans (List.Perm.swap _ _ _)))
            have hD : va_D A (List.flatten ([(oX0 (p0a 0) p0a p0k p0n p0w_157), (oX1 (p0a 1) p0_0a p0_0k p0_0n (o_15.2.1) p0_0l), (oX9 (p0_0a 3) (st1 (st1 (st1 (st1 (st1 p0_0_2a 2 x17) 3 x19) 4 x21) 5 x23) 6 x25) (st1 (st1 (st1 (st1 (st1 p0_0_2k 2 z18) 3 z20) 4 z22) 5 z24) 6 z26) (o_15.2.2.2) (o_15.2.2.1))] : List va_W)) := vD_perm (vD_fb hD) (bP (((((((List.Perm.refl _)).cons _).trans (List.Perm.swap _ _ _))).cons _).trans (List.Perm.swap _ _ _)))
            have hK : va_K (dC, dI) cls (List.flatten ([(tX0 p0k), (tX1 p0_0k), (tX9 (st1 (st1 (st1 (st1 (st1 p0_0_2k 2 z18) 3 z20) 4 z22) 5 z24) 6 z26))] : List (List (ClassId × FieldType)))) s := vK_perm (vK_fb hK) (bP (((((((List.Perm.refl _)).cons _).trans (List.Perm.swap _ _ _))).cons _).trans (List.Perm.swap _ _ _)))
            obtain rfl : r16 = (o_15.1) := hw
            refine W.widen (k := (hcX9 p0_0_2n (o_15.2.2.2))) (n := (3 * (gcX9 p0_0_2n (o_15.2.2.2)))) (by have a0 := gcX9_add hg_p0_0_2 (mo_fX1_addStep hc_15); omega) (by have a0 := gcX9_add hg_p0_0_2 (mo_fX1_addStep hc_15); omega) ?_
            have hg_p0_0_2 : glX9 p0_0_2n (o_15.2.2.2) := glX9_tr hg_p0_0_2 (mo_fX1_addStep hc_15)
            unfold fX0_putAwayIn_G235_27 at hrun
            refine lv_pop hx hb dX0_putAwayIn_235 rfl ?_
            refine lv_aload_n hx hb dX0_putAwayIn_236 rfl (lv_at hl 1 rfl) ?_
            refine lv_dup hx hb dX0_putAwayIn_237 rfl ?_
            refine va_get (D := (dC, dI)) (ci := 8) (v := .int (p0w_157 0 8)) (C := RX0) (T := TX0) (N := 17) hx hb hts i_X0 hown hK hP 0 rfl rfl 8 (by decide) (hts _ qw623) (fun _ h9 => h9) rfl dX0_putAwayIn_238 ?_
            refine lv_iconst (v := 1) hx hb dX0_putAwayIn_241 (by decide) ?_
            refine lv_iadd hx hb dX0_putAwayIn_242 ?_
            refine va_put (D := (dC, dI)) (ci := 8) (v := .int ((p0w_157 0 8) + 1)) (ty := .int) (C := RX0) (T := TX0) (N := 17) hx hb hts i_X0 tyX0 tyX0_ok nmX0 hown hK hP hD hS 0 rfl rfl 8 (by decide) (hts _ qw623) (fun _ h9 => h9) rfl (by decide +kernel) rfl rfl (Nat.le_of_ble_eq_true rfl) dX0_putAwayIn_243 (fun H locs hP hD hS => ?_)
            have hP : va_P (dC, dI) cls (List.flatten ([(oX0 (p0a 0) p0a p0k p0n (upw p0w_157 0 8 ((p0w_157 0 8) + 1))), (oX1 (p0a 1) p0_0a p0_0k p0_0n (o_15.2.1) p0_0l), (oX9 (p0_0a 3) (st1 (st1 (st1 (st1 (st1 p0_0_2a 2 x17) 3 x19) 4 x21) 5 x23) 6 x25) (st1 (st1 (st1 (st1 (st1 p0_0_2k 2 z18) 3 z20) 4 z22) 5 z24) 6 z26) (o_15.2.2.2) (o_15.2.2.1))] : List va_W)) H := hP
            have hD : va_D A (List.flatten ([(oX0 (p0a 0) p0a p0k p0n (upw p0w_157 0 8 ((p0w_157 0 8) + 1))), (oX1 (p0a 1) p0_0a p0_0k p0_0n (o_15.2.1) p0_0l), (oX9 (p0_0a 3) (st1 (st1 (st1 (st1 (st1 p0_0_2a 2 x17) 3 x19) 4 x21) 5 x23) 6 x25) (st1 (st1 (st1 (st1 (st1 p0_0_2k 2 z18) 3 z20) 4 z22) 5 z24) 6 z26) (o_15.2.2.2) (o_15.2.2.1))] : List va_W)) := hD
            obtain ⟨w28, ew28, hrun⟩ := let9 hrun
            rw [← ew28] at hP hD
            exact J246 w28 (o_15.2.1) (o_15.2.2.1) (o_15.2.2.2) x17 z18 x19 z20 x21 z22 x23 z24 x25 z26 _ _ _ hrun hP hD hK hS (lv_sub hl [] rfl) hg_p0_0_2
      rcases br9 hrun with ⟨hc29, hrun⟩ | ⟨hc29, hrun⟩
      · refine lv_if_ge (tgt := 175) hx hb dX0_putAwayIn_168 (by decide) (fun _ => ?_) (fun c => absurd hc29 c)
        refine lv_aload_n hx hb dX0_putAwayIn_175 rfl (lv_at hl 1 rfl) ?_
        refine va_get (D := (dC, dI)) (ci := 8) (v := .ref (p0a 13)) (C := RX0) (T := TX0) (N := 17) hx hb hts i_X0 hown hK hP 0 rfl rfl 12 (by decide) (hts _ qw622) (fun _ h9 => h9) rfl dX0_putAwayIn_176 ?_
        refine lv_iload hx hb dX0_putAwayIn_179 (lv_at hl 0 rfl) ?_
        obtain ⟨hq30, hrun⟩ := chk9 hrun
        refine va_iald hx hb hK hP 4 3 rfl rfl (ixb_in hq30) dX0_putAwayIn_181 ?_
        exact J182 (p0w_157 13 (nn (p0_0_2w_157 3 (nn p2)))) _ _ _ hrun hP hD hK hS (lv_sub hl [1, 2, 3, 4] rfl) hg_p0_0_2
      · refine lv_if_ge (tgt := 175) hx hb dX0_putAwayIn_168 (by decide) (fun c => absurd c hc29) (fun _ => ?_)
        refine lv_iconst (v := (-1)) hx hb dX0_putAwayIn_171 (by decide) ?_
        refine lv_goto (tgt := 182) hx hb dX0_putAwayIn_172 (by decide) ?_
        exact J182 (-1) _ _ _ hrun hP hD hK hS (lv_sub hl [1, 2, 3, 4] rfl) hg_p0_0_2
    rcases br9 hrun with ⟨hc31, hrun⟩ | ⟨hc31, hrun⟩
    · refine lv_if_eq (tgt := 157) hx hb dX0_putAwayIn_119 (by decide) (fun _ => ?_) (fun c => absurd hc31 c)
      exact J157 p0w_100 p0_0w_100 p0_0_2w_100 p0_0_2n_100 xp0_0_2_1_100 zp0_0_2_1_100 xp0_0_2_2_100 zp0_0_2_2_100 xp0_0_2_3_100 zp0_0_2_3_100 xp0_0_2_4_100 zp0_0_2_4_100 xp0_0_2_5_100 zp0_0_2_5_100 _ _ _ hrun hP hD hK hS (lv_sub hl [1, 2, 3, 5] rfl) hg_p0_0_2
    · refine lv_if_eq (tgt := 157) hx hb dX0_putAwayIn_119 (by decide) (fun c => absurd c hc31) (fun _ => ?_)
      refine lv_iload hx hb dX0_putAwayIn_122 (lv_at hl 0 rfl) ?_
      refine lv_iload_n hx hb dX0_putAwayIn_124 rfl (lv_at hl 4 rfl) ?_
      rcases br9 hrun with ⟨hc32, hrun⟩ | ⟨hc32, hrun⟩
      · refine lv_icmp_ge (tgt := 157) hx hb dX0_putAwayIn_125 (by decide) (fun _ => ?_) (fun c => absurd hc32 c)
        exact J157 p0w_100 p0_0w_100 p0_0_2w_100 p0_0_2n_100 xp0_0_2_1_100 zp0_0_2_1_100 xp0_0_2_2_100 zp0_0_2_2_100 xp0_0_2_3_100 zp0_0_2_3_100 xp0_0_2_4_100 zp0_0_2_4_100 xp0_0_2_5_100 zp0_0_2_5_100 _ _ _ hrun hP hD hK hS (lv_sub hl [1, 2, 3, 5] rfl) hg_p0_0_2
      · refine lv_icmp_ge (tgt := 157) hx hb dX0_putAwayIn_125 (by decide) (fun c => absurd c hc32) (fun _ => ?_)
        refine lv_aload_n hx hb dX0_putAwayIn_128 rfl (lv_at hl 1 rfl) ?_
        refine va_get (D := (dC, dI)) (ci := 8) (v := .ref (p0a 13)) (C := RX0) (T := TX0) (N := 17) hx hb hts i_X0 hown hK hP 0 rfl rfl 12 (by decide) (hts _ qw622) (fun _ h9 => h9) rfl dX0_putAwayIn_129 ?_
        refine lv_iload hx hb dX0_putAwayIn_132 (lv_at hl 0 rfl) ?_
        obtain ⟨hq33, hrun⟩ := chk9 hrun
        refine va_iald hx hb hK hP 4 3 rfl rfl (ixb_in hq33) dX0_putAwayIn_134 ?_
        refine lv_iconst (v := (-1)) hx hb dX0_putAwayIn_135 (by decide) ?_
        rcases br9 hrun with ⟨hc34, hrun⟩ | ⟨hc34, hrun⟩
        · refine lv_icmp_eq (tgt := 157) hx hb dX0_putAwayIn_136 (by decide) (fun _ => ?_) (fun c => absurd hc34 c)
          exact J157 p0w_100 p0_0w_100 p0_0_2w_100 p0_0_2n_100 xp0_0_2_1_100 zp0_0_2_1_100 xp0_0_2_2_100 zp0_0_2_2_100 xp0_0_2_3_100 zp0_0_2_3_100 xp0_0_2_4_100 zp0_0_2_4_100 xp0_0_2_5_100 zp0_0_2_5_100 _ _ _ hrun hP hD hK hS (lv_sub hl [1, 2, 3, 5] rfl) hg_p0_0_2
        · refine lv_icmp_eq (tgt := 157) hx hb dX0_putAwayIn_136 (by decide) (fun c => absurd c hc34) (fun _ => ?_)
          refine lv_aload_n hx hb dX0_putAwayIn_139 rfl (lv_at hl 1 rfl) ?_
          refine lv_iload_n hx hb dX0_putAwayIn_140 rfl (lv_at hl 2 rfl) ?_
          refine lv_iload hx hb dX0_putAwayIn_141 (lv_at hl 0 rfl) ?_
          obtain ⟨o_35, hc_35, hrun⟩ := bnd9 hrun
          have hPx : va_P (dC, dI) cls ((List.flatten ([(oX0 (p0a 0) p0a p0k p0n p0w_100), (oX1 (p0a 1) p0_0a p0_0k p0_0n p0_0w_100 p0_0l), (oX9 (p0_0a 3) (st1 (st1 (st1 (st1 (st1 p0_0_2a 2 xp0_0_2_1_100) 3 xp0_0_2_2_100) 4 xp0_0_2_3_100) 5 xp0_0_2_4_100) 6 xp0_0_2_5_100) (st1 (st1 (st1 (st1 (st1 p0_0_2k 2 zp0_0_2_1_100) 3 zp0_0_2_2_100) 4 zp0_0_2_3_100) 5 zp0_0_2_4_100) 6 zp0_0_2_5_100) p0_0_2n_100 p0_0_2w_100)] : List va_W)) ++ (List.flatten ([] : List va_W))) H := vP_fa (vP_perm hP (bP (List.Perm.refl _)))
          have hDx : va_D A ((List.flatten ([(oX0 (p0a 0) p0a p0k p0n p0w_100), (oX1 (p0a 1) p0_0a p0_0k p0_0n p0_0w_100 p0_0l), (oX9 (p0_0a 3) (st1 (st1 (st1 (st1 (st1 p0_0_2a 2 xp0_0_2_1_100) 3 xp0_0_2_2_100) 4 xp0_0_2_3_100) 5 xp0_0_2_4_100) 6 xp0_0_2_5_100) (st1 (st1 (st1 (st1 (st1 p0_0_2k 2 zp0_0_2_1_100) 3 zp0_0_2_2_100) 4 zp0_0_2_3_100) 5 zp0_0_2_4_100) 6 zp0_0_2_5_100) p0_0_2n_100 p0_0_2w_100)] : List va_W)) ++ (List.flatten ([] : List va_W))) := vD_fa (vD_perm hD (bP (List.Perm.refl _)))
          have hKx : va_K (dC, dI) cls ((List.flatten ([(tX0 p0k), (tX1 p0_0k), (tX9 (st1 (st1 (st1 (st1 (st1 p0_0_2k 2 zp0_0_2_1_100) 3 zp0_0_2_2_100) 4 zp0_0_2_3_100) 5 zp0_0_2_4_100) 6 zp0_0_2_5_100))] : List (List (ClassId × FieldType)))) ++ (List.flatten ([] : List (List (ClassId × FieldType))))) s := vK_fa (vK_perm hK (bP (List.Perm.refl _)))
          have hPc := vP_l hPx
          have hDc := vD_l hDx
          have hKc := vK_l hKx
          have hFc := vfree hDx hS hA
          have hgn_p0_0_2 : glX9 (o_35.2.2.2.2) (o.2.2.2) := (mo_fX0_putAwayIn_G146_47 hrun)
          refine va_calli (va_runV (As := [.int p1, .int (p0_0_2w_100 5 (nn p2))]) (rest := []) ⟨hx, hb, hml, hown, hts⟩ (kX0_fetch l dC dI (p0a := p0a) (p0k := p0k) (p0n := p0n) (p0w := p0w_100) (p1 := p1) (p2 := (p0_0_2w_100 5 (nn p2))) (p0_0a := p0_0a) (p0_0k := p0_0k) (p0_0n := p0_0n) (p0_0w := p0_0w_100) (p0_0l := p0_0l) (p0_0_2a := (st1 (st1 (st1 (st1 (st1 p0_0_2a 2 xp0_0_2_1_100) 3 xp0_0_2_2_100) 4 xp0_0_2_3_100) 5 xp0_0_2_4_100) 6 xp0_0_2_5_100)) (p0_0_2k := (st1 (st1 (st1 (st1 (st1 p0_0_2k 2 zp0_0_2_1_100) 3 zp0_0_2_2_100) 4 zp0_0_2_3_100) 5 zp0_0_2_4_100) 6 zp0_0_2_5_100)) (p0_0_2n := p0_0_2n_100) (p0_0_2w := p0_0_2w_100) (sz := _) (o := o_35) (hrun := hc_35)) (cwV 2 hts (gi_V qw846 qw847 qw848 qw655 (gi_z qw845)) rfl rfl rfl (by decide +kernel) ⟨Nat.le_of_ble_eq_true rfl, Nat.le_of_ble_eq_true rfl⟩) ⟨PRE.blind, va_recv hKc hPc (ci := 8) (q0 := 0) rfl rfl, PRE.of hE hS hFc hPc hKc hDc⟩ rfl rfl hl.1 rfl (lv_room (Nat.le_of_ble_eq_true rfl)) dX0_putAwayIn_143 ⟨(show (hcX9 p0_0_2n p0_0_2n_100) + (hcX9 p0_0_2n_100 (o_35.2.2.2.2)) ≤ (hcX9 p0_0_2n (o.2.2.2)) from by have q0 := gsX9 hg_p0_0_2 (mo_fX0_fetch hc_35) hgn_p0_0_2; omega), (show (3 * (gcX9 p0_0_2n p0_0_2n_100)) + (3 * (gcX9 p0_0_2n_100 (o_35.2.2.2.2))) ≤ (3 * (gcX9 p0_0_2n (o.2.2.2))) from by have q0 := gsX9 hg_p0_0_2 (mo_fX0_fetch hc_35) hgn_p0_0_2; omega)⟩) hS (fun q _ h => hFc q h) hFc (fun r36 u t H locs ht hvm hw hB hz1 hk1 hS => ?_)
          obtain ⟨x37, z38, x39, z40, x41, z42, x43, z44, x45, z46, hB⟩ := hB
          obtain ⟨b1, b2, b3⟩ := hB
          rw [ht] at b1
          obtain ⟨hP, hD, hK⟩ := JOINC (wc := (List.flatten ([(oX0 (p0a 0) p0a p0k p0n p0w_100), (oX1 (p0a 1) p0_0a p0_0k p0_0n p0_0w_100 p0_0l), (oX9 (p0_0a 3) (st1 (st1 (st1 (st1 (st1 p0_0_2a 2 xp0_0_2_1_100) 3 xp0_0_2_2_100) 4 xp0_0_2_3_100) 5 xp0_0_2_4_100) 6 xp0_0_2_5_100) (st1 (st1 (st1 (st1 (st1 p0_0_2k 2 zp0_0_2_1_100) 3 zp0_0_2_2_100) 4 zp0_0_2_3_100) 5 zp0_0_2_4_100) 6 zp0_0_2_5_100) p0_0_2n_100 p0_0_2w_100)] : List va_W))) (wr := (List.flatten ([] : List va_W))) (w1 := (List.flatten ([(oX0 (p0a 0) p0a p0k p0n (o_35.2.1)), (oX1 (p0a 1) p0_0a p0_0k p0_0n (o_35.2.2.1) p0_0l), (oX9 (p0_0a 3) (st1 (st1 (st1 (st1 (st1 p0_0_2a 2 x37) 3 x39) 4 x41) 5 x43) 6 x45) (st1 (st1 (st1 (st1 (st1 p0_0_2k 2 z38) 3 z40) 4 z42) 5 z44) 6 z46) (o_35.2.2.2.2) (o_35.2.2.2.1))] : List va_W))) (t1 := (List.flatten ([(tX0 p0k), (tX1 p0_0k), (tX9 (st1 (st1 (st1 (st1 (st1 p0_0_2k 2 z38) 3 z40) 4 z42) 5 z44) 6 z46))] : List (List (ClassId × FieldType))))) hPx hDx hKx hk1 hFc b1 (va_K.moved hvm.symm b2) b3
          have hP : va_P (dC, dI) cls (List.flatten ([(oX0 (p0a 0) p0a p0k p0n (o_35.2.1)), (oX1 (p0a 1) p0_0a p0_0k p0_0n (o_35.2.2.1) p0_0l), (oX9 (p0_0a 3) (st1 (st1 (st1 (st1 (st1 p0_0_2a 2 x37) 3 x39) 4 x41) 5 x43) 6 x45) (st1 (st1 (st1 (st1 (st1 p0_0_2k 2 z38) 3 z40) 4 z42) 5 z44) 6 z46) (o_35.2.2.2.2) (o_35.2.2.2.1))] : List va_W)) H := vP_perm (vP_fb hP) (bP (List.Perm.refl _))
          have hD : va_D A (List.flatten ([(oX0 (p0a 0) p0a p0k p0n (o_35.2.1)), (oX1 (p0a 1) p0_0a p0_0k p0_0n (o_35.2.2.1) p0_0l), (oX9 (p0_0a 3) (st1 (st1 (st1 (st1 (st1 p0_0_2a 2 x37) 3 x39) 4 x41) 5 x43) 6 x45) (st1 (st1 (st1 (st1 (st1 p0_0_2k 2 z38) 3 z40) 4 z42) 5 z44) 6 z46) (o_35.2.2.2.2) (o_35.2.2.2.1))] : List va_W)) := vD_perm (vD_fb hD) (bP (List.Perm.refl _))
          have hK : va_K (dC, dI) cls (List.flatten ([(tX0 p0k), (tX1 p0_0k), (tX9 (st1 (st1 (st1 (st1 (st1 p0_0_2k 2 z38) 3 z40) 4 z42) 5 z44) 6 z46))] : List (List (ClassId × FieldType)))) s := vK_perm (vK_fb hK) (bP (List.Perm.refl _))
          obtain rfl : r36 = (o_35.1) := hw
          refine W.widen (k := (hcX9 p0_0_2n (o_35.2.2.2.2))) (n := (3 * (gcX9 p0_0_2n (o_35.2.2.2.2)))) (by have a0 := gcX9_add hg_p0_0_2 (mo_fX0_fetch hc_35); omega) (by have a0 := gcX9_add hg_p0_0_2 (mo_fX0_fetch hc_35); omega) ?_
          have hg_p0_0_2 : glX9 p0_0_2n (o_35.2.2.2.2) := glX9_tr hg_p0_0_2 (mo_fX0_fetch hc_35)
          unfold fX0_putAwayIn_G146_47 at hrun
          refine lv_istore (lv' := [(7, .int (o_35.1)), (6, .int (p0_0_2w_100 5 (nn p2))), (0, .ref (p0a 0)), (1, .int p1), (2, .int p2), (3, .int p3), (4, .ref (p0_0a 3))]) hx hb dX0_putAwayIn_146 hl (by decide) rfl (fun ls hl => ?_)
          refine lv_aload hx hb dX0_putAwayIn_148 (lv_at hl 6 rfl) ?_
          refine va_get (D := (dC, dI)) (ci := 3) (v := .ref x43) (C := RX9) (T := TX9) (N := 6) hx hb hts i_X9 hown hK hP 27 rfl rfl 4 (by decide) (hts _ qw801) (fun _ h9 => h9) rfl dX0_putAwayIn_150 ?_
          refine lv_iload_n hx hb dX0_putAwayIn_153 rfl (lv_at hl 4 rfl) ?_
          refine lv_iload hx hb dX0_putAwayIn_154 (lv_at hl 0 rfl) ?_
          obtain ⟨hq48, hrun⟩ := chk9 hrun
          refine va_iast hx hb hK hP hD hS 31 28 rfl rfl (ixb_in hq48) dX0_putAwayIn_156 (fun H locs hP hD hS => ?_)
          have hP : va_P (dC, dI) cls (List.flatten ([(oX0 (p0a 0) p0a p0k p0n (o_35.2.1)), (oX1 (p0a 1) p0_0a p0_0k p0_0n (o_35.2.2.1) p0_0l), (oX9 (p0_0a 3) (st1 (st1 (st1 (st1 (st1 p0_0_2a 2 x37) 3 x39) 4 x41) 5 x43) 6 x45) (st1 (st1 (st1 (st1 (st1 p0_0_2k 2 z38) 3 z40) 4 z42) 5 z44) 6 z46) (o_35.2.2.2.2) (upw (o_35.2.2.2.1) 5 (nn p2) (o_35.1)))] : List va_W)) H := hP
          have hD : va_D A (List.flatten ([(oX0 (p0a 0) p0a p0k p0n (o_35.2.1)), (oX1 (p0a 1) p0_0a p0_0k p0_0n (o_35.2.2.1) p0_0l), (oX9 (p0_0a 3) (st1 (st1 (st1 (st1 (st1 p0_0_2a 2 x37) 3 x39) 4 x41) 5 x43) 6 x45) (st1 (st1 (st1 (st1 (st1 p0_0_2k 2 z38) 3 z40) 4 z42) 5 z44) 6 z46) (o_35.2.2.2.2) (upw (o_35.2.2.2.1) 5 (nn p2) (o_35.1)))] : List va_W)) := hD
          obtain ⟨w49, ew49, hrun⟩ := let9 hrun
          rw [← ew49] at hP hD
          exact J157 (o_35.2.1) (o_35.2.2.1) w49 (o_35.2.2.2.2) x37 z38 x39 z40 x41 z42 x43 z44 x45 z46 _ _ _ hrun hP hD hK hS (lv_sub hl [2, 3, 4, 6] rfl) hg_p0_0_2
  rcases br9 hrun with ⟨hc50, hrun⟩ | ⟨hc50, hrun⟩
  · refine lv_if_eq (tgt := 100) hx hb dX0_putAwayIn_28 (by decide) (fun _ => ?_) (fun c => absurd hc50 c)
    exact J100 p0w p0_0w p0_0_2w p0_0_2n (p0_0_2a 2) (p0_0_2k 2) (p0_0_2a 3) (p0_0_2k 3) (p0_0_2a 4) (p0_0_2k 4) (p0_0_2a 5) (p0_0_2k 5) (p0_0_2a 6) (p0_0_2k 6) _ _ _ hrun hP hD hK hS (lv_sub hl [2, 3, 4, 5, 1] rfl) hg_p0_0_2
  · refine lv_if_eq (tgt := 100) hx hb dX0_putAwayIn_28 (by decide) (fun c => absurd c hc50) (fun _ => ?_)
    refine lv_iload hx hb dX0_putAwayIn_31 (lv_at hl 0 rfl) ?_
    refine lv_iload_n hx hb dX0_putAwayIn_33 rfl (lv_at hl 5 rfl) ?_
    rcases br9 hrun with ⟨hc51, hrun⟩ | ⟨hc51, hrun⟩
    · refine lv_icmp_ge (tgt := 100) hx hb dX0_putAwayIn_34 (by decide) (fun _ => ?_) (fun c => absurd hc51 c)
      exact J100 p0w p0_0w p0_0_2w p0_0_2n (p0_0_2a 2) (p0_0_2k 2) (p0_0_2a 3) (p0_0_2k 3) (p0_0_2a 4) (p0_0_2k 4) (p0_0_2a 5) (p0_0_2k 5) (p0_0_2a 6) (p0_0_2k 6) _ _ _ hrun hP hD hK hS (lv_sub hl [2, 3, 4, 5, 1] rfl) hg_p0_0_2
    · refine lv_icmp_ge (tgt := 100) hx hb dX0_putAwayIn_34 (by decide) (fun c => absurd c hc51) (fun _ => ?_)
      refine lv_aload_n hx hb dX0_putAwayIn_37 rfl (lv_at hl 2 rfl) ?_
      refine va_get (D := (dC, dI)) (ci := 8) (v := .ref (p0a 13)) (C := RX0) (T := TX0) (N := 17) hx hb hts i_X0 hown hK hP 0 rfl rfl 12 (by decide) (hts _ qw622) (fun _ h9 => h9) rfl dX0_putAwayIn_38 ?_
      refine lv_iload hx hb dX0_putAwayIn_41 (lv_at hl 0 rfl) ?_
      obtain ⟨hq52, hrun⟩ := chk9 hrun
      refine va_iald hx hb hK hP 4 3 rfl rfl (ixb_in hq52) dX0_putAwayIn_43 ?_
      refine lv_iconst (v := (-1)) hx hb dX0_putAwayIn_44 (by decide) ?_
      rcases br9 hrun with ⟨hc53, hrun⟩ | ⟨hc53, hrun⟩
      · refine lv_icmp_eq (tgt := 100) hx hb dX0_putAwayIn_45 (by decide) (fun _ => ?_) (fun c => absurd hc53 c)
        exact J100 p0w p0_0w p0_0_2w p0_0_2n (p0_0_2a 2) (p0_0_2k 2) (p0_0_2a 3) (p0_0_2k 3) (p0_0_2a 4) (p0_0_2k 4) (p0_0_2a 5) (p0_0_2k 5) (p0_0_2a 6) (p0_0_2k 6) _ _ _ hrun hP hD hK hS (lv_sub hl [2, 3, 4, 5, 1] rfl) hg_p0_0_2
      · refine lv_icmp_eq (tgt := 100) hx hb dX0_putAwayIn_45 (by decide) (fun c => absurd c hc53) (fun _ => ?_)
        refine lv_aload_n hx hb dX0_putAwayIn_48 rfl (lv_at hl 2 rfl) ?_
        refine lv_iload_n hx hb dX0_putAwayIn_49 rfl (lv_at hl 3 rfl) ?_
        refine lv_iload hx hb dX0_putAwayIn_50 (lv_at hl 0 rfl) ?_
        obtain ⟨o_54, hc_54, hrun⟩ := bnd9 hrun
        have hPx : va_P (dC, dI) cls ((List.flatten ([(oX0 (p0a 0) p0a p0k p0n p0w), (oX1 (p0a 1) p0_0a p0_0k p0_0n p0_0w p0_0l), (oX9 (p0_0a 3) p0_0_2a p0_0_2k p0_0_2n p0_0_2w)] : List va_W)) ++ (List.flatten ([] : List va_W))) H := vP_fa (vP_perm hP (bP (List.Perm.refl _)))
        have hDx : va_D A ((List.flatten ([(oX0 (p0a 0) p0a p0k p0n p0w), (oX1 (p0a 1) p0_0a p0_0k p0_0n p0_0w p0_0l), (oX9 (p0_0a 3) p0_0_2a p0_0_2k p0_0_2n p0_0_2w)] : List va_W)) ++ (List.flatten ([] : List va_W))) := vD_fa (vD_perm hD (bP (List.Perm.refl _)))
        have hKx : va_K (dC, dI) cls ((List.flatten ([(tX0 p0k), (tX1 p0_0k), (tX9 p0_0_2k)] : List (List (ClassId × FieldType)))) ++ (List.flatten ([] : List (List (ClassId × FieldType))))) s := vK_fa (vK_perm hK (bP (List.Perm.refl _)))
        have hPc := vP_l hPx
        have hDc := vD_l hDx
        have hKc := vK_l hKx
        have hFc := vfree hDx hS hA
        have hgn_p0_0_2 : glX9 (o_54.2.2.2.2) (o.2.2.2) := (mo_fX0_putAwayIn_G55_66 hrun)
        refine va_calli (va_runV (As := [.int p1, .int (p0_0_2w 4 (nn p2))]) (rest := []) ⟨hx, hb, hml, hown, hts⟩ (kX0_fetch l dC dI (p0a := p0a) (p0k := p0k) (p0n := p0n) (p0w := p0w) (p1 := p1) (p2 := (p0_0_2w 4 (nn p2))) (p0_0a := p0_0a) (p0_0k := p0_0k) (p0_0n := p0_0n) (p0_0w := p0_0w) (p0_0l := p0_0l) (p0_0_2a := p0_0_2a) (p0_0_2k := p0_0_2k) (p0_0_2n := p0_0_2n) (p0_0_2w := p0_0_2w) (sz := _) (o := o_54) (hrun := hc_54)) (cwV 2 hts (gi_V qw846 qw847 qw848 qw655 (gi_z qw845)) rfl rfl rfl (by decide +kernel) ⟨Nat.le_of_ble_eq_true rfl, Nat.le_of_ble_eq_true rfl⟩) ⟨PRE.blind, va_recv hKc hPc (ci := 8) (q0 := 0) rfl rfl, PRE.of hE hS hFc hPc hKc hDc⟩ rfl rfl hl.1 rfl (lv_room (Nat.le_of_ble_eq_true rfl)) dX0_putAwayIn_52 ⟨(show (hcX9 p0_0_2n p0_0_2n) + (hcX9 p0_0_2n (o_54.2.2.2.2)) ≤ (hcX9 p0_0_2n (o.2.2.2)) from by have q0 := gsX9 hg_p0_0_2 (mo_fX0_fetch hc_54) hgn_p0_0_2; omega), (show (3 * (gcX9 p0_0_2n p0_0_2n)) + (3 * (gcX9 p0_0_2n (o_54.2.2.2.2))) ≤ (3 * (gcX9 p0_0_2n (o.2.2.2))) from by have q0 := gsX9 hg_p0_0_2 (mo_fX0_fetch hc_54) hgn_p0_0_2; omega)⟩) hS (fun q _ h => hFc q h) hFc (fun r55 u t H locs ht hvm hw hB hz1 hk1 hS => ?_)
        obtain ⟨x56, z57, x58, z59, x60, z61, x62, z63, x64, z65, hB⟩ := hB
        obtain ⟨b1, b2, b3⟩ := hB
        rw [ht] at b1
        obtain ⟨hP, hD, hK⟩ := JOINC (wc := (List.flatten ([(oX0 (p0a 0) p0a p0k p0n p0w), (oX1 (p0a 1) p0_0a p0_0k p0_0n p0_0w p0_0l), (oX9 (p0_0a 3) p0_0_2a p0_0_2k p0_0_2n p0_0_2w)] : List va_W))) (wr := (List.flatten ([] : List va_W))) (w1 := (List.flatten ([(oX0 (p0a 0) p0a p0k p0n (o_54.2.1)), (oX1 (p0a 1) p0_0a p0_0k p0_0n (o_54.2.2.1) p0_0l), (oX9 (p0_0a 3) (st1 (st1 (st1 (st1 (st1 p0_0_2a 2 x56) 3 x58) 4 x60) 5 x62) 6 x64) (st1 (st1 (st1 (st1 (st1 p0_0_2k 2 z57) 3 z59) 4 z61) 5 z63) 6 z65) (o_54.2.2.2.2) (o_54.2.2.2.1))] : List va_W))) (t1 := (List.flatten ([(tX0 p0k), (tX1 p0_0k), (tX9 (st1 (st1 (st1 (st1 (st1 p0_0_2k 2 z57) 3 z59) 4 z61) 5 z63) 6 z65))] : List (List (ClassId × FieldType))))) hPx hDx hKx hk1 hFc b1 (va_K.moved hvm.symm b2) b3
        have hP : va_P (dC, dI) cls (List.flatten ([(oX0 (p0a 0) p0a p0k p0n (o_54.2.1)), (oX1 (p0a 1) p0_0a p0_0k p0_0n (o_54.2.2.1) p0_0l), (oX9 (p0_0a 3) (st1 (st1 (st1 (st1 (st1 p0_0_2a 2 x56) 3 x58) 4 x60) 5 x62) 6 x64) (st1 (st1 (st1 (st1 (st1 p0_0_2k 2 z57) 3 z59) 4 z61) 5 z63) 6 z65) (o_54.2.2.2.2) (o_54.2.2.2.1))] : List va_W)) H := vP_perm (vP_fb hP) (bP (List.Perm.refl _))
        have hD : va_D A (List.flatten ([(oX0 (p0a 0) p0a p0k p0n (o_54.2.1)), (oX1 (p0a 1) p0_0a p0_0k p0_0n (o_54.2.2.1) p0_0l), (oX9 (p0_0a 3) (st1 (st1 (st1 (st1 (st1 p0_0_2a 2 x56) 3 x58) 4 x60) 5 x62) 6 x64) (st1 (st1 (st1 (st1 (st1 p0_0_2k 2 z57) 3 z59) 4 z61) 5 z63) 6 z65) (o_54.2.2.2.2) (o_54.2.2.2.1))] : List va_W)) := vD_perm (vD_fb hD) (bP (List.Perm.refl _))
        have hK : va_K (dC, dI) cls (List.flatten ([(tX0 p0k), (tX1 p0_0k), (tX9 (st1 (st1 (st1 (st1 (st1 p0_0_2k 2 z57) 3 z59) 4 z61) 5 z63) 6 z65))] : List (List (ClassId × FieldType)))) s := vK_perm (vK_fb hK) (bP (List.Perm.refl _))
        obtain rfl : r55 = (o_54.1) := hw
        refine W.widen (k := (hcX9 p0_0_2n (o_54.2.2.2.2))) (n := (3 * (gcX9 p0_0_2n (o_54.2.2.2.2)))) (by have a0 := gcX9_add hg_p0_0_2 (mo_fX0_fetch hc_54); omega) (by have a0 := gcX9_add hg_p0_0_2 (mo_fX0_fetch hc_54); omega) ?_
        have hg_p0_0_2 : glX9 p0_0_2n (o_54.2.2.2.2) := glX9_tr hg_p0_0_2 (mo_fX0_fetch hc_54)
        unfold fX0_putAwayIn_G55_66 at hrun
        refine lv_istore (lv' := [(6, .int (o_54.1)), (5, .int (p0_0_2w 4 (nn p2))), (4, .ref (p0_0a 3)), (0, .ref (p0a 0)), (1, .int p1), (2, .int p2), (3, .int p3)]) hx hb dX0_putAwayIn_55 hl (by decide) rfl (fun ls hl => ?_)
        refine lv_aload hx hb dX0_putAwayIn_57 (lv_at hl 2 rfl) ?_
        refine va_get (D := (dC, dI)) (ci := 3) (v := .ref x60) (C := RX9) (T := TX9) (N := 6) hx hb hts i_X9 hown hK hP 27 rfl rfl 3 (by decide) (hts _ qw631) (fun _ h9 => h9) rfl dX0_putAwayIn_59 ?_
        refine lv_iload_n hx hb dX0_putAwayIn_62 rfl (lv_at hl 5 rfl) ?_
        refine lv_iload hx hb dX0_putAwayIn_63 (lv_at hl 0 rfl) ?_
        obtain ⟨hq67, hrun⟩ := chk9 hrun
        refine va_iast hx hb hK hP hD hS 30 27 rfl rfl (ixb_in hq67) dX0_putAwayIn_65 (fun H locs hP hD hS => ?_)
        have hP : va_P (dC, dI) cls (List.flatten ([(oX0 (p0a 0) p0a p0k p0n (o_54.2.1)), (oX1 (p0a 1) p0_0a p0_0k p0_0n (o_54.2.2.1) p0_0l), (oX9 (p0_0a 3) (st1 (st1 (st1 (st1 (st1 p0_0_2a 2 x56) 3 x58) 4 x60) 5 x62) 6 x64) (st1 (st1 (st1 (st1 (st1 p0_0_2k 2 z57) 3 z59) 4 z61) 5 z63) 6 z65) (o_54.2.2.2.2) (upw (o_54.2.2.2.1) 4 (nn p2) (o_54.1)))] : List va_W)) H := hP
        have hD : va_D A (List.flatten ([(oX0 (p0a 0) p0a p0k p0n (o_54.2.1)), (oX1 (p0a 1) p0_0a p0_0k p0_0n (o_54.2.2.1) p0_0l), (oX9 (p0_0a 3) (st1 (st1 (st1 (st1 (st1 p0_0_2a 2 x56) 3 x58) 4 x60) 5 x62) 6 x64) (st1 (st1 (st1 (st1 (st1 p0_0_2k 2 z57) 3 z59) 4 z61) 5 z63) 6 z65) (o_54.2.2.2.2) (upw (o_54.2.2.2.1) 4 (nn p2) (o_54.1)))] : List va_W)) := hD
        obtain ⟨w68, ew68, hrun⟩ := let9 hrun
        rw [← ew68] at hP hD
        refine lv_aload hx hb dX0_putAwayIn_66 (lv_at hl 2 rfl) ?_
        refine va_get (D := (dC, dI)) (ci := 3) (v := .ref x56) (C := RX9) (T := TX9) (N := 6) hx hb hts i_X9 hown hK hP 27 rfl rfl 1 (by decide) (hts _ qw630) (fun _ h9 => h9) rfl dX0_putAwayIn_68 ?_
        refine lv_iload_n hx hb dX0_putAwayIn_71 rfl (lv_at hl 5 rfl) ?_
        obtain ⟨hq69, hrun⟩ := chk9 hrun
        refine va_iald hx hb hK hP 28 25 rfl rfl (ixb_in hq69) dX0_putAwayIn_72 ?_
        obtain ⟨o_70, hc_70, hrun⟩ := bnd9 hrun
        have hPx : va_P (dC, dI) cls ((List.flatten ([] : List va_W)) ++ (List.flatten ([(oX0 (p0a 0) p0a p0k p0n (o_54.2.1)), (oX1 (p0a 1) p0_0a p0_0k p0_0n (o_54.2.2.1) p0_0l), (oX9 (p0_0a 3) (st1 (st1 (st1 (st1 (st1 p0_0_2a 2 x56) 3 x58) 4 x60) 5 x62) 6 x64) (st1 (st1 (st1 (st1 (st1 p0_0_2k 2 z57) 3 z59) 4 z61) 5 z63) 6 z65) (o_54.2.2.2.2) w68)] : List va_W))) H := vP_fa (vP_perm hP (bP (List.Perm.refl _)))
        have hDx : va_D A ((List.flatten ([] : List va_W)) ++ (List.flatten ([(oX0 (p0a 0) p0a p0k p0n (o_54.2.1)), (oX1 (p0a 1) p0_0a p0_0k p0_0n (o_54.2.2.1) p0_0l), (oX9 (p0_0a 3) (st1 (st1 (st1 (st1 (st1 p0_0_2a 2 x56) 3 x58) 4 x60) 5 x62) 6 x64) (st1 (st1 (st1 (st1 (st1 p0_0_2k 2 z57) 3 z59) 4 z61) 5 z63) 6 z65) (o_54.2.2.2.2) w68)] : List va_W))) := vD_fa (vD_perm hD (bP (List.Perm.refl _)))
        have hKx : va_K (dC, dI) cls ((List.flatten ([] : List (List (ClassId × FieldType)))) ++ (List.flatten ([(tX0 p0k), (tX1 p0_0k), (tX9 (st1 (st1 (st1 (st1 (st1 p0_0_2k 2 z57) 3 z59) 4 z61) 5 z63) 6 z65))] : List (List (ClassId × FieldType))))) s := vK_fa (vK_perm hK (bP (List.Perm.refl _)))
        have hPc := vP_l hPx
        have hDc := vD_l hDx
        have hKc := vK_l hKx
        have hFc := vfree hDx hS hA
        refine va_calli (va_runSN (As := [.int (w68 2 (nn p2))]) (rest := []) ⟨hx, hb, hml, hown, hts⟩ (kX11_usesRight l dC dI (p0 := (w68 2 (nn p2))) (sz := _) (o := o_70) (hrun := hc_70)) ⟨(va_cnB 1 hts (gi_z qw351) rfl rfl rfl (hE.nw (List.mem_append_right _ (tbl_9 (i := 65) rfl)) rfl) (hts _ qw129) (by decide +kernel) ⟨Nat.le_of_ble_eq_true rfl, Nat.le_of_ble_eq_true rfl⟩), (hts _ qw352), trivial⟩ ⟨PRE.blind, PRE.of hE hS hFc hPc hKc hDc⟩ rfl rfl hl.1 rfl (lv_room (Nat.le_of_ble_eq_true rfl)) dX0_putAwayIn_73 ⟨(show (hcX9 p0_0_2n (o_54.2.2.2.2)) + 0 ≤ (hcX9 p0_0_2n (o.2.2.2)) from by have q0 := gmX9 hg_p0_0_2 hgn_p0_0_2; omega), (show (3 * (gcX9 p0_0_2n (o_54.2.2.2.2))) + 0 ≤ (3 * (gcX9 p0_0_2n (o.2.2.2))) from by have q0 := gmX9 hg_p0_0_2 hgn_p0_0_2; omega)⟩) hS (fun q _ h => hFc q h) hFc (fun r71 u t H locs ht hvm hw hB hz1 hk1 hS => ?_)
        obtain ⟨b1, b2, b3⟩ := hB
        rw [ht] at b1
        obtain ⟨hP, hD, hK⟩ := JOINC (wc := (List.flatten ([] : List va_W))) (wr := (List.flatten ([(oX0 (p0a 0) p0a p0k p0n (o_54.2.1)), (oX1 (p0a 1) p0_0a p0_0k p0_0n (o_54.2.2.1) p0_0l), (oX9 (p0_0a 3) (st1 (st1 (st1 (st1 (st1 p0_0_2a 2 x56) 3 x58) 4 x60) 5 x62) 6 x64) (st1 (st1 (st1 (st1 (st1 p0_0_2k 2 z57) 3 z59) 4 z61) 5 z63) 6 z65) (o_54.2.2.2.2) w68)] : List va_W))) (w1 := (List.flatten ([] : List va_W))) (t1 := (List.flatten ([] : List (List (ClassId × FieldType))))) hPx hDx hKx hk1 hFc b1 (va_K.moved hvm.symm b2) b3
        have hP : va_P (dC, dI) cls (List.flatten ([(oX0 (p0a 0) p0a p0k p0n (o_54.2.1)), (oX1 (p0a 1) p0_0a p0_0k p0_0n (o_54.2.2.1) p0_0l), (oX9 (p0_0a 3) (st1 (st1 (st1 (st1 (st1 p0_0_2a 2 x56) 3 x58) 4 x60) 5 x62) 6 x64) (st1 (st1 (st1 (st1 (st1 p0_0_2k 2 z57) 3 z59) 4 z61) 5 z63) 6 z65) (o_54.2.2.2.2) w68)] : List va_W)) H := vP_perm (vP_fb hP) (bP (List.Perm.refl _))
        have hD : va_D A (List.flatten ([(oX0 (p0a 0) p0a p0k p0n (o_54.2.1)), (oX1 (p0a 1) p0_0a p0_0k p0_0n (o_54.2.2.1) p0_0l), (oX9 (p0_0a 3) (st1 (st1 (st1 (st1 (st1 p0_0_2a 2 x56) 3 x58) 4 x60) 5 x62) 6 x64) (st1 (st1 (st1 (st1 (st1 p0_0_2k 2 z57) 3 z59) 4 z61) 5 z63) 6 z65) (o_54.2.2.2.2) w68)] : List va_W)) := vD_perm (vD_fb hD) (bP (List.Perm.refl _))
        have hK : va_K (dC, dI) cls (List.flatten ([(tX0 p0k), (tX1 p0_0k), (tX9 (st1 (st1 (st1 (st1 (st1 p0_0_2k 2 z57) 3 z59) 4 z61) 5 z63) 6 z65))] : List (List (ClassId × FieldType)))) s := vK_perm (vK_fb hK) (bP (List.Perm.refl _))
        obtain rfl : o_70 = r71 := hw.symm
        rcases br9 hrun with ⟨hc72, hrun⟩ | ⟨hc72, hrun⟩
        · refine lv_if_eq (tgt := 100) hx hb dX0_putAwayIn_76 (by decide) (fun _ => ?_) (fun c => absurd hc72 c)
          exact J100 (o_54.2.1) (o_54.2.2.1) w68 (o_54.2.2.2.2) x56 z57 x58 z59 x60 z61 x62 z63 x64 z65 _ _ _ hrun hP hD hK hS (lv_sub hl [3, 4, 5, 6, 2] rfl) hg_p0_0_2
        · refine lv_if_eq (tgt := 100) hx hb dX0_putAwayIn_76 (by decide) (fun c => absurd c hc72) (fun _ => ?_)
          refine lv_aload hx hb dX0_putAwayIn_79 (lv_at hl 2 rfl) ?_
          refine va_get (D := (dC, dI)) (ci := 3) (v := .ref x62) (C := RX9) (T := TX9) (N := 6) hx hb hts i_X9 hown hK hP 27 rfl rfl 4 (by decide) (hts _ qw801) (fun _ h9 => h9) rfl dX0_putAwayIn_81 ?_
          refine lv_iload_n hx hb dX0_putAwayIn_84 rfl (lv_at hl 5 rfl) ?_
          obtain ⟨hq73, hrun⟩ := chk9 hrun
          refine va_iald hx hb hK hP 31 28 rfl rfl (ixb_in hq73) dX0_putAwayIn_85 ?_
          refine lv_iload hx hb dX0_putAwayIn_86 (lv_at hl 1 rfl) ?_
          rcases br9 hrun with ⟨hc74, hrun⟩ | ⟨hc74, hrun⟩
          · refine lv_icmp_ne (tgt := 100) hx hb dX0_putAwayIn_88 (by decide) (fun c => absurd hc74 c) (fun _ => ?_)
            refine lv_aload hx hb dX0_putAwayIn_91 (lv_at hl 2 rfl) ?_
            refine va_get (D := (dC, dI)) (ci := 3) (v := .ref x62) (C := RX9) (T := TX9) (N := 6) hx hb hts i_X9 hown hK hP 27 rfl rfl 4 (by decide) (hts _ qw801) (fun _ h9 => h9) rfl dX0_putAwayIn_93 ?_
            refine lv_iload_n hx hb dX0_putAwayIn_96 rfl (lv_at hl 5 rfl) ?_
            refine lv_iload hx hb dX0_putAwayIn_97 (lv_at hl 0 rfl) ?_
            obtain ⟨hq75, hrun⟩ := chk9 hrun
            refine va_iast hx hb hK hP hD hS 31 28 rfl rfl (ixb_in hq75) dX0_putAwayIn_99 (fun H locs hP hD hS => ?_)
            have hP : va_P (dC, dI) cls (List.flatten ([(oX0 (p0a 0) p0a p0k p0n (o_54.2.1)), (oX1 (p0a 1) p0_0a p0_0k p0_0n (o_54.2.2.1) p0_0l), (oX9 (p0_0a 3) (st1 (st1 (st1 (st1 (st1 p0_0_2a 2 x56) 3 x58) 4 x60) 5 x62) 6 x64) (st1 (st1 (st1 (st1 (st1 p0_0_2k 2 z57) 3 z59) 4 z61) 5 z63) 6 z65) (o_54.2.2.2.2) (upw w68 5 (nn p2) (o_54.1)))] : List va_W)) H := hP
            have hD : va_D A (List.flatten ([(oX0 (p0a 0) p0a p0k p0n (o_54.2.1)), (oX1 (p0a 1) p0_0a p0_0k p0_0n (o_54.2.2.1) p0_0l), (oX9 (p0_0a 3) (st1 (st1 (st1 (st1 (st1 p0_0_2a 2 x56) 3 x58) 4 x60) 5 x62) 6 x64) (st1 (st1 (st1 (st1 (st1 p0_0_2k 2 z57) 3 z59) 4 z61) 5 z63) 6 z65) (o_54.2.2.2.2) (upw w68 5 (nn p2) (o_54.1)))] : List va_W)) := hD
            obtain ⟨w76, ew76, hrun⟩ := let9 hrun
            rw [← ew76] at hP hD
            exact J100 (o_54.2.1) (o_54.2.2.1) w76 (o_54.2.2.2.2) x56 z57 x58 z59 x60 z61 x62 z63 x64 z65 _ _ _ hrun hP hD hK hS (lv_sub hl [3, 4, 5, 6, 2] rfl) hg_p0_0_2
          · refine lv_icmp_ne (tgt := 100) hx hb dX0_putAwayIn_88 (by decide) (fun _ => ?_) (fun c => absurd c hc74)
            exact J100 (o_54.2.1) (o_54.2.2.1) w68 (o_54.2.2.2.2) x56 z57 x58 z59 x60 z61 x62 z63 x64 z65 _ _ _ hrun hP hD hK hS (lv_sub hl [3, 4, 5, 6, 2] rfl) hg_p0_0_2
def fX0_putAway_J72 (kk31 : Int32 → ST → Option ST) (v2_31 : Int32) (p0w_72 : ST) : Option ST := (kk31 (v2_31 + 1) p0w_72)
def fX0_putAway_L31 (p0w : ST) (p0_6n : Nat → Nat) (p0_6w : ST) (p0_0_2n : Nat → Nat) (p0_0_2w : ST) (n8 : Nat → Nat) : Nat → Int32 → ST → Option ST
  | 0 => fun _ _ => none
  | n_31 + 1 => fun v2_31 p0w_31 => (if (p0w 0 8) ≤ v2_31 then some p0w_31 else (if ixb v2_31 (n8 13) = true then (lt9 (upw p0w_31 13 (nn v2_31) (-1)) fun (w15 : ST) => (if ixb v2_31 (p0_6n 15) = true then (if (p0_6w 15 (nn v2_31)) ≤ 0 then (fX0_putAway_J72 (fX0_putAway_L31 p0w p0_6n p0_6w p0_0_2n p0_0_2w n8 n_31) v2_31 w15) else (if ixb v2_31 (p0_6n 17) = true then (if 0 ≤ (p0_6w 17 (nn v2_31)) then (fX0_putAway_J72 (fX0_putAway_L31 p0w p0_6n p0_6w p0_0_2n p0_0_2w n8 n_31) v2_31 w15) else ((fX0_findSlot n8 w15 v2_31 p0_6n p0_6w p0_0_2n p0_0_2w).bind fun (o_20 : ST) => (fX0_putAway_J72 (fX0_putAway_L31 p0w p0_6n p0_6w p0_0_2n p0_0_2w n8 n_31) v2_31 o_20))) else none)) else none)) else none))
def fX0_putAway_G128_37 (kk101 : Int32 → ST → ST → ST → (Nat → Nat) → Option (ST × ST × ST × (Nat → Nat))) (v4_101 : Int32) (p0_0_2w_101 : ST) (o_26 : ST × ST × ST × (Nat → Nat)) : Option (ST × ST × ST × (Nat → Nat)) := (kk101 (p0_0_2w_101 6 (nn v4_101)) (o_26.1) (o_26.2.1) (o_26.2.2.1) (o_26.2.2.2))
theorem mo_fX0_putAway_G128_37 {kk101 : Int32 → ST → ST → ST → (Nat → Nat) → Option (ST × ST × ST × (Nat → Nat))} {v4_101 : Int32} {p0_0_2w_101 : ST} {o_26 : ST × ST × ST × (Nat → Nat)} {o9q : ST × ST × ST × (Nat → Nat)} (hkk : ∀ (v4_101q : Int32) (p0w_101q : ST) (p0_0w_101q : ST) (p0_0_2w_101q : ST) (p0_0_2n_101q : Nat → Nat) (r9 : ST × ST × ST × (Nat → Nat)), kk101 v4_101q p0w_101q p0_0w_101q p0_0_2w_101q p0_0_2n_101q = some r9 → glX9 p0_0_2n_101q (r9.2.2.2)) (hrun : fX0_putAway_G128_37 kk101 v4_101 p0_0_2w_101 o_26 = some o9q) : glX9 (o_26.2.2.2) (o9q.2.2.2) := by
  unfold fX0_putAway_G128_37 at hrun
  exact (hkk _ _ _ _ _ _ hrun)
def fX0_putAway_L101 (p0w : ST) (n8 : Nat → Nat) (v2_80 : Int32) : Nat → Int32 → ST → ST → ST → (Nat → Nat) → Option (ST × ST × ST × (Nat → Nat))
  | 0 => fun _ _ _ _ _ => none
  | n_101 + 1 => fun v4_101 p0w_101 p0_0w_101 p0_0_2w_101 p0_0_2n_101 => (if v4_101 < 0 then some (p0w_101, p0_0w_101, p0_0_2w_101, p0_0_2n_101) else (if ixb v4_101 (p0_0_2n_101 6) = true then ((fX0_putAwayIn n8 p0w_101 v2_80 v4_101 (p0w 0 8) p0_0w_101 p0_0_2n_101 p0_0_2w_101).bind fun (o_26 : ST × ST × ST × (Nat → Nat)) => (fX0_putAway_G128_37 (fX0_putAway_L101 p0w n8 v2_80 n_101) v4_101 p0_0_2w_101 o_26)) else none))
theorem mo_fX0_putAway_L101 {p0w : ST} {n8 : Nat → Nat} {v2_80 : Int32} : ∀ (n_101 : Nat) (v4_101 : Int32) (p0w_101 : ST) (p0_0w_101 : ST) (p0_0_2w_101 : ST) (p0_0_2n_101 : Nat → Nat) (o9q : ST × ST × ST × (Nat → Nat)), (fX0_putAway_L101 p0w n8 v2_80 n_101) v4_101 p0w_101 p0_0w_101 p0_0_2w_101 p0_0_2n_101 = some o9q → glX9 p0_0_2n_101 (o9q.2.2.2) := by
  intro n_101
  induction n_101 with
  | zero => intro v4_101 p0w_101 p0_0w_101 p0_0_2w_101 p0_0_2n_101 o9q hrun; exact (no9 rfl hrun).elim
  | succ n_101 ih9 =>
    intro v4_101 p0w_101 p0_0w_101 p0_0_2w_101 p0_0_2n_101 o9q hrun
    unfold fX0_putAway_L101 at hrun
    rcases br9 hrun with ⟨hc24, hrun⟩ | ⟨hc24, hrun⟩
    · skip
      obtain rfl := (Option.some.inj hrun)
      exact (glX9_rf _)
    · skip
      obtain ⟨hq25, hrun⟩ := chk9 hrun
      obtain ⟨o_26, hc_26, hrun⟩ := bnd9 hrun
      exact (glX9_tr (mo_fX0_putAwayIn hc_26) (mo_fX0_putAway_G128_37 ih9 hrun))
def fX0_putAway_J177 (kk80 : Int32 → ST → ST → ST → (Nat → Nat) → Option (ST × ST × ST × (Nat → Nat))) (v2_80 : Int32) (p0w_177 : ST) (p0_0w_177 : ST) (p0_0_2w_177 : ST) (p0_0_2n_177 : Nat → Nat) : Option (ST × ST × ST × (Nat → Nat)) := (kk80 (v2_80 + 1) p0w_177 p0_0w_177 p0_0_2w_177 p0_0_2n_177)
theorem mo_fX0_putAway_J177 {kk80 : Int32 → ST → ST → ST → (Nat → Nat) → Option (ST × ST × ST × (Nat → Nat))} {v2_80 : Int32} {p0w_177 : ST} {p0_0w_177 : ST} {p0_0_2w_177 : ST} {p0_0_2n_177 : Nat → Nat} {o9q : ST × ST × ST × (Nat → Nat)} (hkk : ∀ (v2_80q : Int32) (p0w_80q : ST) (p0_0w_80q : ST) (p0_0_2w_80q : ST) (p0_0_2n_80q : Nat → Nat) (r9 : ST × ST × ST × (Nat → Nat)), kk80 v2_80q p0w_80q p0_0w_80q p0_0_2w_80q p0_0_2n_80q = some r9 → glX9 p0_0_2n_80q (r9.2.2.2)) (hrun : fX0_putAway_J177 kk80 v2_80 p0w_177 p0_0w_177 p0_0_2w_177 p0_0_2n_177 = some o9q) : glX9 p0_0_2n_177 (o9q.2.2.2) := by
  unfold fX0_putAway_J177 at hrun
  exact (hkk _ _ _ _ _ _ hrun)
def fX0_putAway_G176_55 (kk80 : Int32 → ST → ST → ST → (Nat → Nat) → Option (ST × ST × ST × (Nat → Nat))) (v2_80 : Int32) (o_43 : Int32 × ST × ST × ST × (Nat → Nat)) : Option (ST × ST × ST × (Nat → Nat)) := (if ixb v2_80 60 = true then (lt9 (upw (o_43.2.2.1) 9 (nn v2_80) (o_43.1)) fun (w57 : ST) => (fX0_putAway_J177 kk80 v2_80 (o_43.2.1) w57 (o_43.2.2.2.1) (o_43.2.2.2.2))) else none)
theorem mo_fX0_putAway_G176_55 {kk80 : Int32 → ST → ST → ST → (Nat → Nat) → Option (ST × ST × ST × (Nat → Nat))} {v2_80 : Int32} {o_43 : Int32 × ST × ST × ST × (Nat → Nat)} {o9q : ST × ST × ST × (Nat → Nat)} (hkk : ∀ (v2_80q : Int32) (p0w_80q : ST) (p0_0w_80q : ST) (p0_0_2w_80q : ST) (p0_0_2n_80q : Nat → Nat) (r9 : ST × ST × ST × (Nat → Nat)), kk80 v2_80q p0w_80q p0_0w_80q p0_0_2w_80q p0_0_2n_80q = some r9 → glX9 p0_0_2n_80q (r9.2.2.2)) (hrun : fX0_putAway_G176_55 kk80 v2_80 o_43 = some o9q) : glX9 (o_43.2.2.2.2) (o9q.2.2.2) := by
  unfold fX0_putAway_G176_55 at hrun
  obtain ⟨hq56, hrun⟩ := chk9 hrun
  obtain ⟨w57, ew57, hrun⟩ := let9 hrun
  exact (mo_fX0_putAway_J177 hkk hrun)
def fX0_putAway_G134_38 (kk80 : Int32 → ST → ST → ST → (Nat → Nat) → Option (ST × ST × ST × (Nat → Nat))) (n8 : Nat → Nat) (v2_80 : Int32) (o101 : ST × ST × ST × (Nat → Nat)) : Option (ST × ST × ST × (Nat → Nat)) := (if ixb v2_80 60 = true then (if (((o101.2.1) 9) (nn v2_80)) < 0 then (fX0_putAway_J177 kk80 v2_80 (o101.1) (o101.2.1) (o101.2.2.1) (o101.2.2.2)) else (if ixb (((o101.2.1) 9) (nn v2_80)) (n8 13) = true then (if (((o101.1) 13) (nn (((o101.2.1) 9) (nn v2_80)))) = (-1) then (fX0_putAway_J177 kk80 v2_80 (o101.1) (o101.2.1) (o101.2.2.1) (o101.2.2.2)) else ((fX0_fetch n8 (o101.1) v2_80 (((o101.2.1) 9) (nn v2_80)) (o101.2.1) (o101.2.2.2) (o101.2.2.1)).bind fun (o_43 : Int32 × ST × ST × ST × (Nat → Nat)) => (fX0_putAway_G176_55 kk80 v2_80 o_43))) else none)) else none)
theorem mo_fX0_putAway_G134_38 {kk80 : Int32 → ST → ST → ST → (Nat → Nat) → Option (ST × ST × ST × (Nat → Nat))} {n8 : Nat → Nat} {v2_80 : Int32} {o101 : ST × ST × ST × (Nat → Nat)} {o9q : ST × ST × ST × (Nat → Nat)} (hkk : ∀ (v2_80q : Int32) (p0w_80q : ST) (p0_0w_80q : ST) (p0_0_2w_80q : ST) (p0_0_2n_80q : Nat → Nat) (r9 : ST × ST × ST × (Nat → Nat)), kk80 v2_80q p0w_80q p0_0w_80q p0_0_2w_80q p0_0_2n_80q = some r9 → glX9 p0_0_2n_80q (r9.2.2.2)) (hrun : fX0_putAway_G134_38 kk80 n8 v2_80 o101 = some o9q) : glX9 (o101.2.2.2) (o9q.2.2.2) := by
  unfold fX0_putAway_G134_38 at hrun
  obtain ⟨hq39, hrun⟩ := chk9 hrun
  rcases br9 hrun with ⟨hc40, hrun⟩ | ⟨hc40, hrun⟩
  · skip
    exact (mo_fX0_putAway_J177 hkk hrun)
  · skip
    obtain ⟨hq41, hrun⟩ := chk9 hrun
    rcases br9 hrun with ⟨hc42, hrun⟩ | ⟨hc42, hrun⟩
    · skip
      exact (mo_fX0_putAway_J177 hkk hrun)
    · skip
      obtain ⟨o_43, hc_43, hrun⟩ := bnd9 hrun
      exact (glX9_tr (mo_fX0_fetch hc_43) (mo_fX0_putAway_G176_55 hkk hrun))
def fX0_putAway_L80 (p0w : ST) (n8 : Nat → Nat) : Nat → Int32 → ST → ST → ST → (Nat → Nat) → Option (ST × ST × ST × (Nat → Nat))
  | 0 => fun _ _ _ _ _ => none
  | n_80 + 1 => fun v2_80 p0w_80 p0_0w_80 p0_0_2w_80 p0_0_2n_80 => (if (p0_0w_80 0 0) ≤ v2_80 then some (p0w_80, p0_0w_80, p0_0_2w_80, p0_0_2n_80) else ((fX1_takeSteps p0_0w_80 v2_80).bind fun (o_22 : Int32 × ST) => ((fX0_putAway_L101 p0w n8 v2_80 NF (o_22.1) p0w_80 (o_22.2) p0_0_2w_80 p0_0_2n_80).bind fun (o101 : ST × ST × ST × (Nat → Nat)) => (fX0_putAway_G134_38 (fX0_putAway_L80 p0w n8 n_80) n8 v2_80 o101))))
theorem mo_fX0_putAway_L80 {p0w : ST} {n8 : Nat → Nat} : ∀ (n_80 : Nat) (v2_80 : Int32) (p0w_80 : ST) (p0_0w_80 : ST) (p0_0_2w_80 : ST) (p0_0_2n_80 : Nat → Nat) (o9q : ST × ST × ST × (Nat → Nat)), (fX0_putAway_L80 p0w n8 n_80) v2_80 p0w_80 p0_0w_80 p0_0_2w_80 p0_0_2n_80 = some o9q → glX9 p0_0_2n_80 (o9q.2.2.2) := by
  intro n_80
  induction n_80 with
  | zero => intro v2_80 p0w_80 p0_0w_80 p0_0_2w_80 p0_0_2n_80 o9q hrun; exact (no9 rfl hrun).elim
  | succ n_80 ih9 =>
    intro v2_80 p0w_80 p0_0w_80 p0_0_2w_80 p0_0_2n_80 o9q hrun
    unfold fX0_putAway_L80 at hrun
    rcases br9 hrun with ⟨hc21, hrun⟩ | ⟨hc21, hrun⟩
    · skip
      obtain rfl := (Option.some.inj hrun)
      exact (glX9_rf _)
    · skip
      obtain ⟨o_22, hc_22, hrun⟩ := bnd9 hrun
      obtain ⟨o101, hc101, hrun⟩ := bnd9 hrun
      exact (glX9_tr (mo_fX0_putAway_L101 _ _ _ _ _ _ _ hc101) (mo_fX0_putAway_G134_38 ih9 hrun))
def fX0_putAway_G183_58 (n8 : Nat → Nat) (o80 : ST × ST × ST × (Nat → Nat)) : Option (ST × (Nat → Nat) × ST × ST × (Nat → Nat)) := some ((o80.1), n8, (o80.2.1), (o80.2.2.1), (o80.2.2.2))
theorem mo_fX0_putAway_G183_58 {n8 : Nat → Nat} {o80 : ST × ST × ST × (Nat → Nat)} {o9q : ST × (Nat → Nat) × ST × ST × (Nat → Nat)} (hrun : fX0_putAway_G183_58 n8 o80 = some o9q) : (glX0 n8 (o9q.2.1)) ∧ (glX9 (o80.2.2.2) (o9q.2.2.2.2)) := by
  unfold fX0_putAway_G183_58 at hrun
  obtain rfl := (Option.some.inj hrun)
  exact ⟨(glX0_rf _), (glX9_rf _)⟩
def fX0_putAway_G29_12 (p0w : ST) (p0_6n : Nat → Nat) (p0_6w : ST) (p0_0w : ST) (p0_0_2n : Nat → Nat) (p0_0_2w : ST) (n8 : Nat → Nat) (w9 : ST) : Option (ST × (Nat → Nat) × ST × ST × (Nat → Nat)) := ((fX0_putAway_L31 p0w p0_6n p0_6w p0_0_2n p0_0_2w n8 NF 0 w9).bind fun (o31 : ST) => ((fX0_putAway_L80 p0w n8 NF 0 o31 p0_0w p0_0_2w p0_0_2n).bind fun (o80 : ST × ST × ST × (Nat → Nat)) => (fX0_putAway_G183_58 n8 o80)))
theorem mo_fX0_putAway_G29_12 {p0w : ST} {p0_6n : Nat → Nat} {p0_6w : ST} {p0_0w : ST} {p0_0_2n : Nat → Nat} {p0_0_2w : ST} {n8 : Nat → Nat} {w9 : ST} {o9q : ST × (Nat → Nat) × ST × ST × (Nat → Nat)} (hrun : fX0_putAway_G29_12 p0w p0_6n p0_6w p0_0w p0_0_2n p0_0_2w n8 w9 = some o9q) : (glX0 n8 (o9q.2.1)) ∧ (glX9 p0_0_2n (o9q.2.2.2.2)) := by
  unfold fX0_putAway_G29_12 at hrun
  obtain ⟨o31, hc31, hrun⟩ := bnd9 hrun
  obtain ⟨o80, hc80, hrun⟩ := bnd9 hrun
  exact ⟨((mo_fX0_putAway_G183_58 hrun).1), (glX9_tr (mo_fX0_putAway_L80 _ _ _ _ _ _ _ hc80) ((mo_fX0_putAway_G183_58 hrun).2))⟩
def fX0_putAway_G17_6 (p0w : ST) (p0_6n : Nat → Nat) (p0_6w : ST) (p0_0w : ST) (p0_0_2n : Nat → Nat) (p0_0_2w : ST) (n2 : Nat → Nat) (w3 : ST) : Option (ST × (Nat → Nat) × ST × ST × (Nat → Nat)) := ((fX11_atLeast (n2 14) (w3 14) (p0w 0 8)).bind fun (o_7 : Nat × RI) => (lt9 (stn n2 14 (o_7.1)) fun (n8 : Nat → Nat) => (lt9 (srw w3 14 (o_7.2)) fun (w9 : ST) => (fX0_putAway_G29_12 p0w p0_6n p0_6w p0_0w p0_0_2n p0_0_2w n8 w9))))
theorem mo_fX0_putAway_G17_6 {p0w : ST} {p0_6n : Nat → Nat} {p0_6w : ST} {p0_0w : ST} {p0_0_2n : Nat → Nat} {p0_0_2w : ST} {n2 : Nat → Nat} {w3 : ST} {o9q : ST × (Nat → Nat) × ST × ST × (Nat → Nat)} (hrun : fX0_putAway_G17_6 p0w p0_6n p0_6w p0_0w p0_0_2n p0_0_2w n2 w3 = some o9q) : (glX0 n2 (o9q.2.1)) ∧ (glX9 p0_0_2n (o9q.2.2.2.2)) := by
  unfold fX0_putAway_G17_6 at hrun
  obtain ⟨o_7, hc_7, hrun⟩ := bnd9 hrun
  obtain ⟨n8, en8, hrun⟩ := let9 hrun
  obtain ⟨w9, ew9, hrun⟩ := let9 hrun
  skip
  exact ⟨(glX0_tr (by rw [en8]; exact glX0_14 (mo_fX11_atLeast hc_7) : glX0 n2 n8) ((mo_fX0_putAway_G29_12 hrun).1)), ((mo_fX0_putAway_G29_12 hrun).2)⟩
def fX0_putAway (p0n : Nat → Nat) (p0w : ST) (p0_6n : Nat → Nat) (p0_6w : ST) (p0_0w : ST) (p0_0_2n : Nat → Nat) (p0_0_2w : ST) : Option (ST × (Nat → Nat) × ST × ST × (Nat → Nat)) := ((fX11_atLeast (p0n 13) (p0w 13) (p0w 0 8)).bind fun (o_1 : Nat × RI) => (lt9 (stn p0n 13 (o_1.1)) fun (n2 : Nat → Nat) => (lt9 (srw p0w 13 (o_1.2)) fun (w3 : ST) => (fX0_putAway_G17_6 p0w p0_6n p0_6w p0_0w p0_0_2n p0_0_2w n2 w3))))
theorem mo_fX0_putAway {p0n : Nat → Nat} {p0w : ST} {p0_6n : Nat → Nat} {p0_6w : ST} {p0_0w : ST} {p0_0_2n : Nat → Nat} {p0_0_2w : ST} {o9q : ST × (Nat → Nat) × ST × ST × (Nat → Nat)} (hrun : fX0_putAway p0n p0w p0_6n p0_6w p0_0w p0_0_2n p0_0_2w = some o9q) : (glX0 p0n (o9q.2.1)) ∧ (glX9 p0_0_2n (o9q.2.2.2.2)) := by
  unfold fX0_putAway at hrun
  obtain ⟨o_1, hc_1, hrun⟩ := bnd9 hrun
  obtain ⟨n2, en2, hrun⟩ := let9 hrun
  obtain ⟨w3, ew3, hrun⟩ := let9 hrun
  skip
  exact ⟨(glX0_tr (by rw [en2]; exact glX0_13 (mo_fX11_atLeast hc_1) : glX0 p0n n2) ((mo_fX0_putAway_G17_6 hrun).1)), ((mo_fX0_putAway_G17_6 hrun).2)⟩
set_option maxHeartbeats 16000000 in
set_option maxRecDepth 100000 in
theorem kX0_putAway {zs : ZS} (l : Launch) (dC : Nat → ClassId) (dI : Nat → Nat → Nat) (p0a : Nat → Nat) (p0k : Nat → ClassId) (p0n : Nat → Nat) (p0w : ST) (p0_6a : Nat → Nat) (p0_6k : Nat → ClassId) (p0_6n : Nat → Nat) (p0_6w : ST) (p0_6l : SL) (p0_0a : Nat → Nat) (p0_0k : Nat → ClassId) (p0_0n : Nat → Nat) (p0_0w : ST) (p0_0l : SL) (p0_0_2a : Nat → Nat) (p0_0_2k : Nat → ClassId) (p0_0_2n : Nat → Nat) (p0_0_2w : ST) (sz : Nat) (o : ST × (Nat → Nat) × ST × ST × (Nat → Nat)) (hrun : fX0_putAway p0n p0w p0_6n p0_6w p0_0w p0_0_2n p0_0_2w = some o) : Met l yX0_putAway (wz yX0_putAway cX0_putAway 5 (Option.none : Option Jvm.ClassFile.FieldType)) ({ frames := 6, cells := (hcX0 p0n (o.2.1) + hcX9 p0_0_2n (o.2.2.2.2)), slots := (3 * (gcX0 p0n (o.2.1) + gcX9 p0_0_2n (o.2.2.2.2))), locals := 163 } : Room) (va_Pc [.ref (p0a 0)] (PRE zs dC dI (List.flatten ([(oX0 (p0a 0) p0a p0k p0n p0w), (oX2 (p0a 7) p0_6a p0_6k p0_6n p0_6w p0_6l), (oX1 (p0a 1) p0_0a p0_0k p0_0n p0_0w p0_0l), (oX9 (p0_0a 3) p0_0_2a p0_0_2k p0_0_2n p0_0_2w)] : List va_W)) (List.flatten ([(tX0 p0k), (tX2 p0_6k), (tX1 p0_0k), (tX9 p0_0_2k)] : List (List (ClassId × FieldType)))) sz)) (va_Qv (fun (_ : Unit) => True) (fun _ t => ∃ (xp0_12_z : Nat), ∃ (zp0_12_z : ClassId), ∃ (xp0_13_z : Nat), ∃ (zp0_13_z : ClassId), ∃ (xp0_0_2_1_z : Nat), ∃ (zp0_0_2_1_z : ClassId), ∃ (xp0_0_2_2_z : Nat), ∃ (zp0_0_2_2_z : ClassId), ∃ (xp0_0_2_3_z : Nat), ∃ (zp0_0_2_3_z : ClassId), ∃ (xp0_0_2_4_z : Nat), ∃ (zp0_0_2_4_z : ClassId), ∃ (xp0_0_2_5_z : Nat), ∃ (zp0_0_2_5_z : ClassId), POST dC dI (List.flatten ([(oX0 (p0a 0) (st1 (st1 p0a 13 xp0_12_z) 14 xp0_13_z) (st1 (st1 p0k 13 zp0_12_z) 14 zp0_13_z) (o.2.1) (o.1)), (oX2 (p0a 7) p0_6a p0_6k p0_6n p0_6w p0_6l), (oX1 (p0a 1) p0_0a p0_0k p0_0n (o.2.2.1) p0_0l), (oX9 (p0_0a 3) (st1 (st1 (st1 (st1 (st1 p0_0_2a 2 xp0_0_2_1_z) 3 xp0_0_2_2_z) 4 xp0_0_2_3_z) 5 xp0_0_2_4_z) 6 xp0_0_2_5_z) (st1 (st1 (st1 (st1 (st1 p0_0_2k 2 zp0_0_2_1_z) 3 zp0_0_2_2_z) 4 zp0_0_2_3_z) 5 zp0_0_2_4_z) 6 zp0_0_2_5_z) (o.2.2.2.2) (o.2.2.2.1))] : List va_W)) (List.flatten ([(tX0 (st1 (st1 p0k 13 zp0_12_z) 14 zp0_13_z)), (tX2 p0_6k), (tX1 p0_0k), (tX9 (st1 (st1 (st1 (st1 (st1 p0_0_2k 2 zp0_0_2_1_z) 3 zp0_0_2_2_z) 4 zp0_0_2_3_z) 5 zp0_0_2_4_z) 6 zp0_0_2_5_z))] : List (List (ClassId × FieldType)))) (va_A (List.flatten ([(oX0 (p0a 0) p0a p0k p0n p0w), (oX2 (p0a 7) p0_6a p0_6k p0_6n p0_6w p0_6l), (oX1 (p0a 1) p0_0a p0_0k p0_0n p0_0w p0_0l), (oX9 (p0_0a 3) p0_0_2a p0_0_2k p0_0_2n p0_0_2w)] : List va_W)) sz) t) (va_A (List.flatten ([(oX0 (p0a 0) p0a p0k p0n p0w), (oX2 (p0a 7) p0_6a p0_6k p0_6n p0_6w p0_6l), (oX1 (p0a 1) p0_0a p0_0k p0_0n p0_0w p0_0l), (oX9 (p0_0a 3) p0_0_2a p0_0_2k p0_0_2n p0_0_2w)] : List va_W)) sz)) (hcX0 p0n (o.2.1) + hcX9 p0_0_2n (o.2.2.2.2)) (3 * (gcX0 p0n (o.2.1) + gcX9 p0_0_2n (o.2.2.2.2))) (va_A (List.flatten ([(oX0 (p0a 0) p0a p0k p0n p0w), (oX2 (p0a 7) p0_6a p0_6k p0_6n p0_6w p0_6l), (oX1 (p0a 1) p0_0a p0_0k p0_0n p0_0w p0_0l), (oX9 (p0_0a 3) p0_0_2a p0_0_2k p0_0_2n p0_0_2w)] : List va_W)) sz) := by
  refine Met.ofW (cc := cX0_putAway) (maxL := 5) (ret := (Option.none : Option Jvm.ClassFile.FieldType)) (by decide) rfl ?_
  intro p e s m args below meth c s₁ B hml hv
  obtain ⟨rfl, hsz, hP, hK, hD0, hE⟩ := hv
  have hx := B.exec
  have hb := B.bytes
  have hr := B.returns
  have hts0 := atoms_spec (ws := wz yX0_putAway cX0_putAway 5 (Option.none : Option Jvm.ClassFile.FieldType)) B.pre
  have hts : ∀ w ∈ gw, w.before _ s = true := fun w h => hts0 w (List.mem_cons_of_mem _ h)
  have hown : s.vm.findClass RX0 = some m.cls := findClass_of_methodNamed B.named
  have hlocks := B.notSynchronized
  subst hsz
  have hD := hD0.self (sz := s.heap.size)
  refine gQ9 ?_
  intro Q hQ
  generalize hAe : va_A (List.flatten ([(oX0 (p0a 0) p0a p0k p0n p0w), (oX2 (p0a 7) p0_6a p0_6k p0_6n p0_6w p0_6l), (oX1 (p0a 1) p0_0a p0_0k p0_0n p0_0w p0_0l), (oX9 (p0_0a 3) p0_0_2a p0_0_2k p0_0_2n p0_0_2w)] : List va_W)) s.heap.size = A at hD hE hQ
  have hA : ∀ q : Nat, s.heap.size ≤ q → A q := fun q h => by rw [← hAe]; exact Or.inr h
  have hS : va_S A s.heap s.heap [] := va_S.rf
  have hP : va_P (dC, dI) cls (List.flatten ([(oX0 (p0a 0) p0a p0k p0n p0w), (oX2 (p0a 7) p0_6a p0_6k p0_6n p0_6w p0_6l), (oX1 (p0a 1) p0_0a p0_0k p0_0n p0_0w p0_0l), (oX9 (p0_0a 3) p0_0_2a p0_0_2k p0_0_2n p0_0_2w)] : List va_W)) s.heap := hP
  have hl := lv_entry ([.ref (p0a 0)]) (n := 5) (Nat.le_of_ble_eq_true rfl)
  rw [lg_entry_eq]
  generalize (lg_sl ([.ref (p0a 0)]) ++ List.replicate (5 - (lg_sl ([.ref (p0a 0)])).length) Slot.unset).toArray = ls at hl ⊢
  have hl : lv_has ls 5 [(0, .ref (p0a 0))] := hl
  obtain ⟨H, hHe⟩ : ∃ H, H = s.heap := ⟨_, rfl⟩
  obtain ⟨locs, hle⟩ : ∃ locs : List Loc, locs = [] := ⟨_, rfl⟩
  rw [← hHe] at hP
  have hS : va_S A s.heap H locs := by rw [hHe, hle]; exact hS
  show W p l e ({ frames := 6, cells := (hcX0 p0n (o.2.1) + hcX9 p0_0_2n (o.2.2.2.2)), slots := (3 * (gcX0 p0n (o.2.1) + gcX9 p0_0_2n (o.2.2.2.2))), locals := 163 } : Room) s m ([.ref (p0a 0)] : List Value).toArray below meth c s.heap [] 0 0 Q (F0 m 0 ls [])
  rw [← hle]
  refine wH9 hHe ?_
  have hg_p0 := glX0_rf p0n
  have hg_p0_0_2 := glX9_rf p0_0_2n
  have hgn_p0 : glX0 p0n (o.2.1) := ((mo_fX0_putAway hrun).1)
  have hgn_p0_0_2 : glX9 p0_0_2n (o.2.2.2.2) := ((mo_fX0_putAway hrun).2)
  refine W.widen (k := (hcX0 p0n p0n + hcX9 p0_0_2n p0_0_2n)) (n := (3 * (gcX0 p0n p0n + gcX9 p0_0_2n p0_0_2n))) (Nat.zero_le _) (Nat.zero_le _) ?_
  unfold fX0_putAway at hrun
  refine lv_aload_n hx hb dX0_putAway_0 rfl (lv_at hl 0 rfl) ?_
  refine va_get (D := (dC, dI)) (ci := 8) (v := .int (p0w 0 8)) (C := RX0) (T := TX0) (N := 17) hx hb hts i_X0 hown hK hP 0 rfl rfl 8 (by decide) (hts _ qw623) (fun _ h9 => h9) rfl dX0_putAway_1 ?_
  refine lv_istore_n (lv' := [(1, .int (p0w 0 8)), (0, .ref (p0a 0))]) hx hb dX0_putAway_4 rfl hl (by decide) rfl (fun ls hl => ?_)
  refine lv_aload_n hx hb dX0_putAway_5 rfl (lv_at hl 1 rfl) ?_
  refine lv_aload_n hx hb dX0_putAway_6 rfl (lv_at hl 1 rfl) ?_
  refine va_get (D := (dC, dI)) (ci := 8) (v := .ref (p0a 13)) (C := RX0) (T := TX0) (N := 17) hx hb hts i_X0 hown hK hP 0 rfl rfl 12 (by decide) (hts _ qw622) (fun _ h9 => h9) rfl dX0_putAway_7 ?_
  refine lv_iload_n hx hb dX0_putAway_10 rfl (lv_at hl 0 rfl) ?_
  obtain ⟨o_1, hc_1, hrun⟩ := bnd9 hrun
  obtain ⟨n2, en2, hrun⟩ := let9 hrun
  obtain ⟨w3, ew3, hrun⟩ := let9 hrun
  have hst5 : glX0 p0n n2 := by rw [en2]; exact glX0_13 (mo_fX11_atLeast hc_1)
  have hgn_p0 : glX0 n2 (o.2.1) := ((mo_fX0_putAway_G17_6 hrun).1)
  have hgn_p0_0_2 : glX9 p0_0_2n (o.2.2.2.2) := ((mo_fX0_putAway_G17_6 hrun).2)
  have hP2 : va_P (dC, dI) cls (List.flatten ([[((p0a 13), .inl ((p0k 13), (p0n 13), .inl (p0w 13)))], [((p0a 0), .inr (8, [.ref (p0a 1), .ref (p0a 2), .ref (p0a 3), .ref (p0a 4), .ref (p0a 5), .int (p0w 0 5), .ref (p0a 7), .int (p0w 0 7), .int (p0w 0 8), .int (p0w 0 9), .int (p0w 0 10), .int (p0w 0 11), .ref (p0a 13), .ref (p0a 14), .ref (p0a 15), .ref (p0a 16), .ref (p0a 17)])), ((p0a 3), .inl ((p0k 3), 6, .inl (p0w 3))), ((p0a 4), .inl ((p0k 4), 6, .inl (p0w 4))), ((p0a 5), .inl ((p0k 5), 6, .inl (p0w 5))), ((p0a 14), .inl ((p0k 14), (p0n 14), .inl (p0w 14))), ((p0a 15), .inl ((p0k 15), 250, .inl (p0w 15))), ((p0a 16), .inl ((p0k 16), 250, .inl (p0w 16))), ((p0a 17), .inl ((p0k 17), 61, .inl (p0w 17)))], (oX2 (p0a 7) p0_6a p0_6k p0_6n p0_6w p0_6l), (oX1 (p0a 1) p0_0a p0_0k p0_0n p0_0w p0_0l), (oX9 (p0_0a 3) p0_0_2a p0_0_2k p0_0_2n p0_0_2w)] : List va_W)) H := vP_perm hP ((bP (List.Perm.refl _)).trans (List.Perm.append_right _ (List.perm_middle (a := (((p0a 13), .inl ((p0k 13), (p0n 13), .inl (p0w 13))) : Nat × va_E)) (l₁ := ([((p0a 0), .inr (8, [.ref (p0a 1), .ref (p0a 2), .ref (p0a 3), .ref (p0a 4), .ref (p0a 5), .int (p0w 0 5), .ref (p0a 7), .int (p0w 0 7), .int (p0w 0 8), .int (p0w 0 9), .int (p0w 0 10), .int (p0w 0 11), .ref (p0a 13), .ref (p0a 14), .ref (p0a 15), .ref (p0a 16), .ref (p0a 17)])), ((p0a 3), .inl ((p0k 3), 6, .inl (p0w 3))), ((p0a 4), .inl ((p0k 4), 6, .inl (p0w 4))), ((p0a 5), .inl ((p0k 5), 6, .inl (p0w 5)))] : va_W)) (l₂ := ([((p0a 14), .inl ((p0k 14), (p0n 14), .inl (p0w 14))), ((p0a 15), .inl ((p0k 15), 250, .inl (p0w 15))), ((p0a 16), .inl ((p0k 16), 250, .inl (p0w 16))), ((p0a 17), .inl ((p0k 17), 61, .inl (p0w 17)))] : va_W)))))
  have hD2 : va_D A (List.flatten ([[((p0a 13), .inl ((p0k 13), (p0n 13), .inl (p0w 13)))], [((p0a 0), .inr (8, [.ref (p0a 1), .ref (p0a 2), .ref (p0a 3), .ref (p0a 4), .ref (p0a 5), .int (p0w 0 5), .ref (p0a 7), .int (p0w 0 7), .int (p0w 0 8), .int (p0w 0 9), .int (p0w 0 10), .int (p0w 0 11), .ref (p0a 13), .ref (p0a 14), .ref (p0a 15), .ref (p0a 16), .ref (p0a 17)])), ((p0a 3), .inl ((p0k 3), 6, .inl (p0w 3))), ((p0a 4), .inl ((p0k 4), 6, .inl (p0w 4))), ((p0a 5), .inl ((p0k 5), 6, .inl (p0w 5))), ((p0a 14), .inl ((p0k 14), (p0n 14), .inl (p0w 14))), ((p0a 15), .inl ((p0k 15), 250, .inl (p0w 15))), ((p0a 16), .inl ((p0k 16), 250, .inl (p0w 16))), ((p0a 17), .inl ((p0k 17), 61, .inl (p0w 17)))], (oX2 (p0a 7) p0_6a p0_6k p0_6n p0_6w p0_6l), (oX1 (p0a 1) p0_0a p0_0k p0_0n p0_0w p0_0l), (oX9 (p0_0a 3) p0_0_2a p0_0_2k p0_0_2n p0_0_2w)] : List va_W)) := vD_perm hD ((bP (List.Perm.refl _)).trans (List.Perm.append_right _ (List.perm_middle (a := (((p0a 13), .inl ((p0k 13), (p0n 13), .inl (p0w 13))) : Nat × va_E)) (l₁ := ([((p0a 0), .inr (8, [.ref (p0a 1), .ref (p0a 2), .ref (p0a 3), .ref (p0a 4), .ref (p0a 5), .int (p0w 0 5), .ref (p0a 7), .int (p0w 0 7), .int (p0w 0 8), .int (p0w 0 9), .int (p0w 0 10), .int (p0w 0 11), .ref (p0a 13), .ref (p0a 14), .ref (p0a 15), .ref (p0a 16), .ref (p0a 17)])), ((p0a 3), .inl ((p0k 3), 6, .inl (p0w 3))), ((p0a 4), .inl ((p0k 4), 6, .inl (p0w 4))), ((p0a 5), .inl ((p0k 5), 6, .inl (p0w 5)))] : va_W)) (l₂ := ([((p0a 14), .inl ((p0k 14), (p0n 14), .inl (p0w 14))), ((p0a 15), .inl ((p0k 15), 250, .inl (p0w 15))), ((p0a 16), .inl ((p0k 16), 250, .inl (p0w 16))), ((p0a 17), .inl ((p0k 17), 61, .inl (p0w 17)))] : va_W)))))
  have hK2 : va_K (dC, dI) cls (List.flatten ([[((p0k 13), .int)], [((p0k 3), .int), ((p0k 4), .int), ((p0k 5), .int), ((p0k 14), .int), ((p0k 15), .int), ((p0k 16), .int), ((p0k 17), .int)], (tX2 p0_6k), (tX1 p0_0k), (tX9 p0_0_2k)] : List (List (ClassId × FieldType)))) s := vK_perm hK ((bP (List.Perm.refl _)).trans (List.Perm.append_right _ (List.perm_middle (a := (((p0k 13), .int) : ClassId × FieldType)) (l₁ := ([((p0k 3), .int), ((p0k 4), .int), ((p0k 5), .int)] : List (ClassId × FieldType))) (l₂ := ([((p0k 14), .int), ((p0k 15), .int), ((p0k 16), .int), ((p0k 17), .int)] : List (ClassId × FieldType))))))
  have hPx : va_P (dC, dI) cls ((List.flatten ([[((p0a 13), .inl ((p0k 13), (p0n 13), .inl (p0w 13)))]] : List va_W)) ++ (List.flatten ([[((p0a 0), .inr (8, [.ref (p0a 1), .ref (p0a 2), .ref (p0a 3), .ref (p0a 4), .ref (p0a 5), .int (p0w 0 5), .ref (p0a 7), .int (p0w 0 7), .int (p0w 0 8), .int (p0w 0 9), .int (p0w 0 10), .int (p0w 0 11), .ref (p0a 13), .ref (p0a 14), .ref (p0a 15), .ref (p0a 16), .ref (p0a 17)])), ((p0a 3), .inl ((p0k 3), 6, .inl (p0w 3))), ((p0a 4), .inl ((p0k 4), 6, .inl (p0w 4))), ((p0a 5), .inl ((p0k 5), 6, .inl (p0w 5))), ((p0a 14), .inl ((p0k 14), (p0n 14), .inl (p0w 14))), ((p0a 15), .inl ((p0k 15), 250, .inl (p0w 15))), ((p0a 16), .inl ((p0k 16), 250, .inl (p0w 16))), ((p0a 17), .inl ((p0k 17), 61, .inl (p0w 17)))], (oX2 (p0a 7) p0_6a p0_6k p0_6n p0_6w p0_6l), (oX1 (p0a 1) p0_0a p0_0k p0_0n p0_0w p0_0l), (oX9 (p0_0a 3) p0_0_2a p0_0_2k p0_0_2n p0_0_2w)] : List va_W))) H := vP_fa (vP_perm hP2 (bP (List.Perm.refl _)))
  have hDx : va_D A ((List.flatten ([[((p0a 13), .inl ((p0k 13), (p0n 13), .inl (p0w 13)))]] : List va_W)) ++ (List.flatten ([[((p0a 0), .inr (8, [.ref (p0a 1), .ref (p0a 2), .ref (p0a 3), .ref (p0a 4), .ref (p0a 5), .int (p0w 0 5), .ref (p0a 7), .int (p0w 0 7), .int (p0w 0 8), .int (p0w 0 9), .int (p0w 0 10), .int (p0w 0 11), .ref (p0a 13), .ref (p0a 14), .ref (p0a 15), .ref (p0a 16), .ref (p0a 17)])), ((p0a 3), .inl ((p0k 3), 6, .inl (p0w 3))), ((p0a 4), .inl ((p0k 4), 6, .inl (p0w 4))), ((p0a 5), .inl ((p0k 5), 6, .inl (p0w 5))), ((p0a 14), .inl ((p0k 14), (p0n 14), .inl (p0w 14))), ((p0a 15), .inl ((p0k 15), 250, .inl (p0w 15))), ((p0a 16), .inl ((p0k 16), 250, .inl (p0w 16))), ((p0a 17), .inl ((p0k 17), 61, .inl (p0w 17)))], (oX2 (p0a 7) p0_6a p0_6k p0_6n p0_6w p0_6l), (oX1 (p0a 1) p0_0a p0_0k p0_0n p0_0w p0_0l), (oX9 (p0_0a 3) p0_0_2a p0_0_2k p0_0_2n p0_0_2w)] : List va_W))) := vD_fa (vD_perm hD2 (bP (List.Perm.refl _)))
  have hKx : va_K (dC, dI) cls ((List.flatten ([[((p0k 13), .int)]] : List (List (ClassId × FieldType)))) ++ (List.flatten ([[((p0k 3), .int), ((p0k 4), .int), ((p0k 5), .int), ((p0k 14), .int), ((p0k 15), .int), ((p0k 16), .int), ((p0k 17), .int)], (tX2 p0_6k), (tX1 p0_0k), (tX9 p0_0_2k)] : List (List (ClassId × FieldType))))) s := vK_fa (vK_perm hK2 (bP (List.Perm.refl _)))
  have hPc := vP_l hPx
  have hDc := vD_l hDx
  have hKc := vK_l hKx
  have hFc := vfree hDx hS hA
  refine va_callr (va_runSN (As := [.ref (p0a 13), .int (p0w 0 8)]) (rest := [.ref (p0a 0)]) ⟨hx, hb, hml, hown, hts⟩ (kX11_atLeast l dC dI (p0a := (p0a 13)) (p0k := (p0k 13)) (p0n := (p0n 13)) (p0f := (p0w 13)) (p1 := (p0w 0 8)) (sz := _) (o := o_1) (hrun := hc_1)) ⟨(va_cnB 2 hts (gi_z qw128) rfl rfl rfl (hE.nw (List.mem_append_right _ (tbl_9 (i := 100) rfl)) rfl) (hts _ qw129) (by decide +kernel) ⟨Nat.le_of_ble_eq_true rfl, Nat.le_of_ble_eq_true rfl⟩), (hts _ qw130), trivial⟩ ⟨PRE.blind, PRE.of hE hS hFc hPc hKc hDc⟩ rfl rfl hl.1 rfl (lv_room (Nat.le_of_ble_eq_true rfl)) dX0_putAway_11 ⟨(show (hcX0 p0n p0n + hcX9 p0_0_2n p0_0_2n) + (lgP o_1.1 - lgP (p0n 13)) ≤ (hcX0 p0n (o.2.1) + hcX9 p0_0_2n (o.2.2.2.2)) from by have q0 := gsX0 hg_p0 hst5 hgn_p0; have q1 := gmX9 hg_p0_0_2 hgn_p0_0_2; have q5 := gcX0_13 (n := p0n) (mo_fX11_atLeast hc_1); rw [← en2] at q5; omega), (show (3 * (gcX0 p0n p0n + gcX9 p0_0_2n p0_0_2n)) + (3 * (o_1.1 - (p0n 13))) ≤ (3 * (gcX0 p0n (o.2.1) + gcX9 p0_0_2n (o.2.2.2.2))) from by have q0 := gsX0 hg_p0 hst5 hgn_p0; have q1 := gmX9 hg_p0_0_2 hgn_p0_0_2; have q5 := gcX0_13 (n := p0n) (mo_fX11_atLeast hc_1); rw [← en2] at q5; omega)⟩) hS (fun q _ h => hFc q h) hFc (fun u ra5 t H locs ht hvm hw hB hz1 hk1 hS => ?_)
  obtain ⟨z4, hB⟩ := hB
  obtain ⟨b1, b2, b3⟩ := hB
  rw [ht] at b1
  obtain ⟨hP, hD, hK⟩ := JOINC (wc := (List.flatten ([[((p0a 13), .inl ((p0k 13), (p0n 13), .inl (p0w 13)))]] : List va_W))) (wr := (List.flatten ([[((p0a 0), .inr (8, [.ref (p0a 1), .ref (p0a 2), .ref (p0a 3), .ref (p0a 4), .ref (p0a 5), .int (p0w 0 5), .ref (p0a 7), .int (p0w 0 7), .int (p0w 0 8), .int (p0w 0 9), .int (p0w 0 10), .int (p0w 0 11), .ref (p0a 13), .ref (p0a 14), .ref (p0a 15), .ref (p0a 16), .ref (p0a 17)])), ((p0a 3), .inl ((p0k 3), 6, .inl (p0w 3))), ((p0a 4), .inl ((p0k 4), 6, .inl (p0w 4))), ((p0a 5), .inl ((p0k 5), 6, .inl (p0w 5))), ((p0a 14), .inl ((p0k 14), (p0n 14), .inl (p0w 14))), ((p0a 15), .inl ((p0k 15), 250, .inl (p0w 15))), ((p0a 16), .inl ((p0k 16), 250, .inl (p0w 16))), ((p0a 17), .inl ((p0k 17), 61, .inl (p0w 17)))], (oX2 (p0a 7) p0_6a p0_6k p0_6n p0_6w p0_6l), (oX1 (p0a 1) p0_0a p0_0k p0_0n p0_0w p0_0l), (oX9 (p0_0a 3) p0_0_2a p0_0_2k p0_0_2n p0_0_2w)] : List va_W))) (w1 := [(ra5, .inl (z4, o_1.1, .inl o_1.2))]) (t1 := [(z4, .int)]) hPx hDx hKx hk1 hFc b1 (va_K.moved hvm.symm b2) b3
  refine va_put (D := (dC, dI)) (ci := 8) (v := .ref ra5) (ty := .array .int) (C := RX0) (T := TX0) (N := 17) hx hb hts i_X0 tyX0 tyX0_ok nmX0 hown hK hP hD hS 1 rfl rfl 12 (by decide) (hts _ qw622) (fun _ h9 => h9) rfl (by decide +kernel) rfl rfl (Nat.le_of_ble_eq_true rfl) dX0_putAway_14 (fun H locs hP hD hS => ?_)
  have hP : va_P (dC, dI) cls (List.flatten ([[(ra5, .inl (z4, (n2 13), .inl (w3 13)))], [((p0a 0), .inr (8, [.ref (p0a 1), .ref (p0a 2), .ref (p0a 3), .ref (p0a 4), .ref (p0a 5), .int (w3 0 5), .ref (p0a 7), .int (w3 0 7), .int (w3 0 8), .int (w3 0 9), .int (w3 0 10), .int (w3 0 11), .ref ra5, .ref (p0a 14), .ref (p0a 15), .ref (p0a 16), .ref (p0a 17)])), ((p0a 3), .inl ((p0k 3), 6, .inl (w3 3))), ((p0a 4), .inl ((p0k 4), 6, .inl (w3 4))), ((p0a 5), .inl ((p0k 5), 6, .inl (w3 5))), ((p0a 14), .inl ((p0k 14), (n2 14), .inl (w3 14))), ((p0a 15), .inl ((p0k 15), 250, .inl (w3 15))), ((p0a 16), .inl ((p0k 16), 250, .inl (w3 16))), ((p0a 17), .inl ((p0k 17), 61, .inl (w3 17)))], (oX2 (p0a 7) p0_6a p0_6k p0_6n p0_6w p0_6l), (oX1 (p0a 1) p0_0a p0_0k p0_0n p0_0w p0_0l), (oX9 (p0_0a 3) p0_0_2a p0_0_2k p0_0_2n p0_0_2w)] : List va_W)) H := by rw [en2, ew3]; exact hP
  have hD : va_D A (List.flatten ([[(ra5, .inl (z4, (n2 13), .inl (w3 13)))], [((p0a 0), .inr (8, [.ref (p0a 1), .ref (p0a 2), .ref (p0a 3), .ref (p0a 4), .ref (p0a 5), .int (w3 0 5), .ref (p0a 7), .int (w3 0 7), .int (w3 0 8), .int (w3 0 9), .int (w3 0 10), .int (w3 0 11), .ref ra5, .ref (p0a 14), .ref (p0a 15), .ref (p0a 16), .ref (p0a 17)])), ((p0a 3), .inl ((p0k 3), 6, .inl (w3 3))), ((p0a 4), .inl ((p0k 4), 6, .inl (w3 4))), ((p0a 5), .inl ((p0k 5), 6, .inl (w3 5))), ((p0a 14), .inl ((p0k 14), (n2 14), .inl (w3 14))), ((p0a 15), .inl ((p0k 15), 250, .inl (w3 15))), ((p0a 16), .inl ((p0k 16), 250, .inl (w3 16))), ((p0a 17), .inl ((p0k 17), 61, .inl (w3 17)))], (oX2 (p0a 7) p0_6a p0_6k p0_6n p0_6w p0_6l), (oX1 (p0a 1) p0_0a p0_0k p0_0n p0_0w p0_0l), (oX9 (p0_0a 3) p0_0_2a p0_0_2k p0_0_2n p0_0_2w)] : List va_W)) := by rw [en2, ew3]; exact hD
  have hK : va_K (dC, dI) cls (List.flatten ([[(z4, .int)], [((p0k 3), .int), ((p0k 4), .int), ((p0k 5), .int), ((p0k 14), .int), ((p0k 15), .int), ((p0k 16), .int), ((p0k 17), .int)], (tX2 p0_6k), (tX1 p0_0k), (tX9 p0_0_2k)] : List (List (ClassId × FieldType)))) s := hK
  have hP3 : va_P (dC, dI) cls (List.flatten ([(oX0 (p0a 0) (st1 p0a 13 ra5) (st1 p0k 13 z4) n2 w3), (oX2 (p0a 7) p0_6a p0_6k p0_6n p0_6w p0_6l), (oX1 (p0a 1) p0_0a p0_0k p0_0n p0_0w p0_0l), (oX9 (p0_0a 3) p0_0_2a p0_0_2k p0_0_2n p0_0_2w)] : List va_W)) H := vP_perm hP ((bP (List.Perm.refl _)).trans (List.Perm.append_right _ (List.perm_middle (a := ((ra5, .inl (z4, (n2 13), .inl (w3 13))) : Nat × va_E)) (l₁ := ([((p0a 0), .inr (8, [.ref (p0a 1), .ref (p0a 2), .ref (p0a 3), .ref (p0a 4), .ref (p0a 5), .int (w3 0 5), .ref (p0a 7), .int (w3 0 7), .int (w3 0 8), .int (w3 0 9), .int (w3 0 10), .int (w3 0 11), .ref ra5, .ref (p0a 14), .ref (p0a 15), .ref (p0a 16), .ref (p0a 17)])), ((p0a 3), .inl ((p0k 3), 6, .inl (w3 3))), ((p0a 4), .inl ((p0k 4), 6, .inl (w3 4))), ((p0a 5), .inl ((p0k 5), 6, .inl (w3 5)))] : va_W)) (l₂ := ([((p0a 14), .inl ((p0k 14), (n2 14), .inl (w3 14))), ((p0a 15), .inl ((p0k 15), 250, .inl (w3 15))), ((p0a 16), .inl ((p0k 16), 250, .inl (w3 16))), ((p0a 17), .inl ((p0k 17), 61, .inl (w3 17)))] : va_W))).symm))
  have hD3 : va_D A (List.flatten ([(oX0 (p0a 0) (st1 p0a 13 ra5) (st1 p0k 13 z4) n2 w3), (oX2 (p0a 7) p0_6a p0_6k p0_6n p0_6w p0_6l), (oX1 (p0a 1) p0_0a p0_0k p0_0n p0_0w p0_0l), (oX9 (p0_0a 3) p0_0_2a p0_0_2k p0_0_2n p0_0_2w)] : List va_W)) := vD_perm hD ((bP (List.Perm.refl _)).trans (List.Perm.append_right _ (List.perm_middle (a := ((ra5, .inl (z4, (n2 13), .inl (w3 13))) : Nat × va_E)) (l₁ := ([((p0a 0), .inr (8, [.ref (p0a 1), .ref (p0a 2), .ref (p0a 3), .ref (p0a 4), .ref (p0a 5), .int (w3 0 5), .ref (p0a 7), .int (w3 0 7), .int (w3 0 8), .int (w3 0 9), .int (w3 0 10), .int (w3 0 11), .ref ra5, .ref (p0a 14), .ref (p0a 15), .ref (p0a 16), .ref (p0a 17)])), ((p0a 3), .inl ((p0k 3), 6, .inl (w3 3))), ((p0a 4), .inl ((p0k 4), 6, .inl (w3 4))), ((p0a 5), .inl ((p0k 5), 6, .inl (w3 5)))] : va_W)) (l₂ := ([((p0a 14), .inl ((p0k 14), (n2 14), .inl (w3 14))), ((p0a 15), .inl ((p0k 15), 250, .inl (w3 15))), ((p0a 16), .inl ((p0k 16), 250, .inl (w3 16))), ((p0a 17), .inl ((p0k 17), 61, .inl (w3 17)))] : va_W))).symm))
  have hK3 : va_K (dC, dI) cls (List.flatten ([(tX0 (st1 p0k 13 z4)), (tX2 p0_6k), (tX1 p0_0k), (tX9 p0_0_2k)] : List (List (ClassId × FieldType)))) s := vK_perm hK ((bP (List.Perm.refl _)).trans (List.Perm.append_right _ (List.perm_middle (a := ((z4, .int) : ClassId × FieldType)) (l₁ := ([((p0k 3), .int), ((p0k 4), .int), ((p0k 5), .int)] : List (ClassId × FieldType))) (l₂ := ([((p0k 14), .int), ((p0k 15), .int), ((p0k 16), .int), ((p0k 17), .int)] : List (ClassId × FieldType)))).symm))
  have hP : va_P (dC, dI) cls (List.flatten ([(oX0 (p0a 0) (st1 p0a 13 ra5) (st1 p0k 13 z4) n2 w3), (oX2 (p0a 7) p0_6a p0_6k p0_6n p0_6w p0_6l), (oX1 (p0a 1) p0_0a p0_0k p0_0n p0_0w p0_0l), (oX9 (p0_0a 3) p0_0_2a p0_0_2k p0_0_2n p0_0_2w)] : List va_W)) H := vP_perm hP3 (bP (List.Perm.refl _))
  have hD : va_D A (List.flatten ([(oX0 (p0a 0) (st1 p0a 13 ra5) (st1 p0k 13 z4) n2 w3), (oX2 (p0a 7) p0_6a p0_6k p0_6n p0_6w p0_6l), (oX1 (p0a 1) p0_0a p0_0k p0_0n p0_0w p0_0l), (oX9 (p0_0a 3) p0_0_2a p0_0_2k p0_0_2n p0_0_2w)] : List va_W)) := vD_perm hD3 (bP (List.Perm.refl _))
  have hK : va_K (dC, dI) cls (List.flatten ([(tX0 (st1 p0k 13 z4)), (tX2 p0_6k), (tX1 p0_0k), (tX9 p0_0_2k)] : List (List (ClassId × FieldType)))) s := vK_perm hK3 (bP (List.Perm.refl _))
  refine W.widen (k := (hcX0 p0n n2 + hcX9 p0_0_2n p0_0_2n)) (n := (3 * (gcX0 p0n n2 + gcX9 p0_0_2n p0_0_2n))) (by have a0 := gcX0_add hg_p0 hst5; have q5 := gcX0_13 (n := p0n) (mo_fX11_atLeast hc_1); rw [← en2] at q5; omega) (by have a0 := gcX0_add hg_p0 hst5; have q5 := gcX0_13 (n := p0n) (mo_fX11_atLeast hc_1); rw [← en2] at q5; omega) ?_
  have hg_p0 : glX0 p0n n2 := glX0_tr hg_p0 hst5
  unfold fX0_putAway_G17_6 at hrun
  refine lv_aload_n hx hb dX0_putAway_17 rfl (lv_at hl 1 rfl) ?_
  refine lv_aload_n hx hb dX0_putAway_18 rfl (lv_at hl 1 rfl) ?_
  refine va_get (D := (dC, dI)) (ci := 8) (v := .ref (p0a 14)) (C := RX0) (T := TX0) (N := 17) hx hb hts i_X0 hown hK hP 0 rfl rfl 13 (by decide) (hts _ qw624) (fun _ h9 => h9) rfl dX0_putAway_19 ?_
  refine lv_iload_n hx hb dX0_putAway_22 rfl (lv_at hl 0 rfl) ?_
  obtain ⟨o_7, hc_7, hrun⟩ := bnd9 hrun
  obtain ⟨n8, en8, hrun⟩ := let9 hrun
  obtain ⟨w9, ew9, hrun⟩ := let9 hrun
  have hst11 : glX0 n2 n8 := by rw [en8]; exact glX0_14 (mo_fX11_atLeast hc_7)
  have hgn_p0 : glX0 n8 (o.2.1) := ((mo_fX0_putAway_G29_12 hrun).1)
  have hgn_p0_0_2 : glX9 p0_0_2n (o.2.2.2.2) := ((mo_fX0_putAway_G29_12 hrun).2)
  have hP2 : va_P (dC, dI) cls (List.flatten ([[((p0a 14), .inl ((p0k 14), (n2 14), .inl (w3 14)))], [((p0a 0), .inr (8, [.ref (p0a 1), .ref (p0a 2), .ref (p0a 3), .ref (p0a 4), .ref (p0a 5), .int (w3 0 5), .ref (p0a 7), .int (w3 0 7), .int (w3 0 8), .int (w3 0 9), .int (w3 0 10), .int (w3 0 11), .ref ra5, .ref (p0a 14), .ref (p0a 15), .ref (p0a 16), .ref (p0a 17)])), ((p0a 3), .inl ((p0k 3), 6, .inl (w3 3))), ((p0a 4), .inl ((p0k 4), 6, .inl (w3 4))), ((p0a 5), .inl ((p0k 5), 6, .inl (w3 5))), (ra5, .inl (z4, (n2 13), .inl (w3 13))), ((p0a 15), .inl ((p0k 15), 250, .inl (w3 15))), ((p0a 16), .inl ((p0k 16), 250, .inl (w3 16))), ((p0a 17), .inl ((p0k 17), 61, .inl (w3 17)))], (oX2 (p0a 7) p0_6a p0_6k p0_6n p0_6w p0_6l), (oX1 (p0a 1) p0_0a p0_0k p0_0n p0_0w p0_0l), (oX9 (p0_0a 3) p0_0_2a p0_0_2k p0_0_2n p0_0_2w)] : List va_W)) H := vP_perm hP ((bP (List.Perm.refl _)).trans (List.Perm.append_right _ (List.perm_middle (a := (((p0a 14), .inl ((p0k 14), (n2 14), .inl (w3 14))) : Nat × va_E)) (l₁ := ([((p0a 0), .inr (8, [.ref (p0a 1), .ref (p0a 2), .ref (p0a 3), .ref (p0a 4), .ref (p0a 5), .int (w3 0 5), .ref (p0a 7), .int (w3 0 7), .int (w3 0 8), .int (w3 0 9), .int (w3 0 10), .int (w3 0 11), .ref ra5, .ref (p0a 14), .ref (p0a 15), .ref (p0a 16), .ref (p0a 17)])), ((p0a 3), .inl ((p0k 3), 6, .inl (w3 3))), ((p0a 4), .inl ((p0k 4), 6, .inl (w3 4))), ((p0a 5), .inl ((p0k 5), 6, .inl (w3 5))), (ra5, .inl (z4, (n2 13), .inl (w3 13)))] : va_W)) (l₂ := ([((p0a 15), .inl ((p0k 15), 250, .inl (w3 15))), ((p0a 16), .inl ((p0k 16), 250, .inl (w3 16))), ((p0a 17), .inl ((p0k 17), 61, .inl (w3 17)))] : va_W)))))
  have hD2 : va_D A (List.flatten ([[((p0a 14), .inl ((p0k 14), (n2 14), .inl (w3 14)))], [((p0a 0), .inr (8, [.ref (p0a 1), .ref (p0a 2), .ref (p0a 3), .ref (p0a 4), .ref (p0a 5), .int (w3 0 5), .ref (p0a 7), .int (w3 0 7), .int (w3 0 8), .int (w3 0 9), .int (w3 0 10), .int (w3 0 11), .ref ra5, .ref (p0a 14), .ref (p0a 15), .ref (p0a 16), .ref (p0a 17)])), ((p0a 3), .inl ((p0k 3), 6, .inl (w3 3))), ((p0a 4), .inl ((p0k 4), 6, .inl (w3 4))), ((p0a 5), .inl ((p0k 5), 6, .inl (w3 5))), (ra5, .inl (z4, (n2 13), .inl (w3 13))), ((p0a 15), .inl ((p0k 15), 250, .inl (w3 15))), ((p0a 16), .inl ((p0k 16), 250, .inl (w3 16))), ((p0a 17), .inl ((p0k 17), 61, .inl (w3 17)))], (oX2 (p0a 7) p0_6a p0_6k p0_6n p0_6w p0_6l), (oX1 (p0a 1) p0_0a p0_0k p0_0n p0_0w p0_0l), (oX9 (p0_0a 3) p0_0_2a p0_0_2k p0_0_2n p0_0_2w)] : List va_W)) := vD_perm hD ((bP (List.Perm.refl _)).trans (List.Perm.append_right _ (List.perm_middle (a := (((p0a 14), .inl ((p0k 14), (n2 14), .inl (w3 14))) : Nat × va_E)) (l₁ := ([((p0a 0), .inr (8, [.ref (p0a 1), .ref (p0a 2), .ref (p0a 3), .ref (p0a 4), .ref (p0a 5), .int (w3 0 5), .ref (p0a 7), .int (w3 0 7), .int (w3 0 8), .int (w3 0 9), .int (w3 0 10), .int (w3 0 11), .ref ra5, .ref (p0a 14), .ref (p0a 15), .ref (p0a 16), .ref (p0a 17)])), ((p0a 3), .inl ((p0k 3), 6, .inl (w3 3))), ((p0a 4), .inl ((p0k 4), 6, .inl (w3 4))), ((p0a 5), .inl ((p0k 5), 6, .inl (w3 5))), (ra5, .inl (z4, (n2 13), .inl (w3 13)))] : va_W)) (l₂ := ([((p0a 15), .inl ((p0k 15), 250, .inl (w3 15))), ((p0a 16), .inl ((p0k 16), 250, .inl (w3 16))), ((p0a 17), .inl ((p0k 17), 61, .inl (w3 17)))] : va_W)))))
  have hK2 : va_K (dC, dI) cls (List.flatten ([[((p0k 14), .int)], [((p0k 3), .int), ((p0k 4), .int), ((p0k 5), .int), (z4, .int), ((p0k 15), .int), ((p0k 16), .int), ((p0k 17), .int)], (tX2 p0_6k), (tX1 p0_0k), (tX9 p0_0_2k)] : List (List (ClassId × FieldType)))) s := vK_perm hK ((bP (List.Perm.refl _)).trans (List.Perm.append_right _ (List.perm_middle (a := (((p0k 14), .int) : ClassId × FieldType)) (l₁ := ([((p0k 3), .int), ((p0k 4), .int), ((p0k 5), .int), (z4, .int)] : List (ClassId × FieldType))) (l₂ := ([((p0k 15), .int), ((p0k 16), .int), ((p0k 17), .int)] : List (ClassId × FieldType))))))
  have hPx : va_P (dC, dI) cls ((List.flatten ([[((p0a 14), .inl ((p0k 14), (n2 14), .inl (w3 14)))]] : List va_W)) ++ (List.flatten ([[((p0a 0), .inr (8, [.ref (p0a 1), .ref (p0a 2), .ref (p0a 3), .ref (p0a 4), .ref (p0a 5), .int (w3 0 5), .ref (p0a 7), .int (w3 0 7), .int (w3 0 8), .int (w3 0 9), .int (w3 0 10), .int (w3 0 11), .ref ra5, .ref (p0a 14), .ref (p0a 15), .ref (p0a 16), .ref (p0a 17)])), ((p0a 3), .inl ((p0k 3), 6, .inl (w3 3))), ((p0a 4), .inl ((p0k 4), 6, .inl (w3 4))), ((p0a 5), .inl ((p0k 5), 6, .inl (w3 5))), (ra5, .inl (z4, (n2 13), .inl (w3 13))), ((p0a 15), .inl ((p0k 15), 250, .inl (w3 15))), ((p0a 16), .inl ((p0k 16), 250, .inl (w3 16))), ((p0a 17), .inl ((p0k 17), 61, .inl (w3 17)))], (oX2 (p0a 7) p0_6a p0_6k p0_6n p0_6w p0_6l), (oX1 (p0a 1) p0_0a p0_0k p0_0n p0_0w p0_0l), (oX9 (p0_0a 3) p0_0_2a p0_0_2k p0_0_2n p0_0_2w)] : List va_W))) H := vP_fa (vP_perm hP2 (bP (List.Perm.refl _)))
  have hDx : va_D A ((List.flatten ([[((p0a 14), .inl ((p0k 14), (n2 14), .inl (w3 14)))]] : List va_W)) ++ (List.flatten ([[((p0a 0), .inr (8, [.ref (p0a 1), .ref (p0a 2), .ref (p0a 3), .ref (p0a 4), .ref (p0a 5), .int (w3 0 5), .ref (p0a 7), .int (w3 0 7), .int (w3 0 8), .int (w3 0 9), .int (w3 0 10), .int (w3 0 11), .ref ra5, .ref (p0a 14), .ref (p0a 15), .ref (p0a 16), .ref (p0a 17)])), ((p0a 3), .inl ((p0k 3), 6, .inl (w3 3))), ((p0a 4), .inl ((p0k 4), 6, .inl (w3 4))), ((p0a 5), .inl ((p0k 5), 6, .inl (w3 5))), (ra5, .inl (z4, (n2 13), .inl (w3 13))), ((p0a 15), .inl ((p0k 15), 250, .inl (w3 15))), ((p0a 16), .inl ((p0k 16), 250, .inl (w3 16))), ((p0a 17), .inl ((p0k 17), 61, .inl (w3 17)))], (oX2 (p0a 7) p0_6a p0_6k p0_6n p0_6w p0_6l), (oX1 (p0a 1) p0_0a p0_0k p0_0n p0_0w p0_0l), (oX9 (p0_0a 3) p0_0_2a p0_0_2k p0_0_2n p0_0_2w)] : List va_W))) := vD_fa (vD_perm hD2 (bP (List.Perm.refl _)))
  have hKx : va_K (dC, dI) cls ((List.flatten ([[((p0k 14), .int)]] : List (List (ClassId × FieldType)))) ++ (List.flatten ([[((p0k 3), .int), ((p0k 4), .int), ((p0k 5), .int), (z4, .int), ((p0k 15), .int), ((p0k 16), .int), ((p0k 17), .int)], (tX2 p0_6k), (tX1 p0_0k), (tX9 p0_0_2k)] : List (List (ClassId × FieldType))))) s := vK_fa (vK_perm hK2 (bP (List.Perm.refl _)))
  have hPc := vP_l hPx
  have hDc := vD_l hDx
  have hKc := vK_l hKx
  have hFc := vfree hDx hS hA
  refine va_callr (va_runSN (As := [.ref (p0a 14), .int (p0w 0 8)]) (rest := [.ref (p0a 0)]) ⟨hx, hb, hml, hown, hts⟩ (kX11_atLeast l dC dI (p0a := (p0a 14)) (p0k := (p0k 14)) (p0n := (n2 14)) (p0f := (w3 14)) (p1 := (p0w 0 8)) (sz := _) (o := o_7) (hrun := hc_7)) ⟨(va_cnB 2 hts (gi_z qw128) rfl rfl rfl (hE.nw (List.mem_append_right _ (tbl_9 (i := 100) rfl)) rfl) (hts _ qw129) (by decide +kernel) ⟨Nat.le_of_ble_eq_true rfl, Nat.le_of_ble_eq_true rfl⟩), (hts _ qw130), trivial⟩ ⟨PRE.blind, PRE.of hE hS hFc hPc hKc hDc⟩ rfl rfl hl.1 rfl (lv_room (Nat.le_of_ble_eq_true rfl)) dX0_putAway_23 ⟨(show (hcX0 p0n n2 + hcX9 p0_0_2n p0_0_2n) + (lgP o_7.1 - lgP (n2 14)) ≤ (hcX0 p0n (o.2.1) + hcX9 p0_0_2n (o.2.2.2.2)) from by have q0 := gsX0 hg_p0 hst11 hgn_p0; have q1 := gmX9 hg_p0_0_2 hgn_p0_0_2; have q5 := gcX0_14 (n := n2) (mo_fX11_atLeast hc_7); rw [← en8] at q5; omega), (show (3 * (gcX0 p0n n2 + gcX9 p0_0_2n p0_0_2n)) + (3 * (o_7.1 - (n2 14))) ≤ (3 * (gcX0 p0n (o.2.1) + gcX9 p0_0_2n (o.2.2.2.2))) from by have q0 := gsX0 hg_p0 hst11 hgn_p0; have q1 := gmX9 hg_p0_0_2 hgn_p0_0_2; have q5 := gcX0_14 (n := n2) (mo_fX11_atLeast hc_7); rw [← en8] at q5; omega)⟩) hS (fun q _ h => hFc q h) hFc (fun u ra11 t H locs ht hvm hw hB hz1 hk1 hS => ?_)
  obtain ⟨z10, hB⟩ := hB
  obtain ⟨b1, b2, b3⟩ := hB
  rw [ht] at b1
  obtain ⟨hP, hD, hK⟩ := JOINC (wc := (List.flatten ([[((p0a 14), .inl ((p0k 14), (n2 14), .inl (w3 14)))]] : List va_W))) (wr := (List.flatten ([[((p0a 0), .inr (8, [.ref (p0a 1), .ref (p0a 2), .ref (p0a 3), .ref (p0a 4), .ref (p0a 5), .int (w3 0 5), .ref (p0a 7), .int (w3 0 7), .int (w3 0 8), .int (w3 0 9), .int (w3 0 10), .int (w3 0 11), .ref ra5, .ref (p0a 14), .ref (p0a 15), .ref (p0a 16), .ref (p0a 17)])), ((p0a 3), .inl ((p0k 3), 6, .inl (w3 3))), ((p0a 4), .inl ((p0k 4), 6, .inl (w3 4))), ((p0a 5), .inl ((p0k 5), 6, .inl (w3 5))), (ra5, .inl (z4, (n2 13), .inl (w3 13))), ((p0a 15), .inl ((p0k 15), 250, .inl (w3 15))), ((p0a 16), .inl ((p0k 16), 250, .inl (w3 16))), ((p0a 17), .inl ((p0k 17), 61, .inl (w3 17)))], (oX2 (p0a 7) p0_6a p0_6k p0_6n p0_6w p0_6l), (oX1 (p0a 1) p0_0a p0_0k p0_0n p0_0w p0_0l), (oX9 (p0_0a 3) p0_0_2a p0_0_2k p0_0_2n p0_0_2w)] : List va_W))) (w1 := [(ra11, .inl (z10, o_7.1, .inl o_7.2))]) (t1 := [(z10, .int)]) hPx hDx hKx hk1 hFc b1 (va_K.moved hvm.symm b2) b3
  refine va_put (D := (dC, dI)) (ci := 8) (v := .ref ra11) (ty := .array .int) (C := RX0) (T := TX0) (N := 17) hx hb hts i_X0 tyX0 tyX0_ok nmX0 hown hK hP hD hS 1 rfl rfl 13 (by decide) (hts _ qw624) (fun _ h9 => h9) rfl (by decide +kernel) rfl rfl (Nat.le_of_ble_eq_true rfl) dX0_putAway_26 (fun H locs hP hD hS => ?_)
  have hP : va_P (dC, dI) cls (List.flatten ([[(ra11, .inl (z10, (n8 14), .inl (w9 14)))], [((p0a 0), .inr (8, [.ref (p0a 1), .ref (p0a 2), .ref (p0a 3), .ref (p0a 4), .ref (p0a 5), .int (w9 0 5), .ref (p0a 7), .int (w9 0 7), .int (w9 0 8), .int (w9 0 9), .int (w9 0 10), .int (w9 0 11), .ref ra5, .ref ra11, .ref (p0a 15), .ref (p0a 16), .ref (p0a 17)])), ((p0a 3), .inl ((p0k 3), 6, .inl (w9 3))), ((p0a 4), .inl ((p0k 4), 6, .inl (w9 4))), ((p0a 5), .inl ((p0k 5), 6, .inl (w9 5))), (ra5, .inl (z4, (n8 13), .inl (w9 13))), ((p0a 15), .inl ((p0k 15), 250, .inl (w9 15))), ((p0a 16), .inl ((p0k 16), 250, .inl (w9 16))), ((p0a 17), .inl ((p0k 17), 61, .inl (w9 17)))], (oX2 (p0a 7) p0_6a p0_6k p0_6n p0_6w p0_6l), (oX1 (p0a 1) p0_0a p0_0k p0_0n p0_0w p0_0l), (oX9 (p0_0a 3) p0_0_2a p0_0_2k p0_0_2n p0_0_2w)] : List va_W)) H := by rw [en8, ew9]; exact hP
  have hD : va_D A (List.flatten ([[(ra11, .inl (z10, (n8 14), .inl (w9 14)))], [((p0a 0), .inr (8, [.ref (p0a 1), .ref (p0a 2), .ref (p0a 3), .ref (p0a 4), .ref (p0a 5), .int (w9 0 5), .ref (p0a 7), .int (w9 0 7), .int (w9 0 8), .int (w9 0 9), .int (w9 0 10), .int (w9 0 11), .ref ra5, .ref ra11, .ref (p0a 15), .ref (p0a 16), .ref (p0a 17)])), ((p0a 3), .inl ((p0k 3), 6, .inl (w9 3))), ((p0a 4), .inl ((p0k 4), 6, .inl (w9 4))), ((p0a 5), .inl ((p0k 5), 6, .inl (w9 5))), (ra5, .inl (z4, (n8 13), .inl (w9 13))), ((p0a 15), .inl ((p0k 15), 250, .inl (w9 15))), ((p0a 16), .inl ((p0k 16), 250, .inl (w9 16))), ((p0a 17), .inl ((p0k 17), 61, .inl (w9 17)))], (oX2 (p0a 7) p0_6a p0_6k p0_6n p0_6w p0_6l), (oX1 (p0a 1) p0_0a p0_0k p0_0n p0_0w p0_0l), (oX9 (p0_0a 3) p0_0_2a p0_0_2k p0_0_2n p0_0_2w)] : List va_W)) := by rw [en8, ew9]; exact hD
  have hK : va_K (dC, dI) cls (List.flatten ([[(z10, .int)], [((p0k 3), .int), ((p0k 4), .int), ((p0k 5), .int), (z4, .int), ((p0k 15), .int), ((p0k 16), .int), ((p0k 17), .int)], (tX2 p0_6k), (tX1 p0_0k), (tX9 p0_0_2k)] : List (List (ClassId × FieldType)))) s := hK
  have hP3 : va_P (dC, dI) cls (List.flatten ([(oX0 (p0a 0) (st1 (st1 p0a 13 ra5) 14 ra11) (st1 (st1 p0k 13 z4) 14 z10) n8 w9), (oX2 (p0a 7) p0_6a p0_6k p0_6n p0_6w p0_6l), (oX1 (p0a 1) p0_0a p0_0k p0_0n p0_0w p0_0l), (oX9 (p0_0a 3) p0_0_2a p0_0_2k p0_0_2n p0_0_2w)] : List va_W)) H := vP_perm hP ((bP (List.Perm.refl _)).trans (List.Perm.append_right _ (List.perm_middle (a := ((ra11, .inl (z10, (n8 14), .inl (w9 14))) : Nat × va_E)) (l₁ := ([((p0a 0), .inr (8, [.ref (p0a 1), .ref (p0a 2), .ref (p0a 3), .ref (p0a 4), .ref (p0a 5), .int (w9 0 5), .ref (p0a 7), .int (w9 0 7), .int (w9 0 8), .int (w9 0 9), .int (w9 0 10), .int (w9 0 11), .ref ra5, .ref ra11, .ref (p0a 15), .ref (p0a 16), .ref (p0a 17)])), ((p0a 3), .inl ((p0k 3), 6, .inl (w9 3))), ((p0a 4), .inl ((p0k 4), 6, .inl (w9 4))), ((p0a 5), .inl ((p0k 5), 6, .inl (w9 5))), (ra5, .inl (z4, (n8 13), .inl (w9 13)))] : va_W)) (l₂ := ([((p0a 15), .inl ((p0k 15), 250, .inl (w9 15))), ((p0a 16), .inl ((p0k 16), 250, .inl (w9 16))), ((p0a 17), .inl ((p0k 17), 61, .inl (w9 17)))] : va_W))).symm))
  have hD3 : va_D A (List.flatten ([(oX0 (p0a 0) (st1 (st1 p0a 13 ra5) 14 ra11) (st1 (st1 p0k 13 z4) 14 z10) n8 w9), (oX2 (p0a 7) p0_6a p0_6k p0_6n p0_6w p0_6l), (oX1 (p0a 1) p0_0a p0_0k p0_0n p0_0w p0_0l), (oX9 (p0_0a 3) p0_0_2a p0_0_2k p0_0_2n p0_0_2w)] : List va_W)) := vD_perm hD ((bP (List.Perm.refl _)).trans (List.Perm.append_right _ (List.perm_middle (a := ((ra11, .inl (z10, (n8 14), .inl (w9 14))) : Nat × va_E)) (l₁ := ([((p0a 0), .inr (8, [.ref (p0a 1), .ref (p0a 2), .ref (p0a 3), .ref (p0a 4), .ref (p0a 5), .int (w9 0 5), .ref (p0a 7), .int (w9 0 7), .int (w9 0 8), .int (w9 0 9), .int (w9 0 10), .int (w9 0 11), .ref ra5, .ref ra11, .ref (p0a 15), .ref (p0a 16), .ref (p0a 17)])), ((p0a 3), .inl ((p0k 3), 6, .inl (w9 3))), ((p0a 4), .inl ((p0k 4), 6, .inl (w9 4))), ((p0a 5), .inl ((p0k 5), 6, .inl (w9 5))), (ra5, .inl (z4, (n8 13), .inl (w9 13)))] : va_W)) (l₂ := ([((p0a 15), .inl ((p0k 15), 250, .inl (w9 15))), ((p0a 16), .inl ((p0k 16), 250, .inl (w9 16))), ((p0a 17), .inl ((p0k 17), 61, .inl (w9 17)))] : va_W))).symm))
  have hK3 : va_K (dC, dI) cls (List.flatten ([(tX0 (st1 (st1 p0k 13 z4) 14 z10)), (tX2 p0_6k), (tX1 p0_0k), (tX9 p0_0_2k)] : List (List (ClassId × FieldType)))) s := vK_perm hK ((bP (List.Perm.refl _)).trans (List.Perm.append_right _ (List.perm_middle (a := ((z10, .int) : ClassId × FieldType)) (l₁ := ([((p0k 3), .int), ((p0k 4), .int), ((p0k 5), .int), (z4, .int)] : List (ClassId × FieldType))) (l₂ := ([((p0k 15), .int), ((p0k 16), .int), ((p0k 17), .int)] : List (ClassId × FieldType)))).symm))
  have hP : va_P (dC, dI) cls (List.flatten ([(oX0 (p0a 0) (st1 (st1 p0a 13 ra5) 14 ra11) (st1 (st1 p0k 13 z4) 14 z10) n8 w9), (oX2 (p0a 7) p0_6a p0_6k p0_6n p0_6w p0_6l), (oX1 (p0a 1) p0_0a p0_0k p0_0n p0_0w p0_0l), (oX9 (p0_0a 3) p0_0_2a p0_0_2k p0_0_2n p0_0_2w)] : List va_W)) H := vP_perm hP3 (bP (List.Perm.refl _))
  have hD : va_D A (List.flatten ([(oX0 (p0a 0) (st1 (st1 p0a 13 ra5) 14 ra11) (st1 (st1 p0k 13 z4) 14 z10) n8 w9), (oX2 (p0a 7) p0_6a p0_6k p0_6n p0_6w p0_6l), (oX1 (p0a 1) p0_0a p0_0k p0_0n p0_0w p0_0l), (oX9 (p0_0a 3) p0_0_2a p0_0_2k p0_0_2n p0_0_2w)] : List va_W)) := vD_perm hD3 (bP (List.Perm.refl _))
  have hK : va_K (dC, dI) cls (List.flatten ([(tX0 (st1 (st1 p0k 13 z4) 14 z10)), (tX2 p0_6k), (tX1 p0_0k), (tX9 p0_0_2k)] : List (List (ClassId × FieldType)))) s := vK_perm hK3 (bP (List.Perm.refl _))
  refine W.widen (k := (hcX0 p0n n8 + hcX9 p0_0_2n p0_0_2n)) (n := (3 * (gcX0 p0n n8 + gcX9 p0_0_2n p0_0_2n))) (by have a0 := gcX0_add hg_p0 hst11; have q5 := gcX0_14 (n := n2) (mo_fX11_atLeast hc_7); rw [← en8] at q5; omega) (by have a0 := gcX0_add hg_p0 hst11; have q5 := gcX0_14 (n := n2) (mo_fX11_atLeast hc_7); rw [← en8] at q5; omega) ?_
  have hg_p0 : glX0 p0n n8 := glX0_tr hg_p0 hst11
  unfold fX0_putAway_G29_12 at hrun
  refine lv_iconst (v := 0) hx hb dX0_putAway_29 (by decide) ?_
  refine lv_istore_n (lv' := [(2, .int 0), (1, .int (p0w 0 8)), (0, .ref (p0a 0))]) hx hb dX0_putAway_30 rfl hl (by decide) rfl (fun ls hl => ?_)
  have L31 : ∀ (n_31 : Nat) (v2_31 : Int32) (p0w_31 : ST) (o31 : ST) (H : Heap) (locs : List Loc) (ls : Array Slot), (fX0_putAway_L31 p0w p0_6n p0_6w p0_0_2n p0_0_2w n8 n_31) v2_31 p0w_31 = some o31 → va_P (dC, dI) cls (List.flatten ([(oX0 (p0a 0) (st1 (st1 p0a 13 ra5) 14 ra11) (st1 (st1 p0k 13 z4) 14 z10) n8 p0w_31), (oX2 (p0a 7) p0_6a p0_6k p0_6n p0_6w p0_6l), (oX1 (p0a 1) p0_0a p0_0k p0_0n p0_0w p0_0l), (oX9 (p0_0a 3) p0_0_2a p0_0_2k p0_0_2n p0_0_2w)] : List va_W)) H → va_D A (List.flatten ([(oX0 (p0a 0) (st1 (st1 p0a 13 ra5) 14 ra11) (st1 (st1 p0k 13 z4) 14 z10) n8 p0w_31), (oX2 (p0a 7) p0_6a p0_6k p0_6n p0_6w p0_6l), (oX1 (p0a 1) p0_0a p0_0k p0_0n p0_0w p0_0l), (oX9 (p0_0a 3) p0_0_2a p0_0_2k p0_0_2n p0_0_2w)] : List va_W)) → va_K (dC, dI) cls (List.flatten ([(tX0 (st1 (st1 p0k 13 z4) 14 z10)), (tX2 p0_6k), (tX1 p0_0k), (tX9 p0_0_2k)] : List (List (ClassId × FieldType)))) s → va_S A s.heap H locs → lv_has ls 5 [(0, .ref (p0a 0)), (1, .int (p0w 0 8)), (2, .int v2_31)] → glX0 p0n n8 → glX9 p0_0_2n p0_0_2n → (∀ (H : Heap) (locs : List Loc) (ls : Array Slot), va_P (dC, dI) cls (List.flatten ([(oX0 (p0a 0) (st1 (st1 p0a 13 ra5) 14 ra11) (st1 (st1 p0k 13 z4) 14 z10) n8 o31), (oX2 (p0a 7) p0_6a p0_6k p0_6n p0_6w p0_6l), (oX1 (p0a 1) p0_0a p0_0k p0_0n p0_0w p0_0l), (oX9 (p0_0a 3) p0_0_2a p0_0_2k p0_0_2n p0_0_2w)] : List va_W)) H → va_D A (List.flatten ([(oX0 (p0a 0) (st1 (st1 p0a 13 ra5) 14 ra11) (st1 (st1 p0k 13 z4) 14 z10) n8 o31), (oX2 (p0a 7) p0_6a p0_6k p0_6n p0_6w p0_6l), (oX1 (p0a 1) p0_0a p0_0k p0_0n p0_0w p0_0l), (oX9 (p0_0a 3) p0_0_2a p0_0_2k p0_0_2n p0_0_2w)] : List va_W)) → va_K (dC, dI) cls (List.flatten ([(tX0 (st1 (st1 p0k 13 z4) 14 z10)), (tX2 p0_6k), (tX1 p0_0k), (tX9 p0_0_2k)] : List (List (ClassId × FieldType)))) s → va_S A s.heap H locs → lv_has ls 5 [(0, .ref (p0a 0)), (1, .int (p0w 0 8))] → glX0 p0n n8 → glX9 p0_0_2n p0_0_2n → W p l e ({ frames := 6, cells := (hcX0 p0n (o.2.1) + hcX9 p0_0_2n (o.2.2.2.2)), slots := (3 * (gcX0 p0n (o.2.1) + gcX9 p0_0_2n (o.2.2.2.2))), locals := 163 } : Room) s m ([.ref (p0a 0)] : List Value).toArray below meth c H locs (hcX0 p0n n8 + hcX9 p0_0_2n p0_0_2n) (3 * (gcX0 p0n n8 + gcX9 p0_0_2n p0_0_2n)) Q (F0 m 78 ls [])) → W p l e ({ frames := 6, cells := (hcX0 p0n (o.2.1) + hcX9 p0_0_2n (o.2.2.2.2)), slots := (3 * (gcX0 p0n (o.2.1) + gcX9 p0_0_2n (o.2.2.2.2))), locals := 163 } : Room) s m ([.ref (p0a 0)] : List Value).toArray below meth c H locs (hcX0 p0n n8 + hcX9 p0_0_2n p0_0_2n) (3 * (gcX0 p0n n8 + gcX9 p0_0_2n p0_0_2n)) Q (F0 m 31 ls []) := by
    intro n_31
    induction n_31 with
    | zero => intro v2_31 p0w_31 o31 H locs ls hrun; exact (no9 rfl hrun).elim
    | succ n_31 IH31 =>
      intro v2_31 p0w_31 o31 H locs ls hrun hP hD hK hS hl hg_p0 hg_p0_0_2 hk31
      unfold fX0_putAway_L31 at hrun
      refine lv_iload_n hx hb dX0_putAway_31 rfl (lv_at hl 2 rfl) ?_
      refine lv_iload_n hx hb dX0_putAway_32 rfl (lv_at hl 1 rfl) ?_
      rcases br9 hrun with ⟨hc13, hrun⟩ | ⟨hc13, hrun⟩
      · refine lv_icmp_ge (tgt := 78) hx hb dX0_putAway_33 (by decide) (fun _ => ?_) (fun c => absurd hc13 c)
        obtain rfl := (Option.some.inj hrun)
        exact hk31 _ _ _ hP hD hK hS (lv_sub hl [0, 1] rfl) hg_p0 hg_p0_0_2
      · refine lv_icmp_ge (tgt := 78) hx hb dX0_putAway_33 (by decide) (fun c => absurd c hc13) (fun _ => ?_)
        refine lv_aload_n hx hb dX0_putAway_36 rfl (lv_at hl 0 rfl) ?_
        refine va_get (D := (dC, dI)) (ci := 8) (v := .ref ra5) (C := RX0) (T := TX0) (N := 17) hx hb hts i_X0 hown hK hP 0 rfl rfl 12 (by decide) (hts _ qw622) (fun _ h9 => h9) rfl dX0_putAway_37 ?_
        refine lv_iload_n hx hb dX0_putAway_40 rfl (lv_at hl 2 rfl) ?_
        refine lv_iconst (v := (-1)) hx hb dX0_putAway_41 (by decide) ?_
        obtain ⟨hq14, hrun⟩ := chk9 hrun
        refine va_iast hx hb hK hP hD hS 4 3 rfl rfl (ixb_in hq14) dX0_putAway_42 (fun H locs hP hD hS => ?_)
        have hP : va_P (dC, dI) cls (List.flatten ([(oX0 (p0a 0) (st1 (st1 p0a 13 ra5) 14 ra11) (st1 (st1 p0k 13 z4) 14 z10) n8 (upw p0w_31 13 (nn v2_31) (-1))), (oX2 (p0a 7) p0_6a p0_6k p0_6n p0_6w p0_6l), (oX1 (p0a 1) p0_0a p0_0k p0_0n p0_0w p0_0l), (oX9 (p0_0a 3) p0_0_2a p0_0_2k p0_0_2n p0_0_2w)] : List va_W)) H := hP
        have hD : va_D A (List.flatten ([(oX0 (p0a 0) (st1 (st1 p0a 13 ra5) 14 ra11) (st1 (st1 p0k 13 z4) 14 z10) n8 (upw p0w_31 13 (nn v2_31) (-1))), (oX2 (p0a 7) p0_6a p0_6k p0_6n p0_6w p0_6l), (oX1 (p0a 1) p0_0a p0_0k p0_0n p0_0w p0_0l), (oX9 (p0_0a 3) p0_0_2a p0_0_2k p0_0_2n p0_0_2w)] : List va_W)) := hD
        obtain ⟨w15, ew15, hrun⟩ := let9 hrun
        rw [← ew15] at hP hD
        refine lv_aload_n hx hb dX0_putAway_43 rfl (lv_at hl 0 rfl) ?_
        refine va_get (D := (dC, dI)) (ci := 8) (v := .ref (p0a 7)) (C := RX0) (T := TX0) (N := 17) hx hb hts i_X0 hown hK hP 0 rfl rfl 6 (by decide) (hts _ qw626) (fun _ h9 => h9) rfl dX0_putAway_44 ?_
        refine va_get (D := (dC, dI)) (ci := 9) (v := .ref (p0_6a 15)) (C := RX2) (T := TX2) (N := 19) hx hb hts i_X2 hown hK hP 9 rfl rfl 14 (by decide) (hts _ qw628) (fun _ h9 => h9) rfl dX0_putAway_47 ?_
        refine lv_iload_n hx hb dX0_putAway_50 rfl (lv_at hl 2 rfl) ?_
        obtain ⟨hq16, hrun⟩ := chk9 hrun
        refine va_iald hx hb hK hP 20 18 rfl rfl (ixb_in hq16) dX0_putAway_51 ?_
        have J72 : ∀ (p0w_72 : ST) (H : Heap) (locs : List Loc) (ls : Array Slot), (fX0_putAway_J72 (fX0_putAway_L31 p0w p0_6n p0_6w p0_0_2n p0_0_2w n8 n_31) v2_31 p0w_72) = some o31 → va_P (dC, dI) cls (List.flatten ([(oX0 (p0a 0) (st1 (st1 p0a 13 ra5) 14 ra11) (st1 (st1 p0k 13 z4) 14 z10) n8 p0w_72), (oX2 (p0a 7) p0_6a p0_6k p0_6n p0_6w p0_6l), (oX1 (p0a 1) p0_0a p0_0k p0_0n p0_0w p0_0l), (oX9 (p0_0a 3) p0_0_2a p0_0_2k p0_0_2n p0_0_2w)] : List va_W)) H → va_D A (List.flatten ([(oX0 (p0a 0) (st1 (st1 p0a 13 ra5) 14 ra11) (st1 (st1 p0k 13 z4) 14 z10) n8 p0w_72), (oX2 (p0a 7) p0_6a p0_6k p0_6n p0_6w p0_6l), (oX1 (p0a 1) p0_0a p0_0k p0_0n p0_0w p0_0l), (oX9 (p0_0a 3) p0_0_2a p0_0_2k p0_0_2n p0_0_2w)] : List va_W)) → va_K (dC, dI) cls (List.flatten ([(tX0 (st1 (st1 p0k 13 z4) 14 z10)), (tX2 p0_6k), (tX1 p0_0k), (tX9 p0_0_2k)] : List (List (ClassId × FieldType)))) s → va_S A s.heap H locs → lv_has ls 5 [(0, .ref (p0a 0)), (1, .int (p0w 0 8)), (2, .int v2_31)] → glX0 p0n n8 → glX9 p0_0_2n p0_0_2n → W p l e ({ frames := 6, cells := (hcX0 p0n (o.2.1) + hcX9 p0_0_2n (o.2.2.2.2)), slots := (3 * (gcX0 p0n (o.2.1) + gcX9 p0_0_2n (o.2.2.2.2))), locals := 163 } : Room) s m ([.ref (p0a 0)] : List Value).toArray below meth c H locs (hcX0 p0n n8 + hcX9 p0_0_2n p0_0_2n) (3 * (gcX0 p0n n8 + gcX9 p0_0_2n p0_0_2n)) Q (F0 m 72 ls []) := by
          intro p0w_72 H locs ls hrun hP hD hK hS hl hg_p0 hg_p0_0_2 
          unfold fX0_putAway_J72 at hrun
          refine lv_iinc (v := (v2_31 + 1)) (lv' := [(2, .int (v2_31 + 1)), (0, .ref (p0a 0)), (1, .int (p0w 0 8))]) hx hb dX0_putAway_72 hl (k := 2) rfl rfl (by decide) rfl (fun ls hl => ?_)
          refine lv_goto (tgt := 31) hx hb dX0_putAway_75 (by decide) ?_
          exact IH31 (v2_31 + 1) p0w_72 o31 _ _ _ hrun hP hD hK hS (lv_sub hl [1, 2, 0] rfl) hg_p0 hg_p0_0_2 hk31
        rcases br9 hrun with ⟨hc17, hrun⟩ | ⟨hc17, hrun⟩
        · refine lv_if_le (tgt := 72) hx hb dX0_putAway_52 (by decide) (fun _ => ?_) (fun c => absurd hc17 c)
          exact J72 w15 _ _ _ hrun hP hD hK hS (lv_sub hl [0, 1, 2] rfl) hg_p0 hg_p0_0_2
        · refine lv_if_le (tgt := 72) hx hb dX0_putAway_52 (by decide) (fun c => absurd c hc17) (fun _ => ?_)
          refine lv_aload_n hx hb dX0_putAway_55 rfl (lv_at hl 0 rfl) ?_
          refine va_get (D := (dC, dI)) (ci := 8) (v := .ref (p0a 7)) (C := RX0) (T := TX0) (N := 17) hx hb hts i_X0 hown hK hP 0 rfl rfl 6 (by decide) (hts _ qw626) (fun _ h9 => h9) rfl dX0_putAway_56 ?_
          refine va_get (D := (dC, dI)) (ci := 9) (v := .ref (p0_6a 17)) (C := RX2) (T := TX2) (N := 19) hx hb hts i_X2 hown hK hP 9 rfl rfl 16 (by decide) (hts _ qw635) (fun _ h9 => h9) rfl dX0_putAway_59 ?_
          refine lv_iload_n hx hb dX0_putAway_62 rfl (lv_at hl 2 rfl) ?_
          obtain ⟨hq18, hrun⟩ := chk9 hrun
          refine va_iald hx hb hK hP 22 20 rfl rfl (ixb_in hq18) dX0_putAway_63 ?_
          rcases br9 hrun with ⟨hc19, hrun⟩ | ⟨hc19, hrun⟩
          · refine lv_if_ge (tgt := 72) hx hb dX0_putAway_64 (by decide) (fun _ => ?_) (fun c => absurd hc19 c)
            exact J72 w15 _ _ _ hrun hP hD hK hS (lv_sub hl [0, 1, 2] rfl) hg_p0 hg_p0_0_2
          · refine lv_if_ge (tgt := 72) hx hb dX0_putAway_64 (by decide) (fun c => absurd c hc19) (fun _ => ?_)
            refine lv_aload_n hx hb dX0_putAway_67 rfl (lv_at hl 0 rfl) ?_
            refine lv_iload_n hx hb dX0_putAway_68 rfl (lv_at hl 2 rfl) ?_
            obtain ⟨o_20, hc_20, hrun⟩ := bnd9 hrun
            have hPx : va_P (dC, dI) cls ((List.flatten ([(oX0 (p0a 0) (st1 (st1 p0a 13 ra5) 14 ra11) (st1 (st1 p0k 13 z4) 14 z10) n8 w15), (oX2 (p0a 7) p0_6a p0_6k p0_6n p0_6w p0_6l), (oX1 (p0a 1) p0_0a p0_0k p0_0n p0_0w p0_0l), (oX9 (p0_0a 3) p0_0_2a p0_0_2k p0_0_2n p0_0_2w)] : List va_W)) ++ (List.flatten ([] : List va_W))) H := vP_fa (vP_perm hP (bP (List.Perm.refl _)))
            have hDx : va_D A ((List.flatten ([(oX0 (p0a 0) (st1 (st1 p0a 13 ra5) 14 ra11) (st1 (st1 p0k 13 z4) 14 z10) n8 w15), (oX2 (p0a 7) p0_6a p0_6k p0_6n p0_6w p0_6l), (oX1 (p0a 1) p0_0a p0_0k p0_0n p0_0w p0_0l), (oX9 (p0_0a 3) p0_0_2a p0_0_2k p0_0_2n p0_0_2w)] : List va_W)) ++ (List.flatten ([] : List va_W))) := vD_fa (vD_perm hD (bP (List.Perm.refl _)))
            have hKx : va_K (dC, dI) cls ((List.flatten ([(tX0 (st1 (st1 p0k 13 z4) 14 z10)), (tX2 p0_6k), (tX1 p0_0k), (tX9 p0_0_2k)] : List (List (ClassId × FieldType)))) ++ (List.flatten ([] : List (List (ClassId × FieldType))))) s := vK_fa (vK_perm hK (bP (List.Perm.refl _)))
            have hPc := vP_l hPx
            have hDc := vD_l hDx
            have hKc := vK_l hKx
            have hFc := vfree hDx hS hA
            refine va_callv (va_runV (As := [.int v2_31]) (rest := []) ⟨hx, hb, hml, hown, hts⟩ (kX0_findSlot l dC dI (p0a := (st0 (p0a 0) (st1 (st1 p0a 13 ra5) 14 ra11))) (p0k := (st1 (st1 p0k 13 z4) 14 z10)) (p0n := n8) (p0w := w15) (p1 := v2_31) (p0_6a := p0_6a) (p0_6k := p0_6k) (p0_6n := p0_6n) (p0_6w := p0_6w) (p0_6l := p0_6l) (p0_0a := p0_0a) (p0_0k := p0_0k) (p0_0n := p0_0n) (p0_0w := p0_0w) (p0_0l := p0_0l) (p0_0_2a := p0_0_2a) (p0_0_2k := p0_0_2k) (p0_0_2n := p0_0_2n) (p0_0_2w := p0_0_2w) (sz := _) (o := o_20) (hrun := hc_20)) (cwV 1 hts (gi_V qw842 qw843 qw844 qw655 (gi_z qw841)) rfl rfl rfl (by decide +kernel) ⟨Nat.le_of_ble_eq_true rfl, Nat.le_of_ble_eq_true rfl⟩) ⟨PRE.blind, va_recv hKc hPc (ci := 8) (q0 := 0) rfl rfl, PRE.of hE hS hFc hPc hKc hDc⟩ rfl rfl hl.1 rfl (lv_room (Nat.le_of_ble_eq_true rfl)) dX0_putAway_69 ⟨(show (hcX0 p0n n8 + hcX9 p0_0_2n p0_0_2n) + 0 ≤ (hcX0 p0n (o.2.1) + hcX9 p0_0_2n (o.2.2.2.2)) from by have q0 := gmX0 hg_p0 hgn_p0; have q1 := gmX9 hg_p0_0_2 hgn_p0_0_2; omega), (show (3 * (gcX0 p0n n8 + gcX9 p0_0_2n p0_0_2n)) + 0 ≤ (3 * (gcX0 p0n (o.2.1) + gcX9 p0_0_2n (o.2.2.2.2))) from by have q0 := gmX0 hg_p0 hgn_p0; have q1 := gmX9 hg_p0_0_2 hgn_p0_0_2; omega)⟩) hS (fun q _ h => hFc q h) hFc (fun u t H locs ht hvm hw hB hz1 hk1 hS => ?_)
            obtain ⟨b1, b2, b3⟩ := hB
            rw [ht] at b1
            obtain ⟨hP, hD, hK⟩ := JOINC (wc := (List.flatten ([(oX0 (p0a 0) (st1 (st1 p0a 13 ra5) 14 ra11) (st1 (st1 p0k 13 z4) 14 z10) n8 w15), (oX2 (p0a 7) p0_6a p0_6k p0_6n p0_6w p0_6l), (oX1 (p0a 1) p0_0a p0_0k p0_0n p0_0w p0_0l), (oX9 (p0_0a 3) p0_0_2a p0_0_2k p0_0_2n p0_0_2w)] : List va_W))) (wr := (List.flatten ([] : List va_W))) (w1 := (List.flatten ([(oX0 (p0a 0) (st1 (st1 p0a 13 ra5) 14 ra11) (st1 (st1 p0k 13 z4) 14 z10) n8 o_20), (oX2 (p0a 7) p0_6a p0_6k p0_6n p0_6w p0_6l), (oX1 (p0a 1) p0_0a p0_0k p0_0n p0_0w p0_0l), (oX9 (p0_0a 3) p0_0_2a p0_0_2k p0_0_2n p0_0_2w)] : List va_W))) (t1 := (List.flatten ([(tX0 (st1 (st1 p0k 13 z4) 14 z10)), (tX2 p0_6k), (tX1 p0_0k), (tX9 p0_0_2k)] : List (List (ClassId × FieldType))))) hPx hDx hKx hk1 hFc b1 (va_K.moved hvm.symm b2) b3
            have hP : va_P (dC, dI) cls (List.flatten ([(oX0 (p0a 0) (st1 (st1 p0a 13 ra5) 14 ra11) (st1 (st1 p0k 13 z4) 14 z10) n8 o_20), (oX2 (p0a 7) p0_6a p0_6k p0_6n p0_6w p0_6l), (oX1 (p0a 1) p0_0a p0_0k p0_0n p0_0w p0_0l), (oX9 (p0_0a 3) p0_0_2a p0_0_2k p0_0_2n p0_0_2w)] : List va_W)) H := vP_perm (vP_fb hP) (bP (List.Perm.refl _))
            have hD : va_D A (List.flatten ([(oX0 (p0a 0) (st1 (st1 p0a 13 ra5) 14 ra11) (st1 (st1 p0k 13 z4) 14 z10) n8 o_20), (oX2 (p0a 7) p0_6a p0_6k p0_6n p0_6w p0_6l), (oX1 (p0a 1) p0_0a p0_0k p0_0n p0_0w p0_0l), (oX9 (p0_0a 3) p0_0_2a p0_0_2k p0_0_2n p0_0_2w)] : List va_W)) := vD_perm (vD_fb hD) (bP (List.Perm.refl _))
            have hK : va_K (dC, dI) cls (List.flatten ([(tX0 (st1 (st1 p0k 13 z4) 14 z10)), (tX2 p0_6k), (tX1 p0_0k), (tX9 p0_0_2k)] : List (List (ClassId × FieldType)))) s := vK_perm (vK_fb hK) (bP (List.Perm.refl _))
            exact J72 o_20 _ _ _ hrun hP hD hK hS (lv_sub hl [0, 1, 2] rfl) hg_p0 hg_p0_0_2
  obtain ⟨o31, hc31, hrun⟩ := bnd9 hrun
  refine L31 NF 0 w9 o31 _ _ _ hc31 hP hD hK hS (lv_sub hl [2, 1, 0] rfl) hg_p0 hg_p0_0_2 ?_
  intro H locs ls hP hD hK hS hl hg_p0 hg_p0_0_2
  have hl := hl
  refine lv_iconst (v := 0) hx hb dX0_putAway_78 (by decide) ?_
  refine lv_istore_n (lv' := [(2, .int 0), (0, .ref (p0a 0)), (1, .int (p0w 0 8))]) hx hb dX0_putAway_79 rfl hl (by decide) rfl (fun ls hl => ?_)
  obtain ⟨o80, hc80, hrun⟩ := bnd9 hrun
  have hgn_p0 : glX0 n8 (o.2.1) := ((mo_fX0_putAway_G183_58 hrun).1)
  have hgn_p0_0_2 : glX9 (o80.2.2.2) (o.2.2.2.2) := ((mo_fX0_putAway_G183_58 hrun).2)
  have L80 : ∀ (n_80 : Nat) (v2_80 : Int32) (p0w_80 : ST) (p0_0w_80 : ST) (p0_0_2w_80 : ST) (p0_0_2n_80 : Nat → Nat) (xp0_0_2_1_80 : Nat) (zp0_0_2_1_80 : ClassId) (xp0_0_2_2_80 : Nat) (zp0_0_2_2_80 : ClassId) (xp0_0_2_3_80 : Nat) (zp0_0_2_3_80 : ClassId) (xp0_0_2_4_80 : Nat) (zp0_0_2_4_80 : ClassId) (xp0_0_2_5_80 : Nat) (zp0_0_2_5_80 : ClassId) (o80 : ST × ST × ST × (Nat → Nat)) (H : Heap) (locs : List Loc) (ls : Array Slot), (fX0_putAway_L80 p0w n8 n_80) v2_80 p0w_80 p0_0w_80 p0_0_2w_80 p0_0_2n_80 = some o80 → va_P (dC, dI) cls (List.flatten ([(oX0 (p0a 0) (st1 (st1 p0a 13 ra5) 14 ra11) (st1 (st1 p0k 13 z4) 14 z10) n8 p0w_80), (oX2 (p0a 7) p0_6a p0_6k p0_6n p0_6w p0_6l), (oX1 (p0a 1) p0_0a p0_0k p0_0n p0_0w_80 p0_0l), (oX9 (p0_0a 3) (st1 (st1 (st1 (st1 (st1 p0_0_2a 2 xp0_0_2_1_80) 3 xp0_0_2_2_80) 4 xp0_0_2_3_80) 5 xp0_0_2_4_80) 6 xp0_0_2_5_80) (st1 (st1 (st1 (st1 (st1 p0_0_2k 2 zp0_0_2_1_80) 3 zp0_0_2_2_80) 4 zp0_0_2_3_80) 5 zp0_0_2_4_80) 6 zp0_0_2_5_80) p0_0_2n_80 p0_0_2w_80)] : List va_W)) H → va_D A (List.flatten ([(oX0 (p0a 0) (st1 (st1 p0a 13 ra5) 14 ra11) (st1 (st1 p0k 13 z4) 14 z10) n8 p0w_80), (oX2 (p0a 7) p0_6a p0_6k p0_6n p0_6w p0_6l), (oX1 (p0a 1) p0_0a p0_0k p0_0n p0_0w_80 p0_0l), (oX9 (p0_0a 3) (st1 (st1 (st1 (st1 (st1 p0_0_2a 2 xp0_0_2_1_80) 3 xp0_0_2_2_80) 4 xp0_0_2_3_80) 5 xp0_0_2_4_80) 6 xp0_0_2_5_80) (st1 (st1 (st1 (st1 (st1 p0_0_2k 2 zp0_0_2_1_80) 3 zp0_0_2_2_80) 4 zp0_0_2_3_80) 5 zp0_0_2_4_80) 6 zp0_0_2_5_80) p0_0_2n_80 p0_0_2w_80)] : List va_W)) → va_K (dC, dI) cls (List.flatten ([(tX0 (st1 (st1 p0k 13 z4) 14 z10)), (tX2 p0_6k), (tX1 p0_0k), (tX9 (st1 (st1 (st1 (st1 (st1 p0_0_2k 2 zp0_0_2_1_80) 3 zp0_0_2_2_80) 4 zp0_0_2_3_80) 5 zp0_0_2_4_80) 6 zp0_0_2_5_80))] : List (List (ClassId × FieldType)))) s → va_S A s.heap H locs → lv_has ls 5 [(0, .ref (p0a 0)), (1, .int (p0w 0 8)), (2, .int v2_80)] → glX0 p0n n8 → glX9 p0_0_2n p0_0_2n_80 → glX9 (o80.2.2.2) (o.2.2.2.2) → (∀ (xp0_0_2_1_80x : Nat) (zp0_0_2_1_80x : ClassId) (xp0_0_2_2_80x : Nat) (zp0_0_2_2_80x : ClassId) (xp0_0_2_3_80x : Nat) (zp0_0_2_3_80x : ClassId) (xp0_0_2_4_80x : Nat) (zp0_0_2_4_80x : ClassId) (xp0_0_2_5_80x : Nat) (zp0_0_2_5_80x : ClassId) (H : Heap) (locs : List Loc) (ls : Array Slot), va_P (dC, dI) cls (List.flatten ([(oX0 (p0a 0) (st1 (st1 p0a 13 ra5) 14 ra11) (st1 (st1 p0k 13 z4) 14 z10) n8 (o80.1)), (oX2 (p0a 7) p0_6a p0_6k p0_6n p0_6w p0_6l), (oX1 (p0a 1) p0_0a p0_0k p0_0n (o80.2.1) p0_0l), (oX9 (p0_0a 3) (st1 (st1 (st1 (st1 (st1 p0_0_2a 2 xp0_0_2_1_80x) 3 xp0_0_2_2_80x) 4 xp0_0_2_3_80x) 5 xp0_0_2_4_80x) 6 xp0_0_2_5_80x) (st1 (st1 (st1 (st1 (st1 p0_0_2k 2 zp0_0_2_1_80x) 3 zp0_0_2_2_80x) 4 zp0_0_2_3_80x) 5 zp0_0_2_4_80x) 6 zp0_0_2_5_80x) (o80.2.2.2) (o80.2.2.1))] : List va_W)) H → va_D A (List.flatten ([(oX0 (p0a 0) (st1 (st1 p0a 13 ra5) 14 ra11) (st1 (st1 p0k 13 z4) 14 z10) n8 (o80.1)), (oX2 (p0a 7) p0_6a p0_6k p0_6n p0_6w p0_6l), (oX1 (p0a 1) p0_0a p0_0k p0_0n (o80.2.1) p0_0l), (oX9 (p0_0a 3) (st1 (st1 (st1 (st1 (st1 p0_0_2a 2 xp0_0_2_1_80x) 3 xp0_0_2_2_80x) 4 xp0_0_2_3_80x) 5 xp0_0_2_4_80x) 6 xp0_0_2_5_80x) (st1 (st1 (st1 (st1 (st1 p0_0_2k 2 zp0_0_2_1_80x) 3 zp0_0_2_2_80x) 4 zp0_0_2_3_80x) 5 zp0_0_2_4_80x) 6 zp0_0_2_5_80x) (o80.2.2.2) (o80.2.2.1))] : List va_W)) → va_K (dC, dI) cls (List.flatten ([(tX0 (st1 (st1 p0k 13 z4) 14 z10)), (tX2 p0_6k), (tX1 p0_0k), (tX9 (st1 (st1 (st1 (st1 (st1 p0_0_2k 2 zp0_0_2_1_80x) 3 zp0_0_2_2_80x) 4 zp0_0_2_3_80x) 5 zp0_0_2_4_80x) 6 zp0_0_2_5_80x))] : List (List (ClassId × FieldType)))) s → va_S A s.heap H locs → lv_has ls 5 [] → glX0 p0n n8 → glX9 p0_0_2n (o80.2.2.2) → W p l e ({ frames := 6, cells := (hcX0 p0n (o.2.1) + hcX9 p0_0_2n (o.2.2.2.2)), slots := (3 * (gcX0 p0n (o.2.1) + gcX9 p0_0_2n (o.2.2.2.2))), locals := 163 } : Room) s m ([.ref (p0a 0)] : List Value).toArray below meth c H locs (hcX0 p0n n8 + hcX9 p0_0_2n (o80.2.2.2)) (3 * (gcX0 p0n n8 + gcX9 p0_0_2n (o80.2.2.2))) Q (F0 m 183 ls [])) → W p l e ({ frames := 6, cells := (hcX0 p0n (o.2.1) + hcX9 p0_0_2n (o.2.2.2.2)), slots := (3 * (gcX0 p0n (o.2.1) + gcX9 p0_0_2n (o.2.2.2.2))), locals := 163 } : Room) s m ([.ref (p0a 0)] : List Value).toArray below meth c H locs (hcX0 p0n n8 + hcX9 p0_0_2n p0_0_2n_80) (3 * (gcX0 p0n n8 + gcX9 p0_0_2n p0_0_2n_80)) Q (F0 m 80 ls []) := by
    intro n_80
    induction n_80 with
    | zero => intro v2_80 p0w_80 p0_0w_80 p0_0_2w_80 p0_0_2n_80 xp0_0_2_1_80 zp0_0_2_1_80 xp0_0_2_2_80 zp0_0_2_2_80 xp0_0_2_3_80 zp0_0_2_3_80 xp0_0_2_4_80 zp0_0_2_4_80 xp0_0_2_5_80 zp0_0_2_5_80 o80 H locs ls hrun; exact (no9 rfl hrun).elim
    | succ n_80 IH80 =>
      intro v2_80 p0w_80 p0_0w_80 p0_0_2w_80 p0_0_2n_80 xp0_0_2_1_80 zp0_0_2_1_80 xp0_0_2_2_80 zp0_0_2_2_80 xp0_0_2_3_80 zp0_0_2_3_80 xp0_0_2_4_80 zp0_0_2_4_80 xp0_0_2_5_80 zp0_0_2_5_80 o80 H locs ls hrun hP hD hK hS hl hg_p0 hg_p0_0_2 hgo_p0_0_2 hk80
      have hgn_p0_0_2 : glX9 p0_0_2n_80 (o.2.2.2.2) := (glX9_tr (mo_fX0_putAway_L80 (n_80 + 1) _ _ _ _ _ _ hrun) hgo_p0_0_2)
      unfold fX0_putAway_L80 at hrun
      refine lv_iload_n hx hb dX0_putAway_80 rfl (lv_at hl 2 rfl) ?_
      refine lv_aload_n hx hb dX0_putAway_81 rfl (lv_at hl 0 rfl) ?_
      refine va_get (D := (dC, dI)) (ci := 8) (v := .ref (p0a 1)) (C := RX0) (T := TX0) (N := 17) hx hb hts i_X0 hown hK hP 0 rfl rfl 0 (by decide) (hts _ qw618) (fun _ h9 => h9) rfl dX0_putAway_82 ?_
      refine va_get (D := (dC, dI)) (ci := 4) (v := .int (p0_0w_80 0 0)) (C := RX1) (T := TX1) (N := 21) hx hb hts i_X1 hown hK hP 25 rfl rfl 0 (by decide) (hts _ qw644) (fun _ h9 => h9) rfl dX0_putAway_85 ?_
      rcases br9 hrun with ⟨hc21, hrun⟩ | ⟨hc21, hrun⟩
      · refine lv_icmp_ge (tgt := 183) hx hb dX0_putAway_88 (by decide) (fun _ => ?_) (fun c => absurd hc21 c)
        obtain rfl := (Option.some.inj hrun)
        exact hk80 xp0_0_2_1_80 zp0_0_2_1_80 xp0_0_2_2_80 zp0_0_2_2_80 xp0_0_2_3_80 zp0_0_2_3_80 xp0_0_2_4_80 zp0_0_2_4_80 xp0_0_2_5_80 zp0_0_2_5_80 _ _ _ hP hD hK hS (lv_sub hl [] rfl) hg_p0 hg_p0_0_2
      · refine lv_icmp_ge (tgt := 183) hx hb dX0_putAway_88 (by decide) (fun c => absurd c hc21) (fun _ => ?_)
        refine lv_aload_n hx hb dX0_putAway_91 rfl (lv_at hl 0 rfl) ?_
        refine va_get (D := (dC, dI)) (ci := 8) (v := .ref (p0a 1)) (C := RX0) (T := TX0) (N := 17) hx hb hts i_X0 hown hK hP 0 rfl rfl 0 (by decide) (hts _ qw618) (fun _ h9 => h9) rfl dX0_putAway_92 ?_
        refine lv_iload_n hx hb dX0_putAway_95 rfl (lv_at hl 2 rfl) ?_
        obtain ⟨o_22, hc_22, hrun⟩ := bnd9 hrun
        have hPx : va_P (dC, dI) cls ((List.flatten ([(oX1 (p0a 1) p0_0a p0_0k p0_0n p0_0w_80 p0_0l)] : List va_W)) ++ (List.flatten ([(oX0 (p0a 0) (st1 (st1 p0a 13 ra5) 14 ra11) (st1 (st1 p0k 13 z4) 14 z10) n8 p0w_80), (oX2 (p0a 7) p0_6a p0_6k p0_6n p0_6w p0_6l), (oX9 (p0_0a 3) (st1 (st1 (st1 (st1 (st1 p0_0_2a 2 xp0_0_2_1_80) 3 xp0_0_2_2_80) 4 xp0_0_2_3_80) 5 xp0_0_2_4_80) 6 xp0_0_2_5_80) (st1 (st1 (st1 (st1 (st1 p0_0_2k 2 zp0_0_2_1_80) 3 zp0_0_2_2_80) 4 zp0_0_2_3_80) 5 zp0_0_2_4_80) 6 zp0_0_2_5_80) p0_0_2n_80 p0_0_2w_80)] : List va_W))) H := vP_fa (vP_perm hP (bP (((((((List.Perm.refl _)).cons _).trans (List.Perm.swap _ _ _))).cons _).trans (List.Perm.swap _ _ _))))
        have hDx : va_D A ((List.flatten ([(oX1 (p0a 1) p0_0a p0_0k p0_0n p0_0w_80 p0_0l)] : List va_W)) ++ (List.flatten ([(oX0 (p0a 0) (st1 (st1 p0a 13 ra5) 14 ra11) (st1 (st1 p0k 13 z4) 14 z10) n8 p0w_80), (oX2 (p0a 7) p0_6a p0_6k p0_6n p0_6w p0_6l), (oX9 (p0_0a 3) (st1 (st1 (st1 (st1 (st1 p0_0_2a 2 xp0_0_2_1_80) 3 xp0_0_2_2_80) 4 xp0_0_2_3_80) 5 xp0_0_2_4_80) 6 xp0_0_2_5_80) (st1 (st1 (st1 (st1 (st1 p0_0_2k 2 zp0_0_2_1_80) 3 zp0_0_2_2_80) 4 zp0_0_2_3_80) 5 zp0_0_2_4_80) 6 zp0_0_2_5_80) p0_0_2n_80 p0_0_2w_80)] : List va_W))) := vD_fa (vD_perm hD (bP (((((((List.Perm.refl _)).cons _).trans (List.Perm.swap _ _ _))).cons _).trans (List.Perm.swap _ _ _))))
        have hKx : va_K (dC, dI) cls ((List.flatten ([(tX1 p0_0k)] : List (List (ClassId × FieldType)))) ++ (List.flatten ([(tX0 (st1 (st1 p0k 13 z4) 14 z10)), (tX2 p0_6k), (tX9 (st1 (st1 (st1 (st1 (st1 p0_0_2k 2 zp0_0_2_1_80) 3 zp0_0_2_2_80) 4 zp0_0_2_3_80) 5 zp0_0_2_4_80) 6 zp0_0_2_5_80))] : List (List (ClassId × FieldType))))) s := vK_fa (vK_perm hK (bP (((((((List.Perm.refl _)).cons _).trans (List.Perm.swap _ _ _))).cons _).trans (List.Perm.swap _ _ _))))
        have hPc := vP_l hPx
        have hDc := vD_l hDx
        have hKc := vK_l hKx
        have hFc := vfree hDx hS hA
        refine va_calli (va_runV (As := [.int v2_80]) (rest := []) ⟨hx, hb, hml, hown, hts⟩ (kX1_takeSteps l dC dI (p0a := (st0 (p0a 1) p0_0a)) (p0k := p0_0k) (p0n := p0_0n) (p0w := p0_0w_80) (p0l := p0_0l) (p1 := v2_80) (sz := _) (o := o_22) (hrun := hc_22)) (cwV 1 hts (gi_V qw799 qw179 qw180 qw126 (gi_z qw177)) rfl rfl rfl (by decide +kernel) ⟨Nat.le_of_ble_eq_true rfl, Nat.le_of_ble_eq_true rfl⟩) ⟨PRE.blind, va_recv hKc hPc (ci := 4) (q0 := 0) rfl rfl, PRE.of hE hS hFc hPc hKc hDc⟩ rfl rfl hl.1 rfl (lv_room (Nat.le_of_ble_eq_true rfl)) dX0_putAway_96 ⟨(show (hcX0 p0n n8 + hcX9 p0_0_2n p0_0_2n_80) + 0 ≤ (hcX0 p0n (o.2.1) + hcX9 p0_0_2n (o.2.2.2.2)) from by have q0 := gmX0 hg_p0 hgn_p0; have q1 := gmX9 hg_p0_0_2 hgn_p0_0_2; omega), (show (3 * (gcX0 p0n n8 + gcX9 p0_0_2n p0_0_2n_80)) + 0 ≤ (3 * (gcX0 p0n (o.2.1) + gcX9 p0_0_2n (o.2.2.2.2))) from by have q0 := gmX0 hg_p0 hgn_p0; have q1 := gmX9 hg_p0_0_2 hgn_p0_0_2; omega)⟩) hS (fun q _ h => hFc q h) hFc (fun r23 u t H locs ht hvm hw hB hz1 hk1 hS => ?_)
        obtain ⟨b1, b2, b3⟩ := hB
        rw [ht] at b1
        obtain ⟨hP, hD, hK⟩ := JOINC (wc := (List.flatten ([(oX1 (p0a 1) p0_0a p0_0k p0_0n p0_0w_80 p0_0l)] : List va_W))) (wr := (List.flatten ([(oX0 (p0a 0) (st1 (st1 p0a 13 ra5) 14 ra11) (st1 (st1 p0k 13 z4) 14 z10) n8 p0w_80), (oX2 (p0a 7) p0_6a p0_6k p0_6n p0_6w p0_6l), (oX9 (p0_0a 3) (st1 (st1 (st1 (st1 (st1 p0_0_2a 2 xp0_0_2_1_80) 3 xp0_0_2_2_80) 4 xp0_0_2_3_80) 5 xp0_0_2_4_80) 6 xp0_0_2_5_80) (st1 (st1 (st1 (st1 (st1 p0_0_2k 2 zp0_0_2_1_80) 3 zp0_0_2_2_80) 4 zp0_0_2_3_80) 5 zp0_0_2_4_80) 6 zp0_0_2_5_80) p0_0_2n_80 p0_0_2w_80)] : List va_W))) (w1 := (List.flatten ([(oX1 (p0a 1) p0_0a p0_0k p0_0n (o_22.2) p0_0l)] : List va_W))) (t1 := (List.flatten ([(tX1 p0_0k)] : List (List (ClassId × FieldType))))) hPx hDx hKx hk1 hFc b1 (va_K.moved hvm.symm b2) b3
        have hP : va_P (dC, dI) cls (List.flatten ([(oX0 (p0a 0) (st1 (st1 p0a 13 ra5) 14 ra11) (st1 (st1 p0k 13 z4) 14 z10) n8 p0w_80), (oX2 (p0a 7) p0_6a p0_6k p0_6n p0_6w p0_6l), (oX1 (p0a 1) p0_0a p0_0k p0_0n (o_22.2) p0_0l), (oX9 (p0_0a 3) (st1 (st1 (st1 (st1 (st1 p0_0_2a 2 xp0_0_2_1_80) 3 xp0_0_2_2_80) 4 xp0_0_2_3_80) 5 xp0_0_2_4_80) 6 xp0_0_2_5_80) (st1 (st1 (st1 (st1 (st1 p0_0_2k 2 zp0_0_2_1_80) 3 zp0_0_2_2_80) 4 zp0_0_2_3_80) 5 zp0_0_2_4_80) 6 zp0_0_2_5_80) p0_0_2n_80 p0_0_2w_80)] : List va_W)) H := vP_perm (vP_fb hP) (bP ((((((List.Perm.refl _)).cons _).trans (List.Perm.swap _ _ _))).trans ((((((List.Perm.refl _)).cons _).trans (List.Perm.swap _ _ _))).cons _)))
        have hD : va_D A (List.flatten ([(oX0 (p0a 0) (st1 (st1 p0a 13 ra5) 14 ra11) (st1 (st1 p0k 13 z4) 14 z10) n8 p0w_80), (oX2 (p0a 7) p0_6a p0_6k p0_6n p0_6w p0_6l), (oX1 (p0a 1) p0_0a p0_0k p0_0n (o_22.2) p0_0l), (oX9 (p0_0a 3) (st1 (st1 (st1 (st1 (st1 p0_0_2a 2 xp0_0_2_1_80) 3 xp0_0_2_2_80) 4 xp0_0_2_3_80) 5 xp0_0_2_4_80) 6 xp0_0_2_5_80) (st1 (st1 (st1 (st1 (st1 p0_0_2k 2 zp0_0_2_1_80) 3 zp0_0_2_2_80) 4 zp0_0_2_3_80) 5 zp0_0_2_4_80) 6 zp0_0_2_5_80) p0_0_2n_80 p0_0_2w_80)] : List va_W)) := vD_perm (vD_fb hD) (bP ((((((List.Perm.refl _)).cons _).trans (List.Perm.swap _ _ _))).trans ((((((List.Perm.refl _)).cons _).trans (List.Perm.swap _ _ _))).cons _)))
        have hK : va_K (dC, dI) cls (List.flatten ([(tX0 (st1 (st1 p0k 13 z4) 14 z10)), (tX2 p0_6k), (tX1 p0_0k), (tX9 (st1 (st1 (st1 (st1 (st1 p0_0_2k 2 zp0_0_2_1_80) 3 zp0_0_2_2_80) 4 zp0_0_2_3_80) 5 zp0_0_2_4_80) 6 zp0_0_2_5_80))] : List (List (ClassId × FieldType)))) s := vK_perm (vK_fb hK) (bP ((((((List.Perm.refl _)).cons _).trans (List.Perm.swap _ _ _))).trans ((((((List.Perm.refl _)).cons _).trans (List.Perm.swap _ _ _))).cons _)))
        obtain rfl : r23 = (o_22.1) := hw
        refine lv_istore (lv' := [(4, .int (o_22.1)), (0, .ref (p0a 0)), (1, .int (p0w 0 8)), (2, .int v2_80)]) hx hb dX0_putAway_99 hl (by decide) rfl (fun ls hl => ?_)
        obtain ⟨o101, hc101, hrun⟩ := bnd9 hrun
        have hgn_p0_0_2 : glX9 (o101.2.2.2) (o.2.2.2.2) := (glX9_tr (mo_fX0_putAway_G134_38 (mo_fX0_putAway_L80 n_80) hrun) hgo_p0_0_2)
        have L101 : ∀ (n_101 : Nat) (v4_101 : Int32) (p0w_101 : ST) (p0_0w_101 : ST) (p0_0_2w_101 : ST) (p0_0_2n_101 : Nat → Nat) (xp0_0_2_1_101 : Nat) (zp0_0_2_1_101 : ClassId) (xp0_0_2_2_101 : Nat) (zp0_0_2_2_101 : ClassId) (xp0_0_2_3_101 : Nat) (zp0_0_2_3_101 : ClassId) (xp0_0_2_4_101 : Nat) (zp0_0_2_4_101 : ClassId) (xp0_0_2_5_101 : Nat) (zp0_0_2_5_101 : ClassId) (o101 : ST × ST × ST × (Nat → Nat)) (H : Heap) (locs : List Loc) (ls : Array Slot), (fX0_putAway_L101 p0w n8 v2_80 n_101) v4_101 p0w_101 p0_0w_101 p0_0_2w_101 p0_0_2n_101 = some o101 → va_P (dC, dI) cls (List.flatten ([(oX0 (p0a 0) (st1 (st1 p0a 13 ra5) 14 ra11) (st1 (st1 p0k 13 z4) 14 z10) n8 p0w_101), (oX2 (p0a 7) p0_6a p0_6k p0_6n p0_6w p0_6l), (oX1 (p0a 1) p0_0a p0_0k p0_0n p0_0w_101 p0_0l), (oX9 (p0_0a 3) (st1 (st1 (st1 (st1 (st1 p0_0_2a 2 xp0_0_2_1_101) 3 xp0_0_2_2_101) 4 xp0_0_2_3_101) 5 xp0_0_2_4_101) 6 xp0_0_2_5_101) (st1 (st1 (st1 (st1 (st1 p0_0_2k 2 zp0_0_2_1_101) 3 zp0_0_2_2_101) 4 zp0_0_2_3_101) 5 zp0_0_2_4_101) 6 zp0_0_2_5_101) p0_0_2n_101 p0_0_2w_101)] : List va_W)) H → va_D A (List.flatten ([(oX0 (p0a 0) (st1 (st1 p0a 13 ra5) 14 ra11) (st1 (st1 p0k 13 z4) 14 z10) n8 p0w_101), (oX2 (p0a 7) p0_6a p0_6k p0_6n p0_6w p0_6l), (oX1 (p0a 1) p0_0a p0_0k p0_0n p0_0w_101 p0_0l), (oX9 (p0_0a 3) (st1 (st1 (st1 (st1 (st1 p0_0_2a 2 xp0_0_2_1_101) 3 xp0_0_2_2_101) 4 xp0_0_2_3_101) 5 xp0_0_2_4_101) 6 xp0_0_2_5_101) (st1 (st1 (st1 (st1 (st1 p0_0_2k 2 zp0_0_2_1_101) 3 zp0_0_2_2_101) 4 zp0_0_2_3_101) 5 zp0_0_2_4_101) 6 zp0_0_2_5_101) p0_0_2n_101 p0_0_2w_101)] : List va_W)) → va_K (dC, dI) cls (List.flatten ([(tX0 (st1 (st1 p0k 13 z4) 14 z10)), (tX2 p0_6k), (tX1 p0_0k), (tX9 (st1 (st1 (st1 (st1 (st1 p0_0_2k 2 zp0_0_2_1_101) 3 zp0_0_2_2_101) 4 zp0_0_2_3_101) 5 zp0_0_2_4_101) 6 zp0_0_2_5_101))] : List (List (ClassId × FieldType)))) s → va_S A s.heap H locs → lv_has ls 5 [(0, .ref (p0a 0)), (1, .int (p0w 0 8)), (2, .int v2_80), (4, .int v4_101)] → glX0 p0n n8 → glX9 p0_0_2n p0_0_2n_101 → glX9 (o101.2.2.2) (o.2.2.2.2) → (∀ (xp0_0_2_1_101x : Nat) (zp0_0_2_1_101x : ClassId) (xp0_0_2_2_101x : Nat) (zp0_0_2_2_101x : ClassId) (xp0_0_2_3_101x : Nat) (zp0_0_2_3_101x : ClassId) (xp0_0_2_4_101x : Nat) (zp0_0_2_4_101x : ClassId) (xp0_0_2_5_101x : Nat) (zp0_0_2_5_101x : ClassId) (H : Heap) (locs : List Loc) (ls : Array Slot), va_P (dC, dI) cls (List.flatten ([(oX0 (p0a 0) (st1 (st1 p0a 13 ra5) 14 ra11) (st1 (st1 p0k 13 z4) 14 z10) n8 (o101.1)), (oX2 (p0a 7) p0_6a p0_6k p0_6n p0_6w p0_6l), (oX1 (p0a 1) p0_0a p0_0k p0_0n (o101.2.1) p0_0l), (oX9 (p0_0a 3) (st1 (st1 (st1 (st1 (st1 p0_0_2a 2 xp0_0_2_1_101x) 3 xp0_0_2_2_101x) 4 xp0_0_2_3_101x) 5 xp0_0_2_4_101x) 6 xp0_0_2_5_101x) (st1 (st1 (st1 (st1 (st1 p0_0_2k 2 zp0_0_2_1_101x) 3 zp0_0_2_2_101x) 4 zp0_0_2_3_101x) 5 zp0_0_2_4_101x) 6 zp0_0_2_5_101x) (o101.2.2.2) (o101.2.2.1))] : List va_W)) H → va_D A (List.flatten ([(oX0 (p0a 0) (st1 (st1 p0a 13 ra5) 14 ra11) (st1 (st1 p0k 13 z4) 14 z10) n8 (o101.1)), (oX2 (p0a 7) p0_6a p0_6k p0_6n p0_6w p0_6l), (oX1 (p0a 1) p0_0a p0_0k p0_0n (o101.2.1) p0_0l), (oX9 (p0_0a 3) (st1 (st1 (st1 (st1 (st1 p0_0_2a 2 xp0_0_2_1_101x) 3 xp0_0_2_2_101x) 4 xp0_0_2_3_101x) 5 xp0_0_2_4_101x) 6 xp0_0_2_5_101x) (st1 (st1 (st1 (st1 (st1 p0_0_2k 2 zp0_0_2_1_101x) 3 zp0_0_2_2_101x) 4 zp0_0_2_3_101x) 5 zp0_0_2_4_101x) 6 zp0_0_2_5_101x) (o101.2.2.2) (o101.2.2.1))] : List va_W)) → va_K (dC, dI) cls (List.flatten ([(tX0 (st1 (st1 p0k 13 z4) 14 z10)), (tX2 p0_6k), (tX1 p0_0k), (tX9 (st1 (st1 (st1 (st1 (st1 p0_0_2k 2 zp0_0_2_1_101x) 3 zp0_0_2_2_101x) 4 zp0_0_2_3_101x) 5 zp0_0_2_4_101x) 6 zp0_0_2_5_101x))] : List (List (ClassId × FieldType)))) s → va_S A s.heap H locs → lv_has ls 5 [(0, .ref (p0a 0)), (1, .int (p0w 0 8)), (2, .int v2_80)] → glX0 p0n n8 → glX9 p0_0_2n (o101.2.2.2) → W p l e ({ frames := 6, cells := (hcX0 p0n (o.2.1) + hcX9 p0_0_2n (o.2.2.2.2)), slots := (3 * (gcX0 p0n (o.2.1) + gcX9 p0_0_2n (o.2.2.2.2))), locals := 163 } : Room) s m ([.ref (p0a 0)] : List Value).toArray below meth c H locs (hcX0 p0n n8 + hcX9 p0_0_2n (o101.2.2.2)) (3 * (gcX0 p0n n8 + gcX9 p0_0_2n (o101.2.2.2))) Q (F0 m 134 ls [])) → W p l e ({ frames := 6, cells := (hcX0 p0n (o.2.1) + hcX9 p0_0_2n (o.2.2.2.2)), slots := (3 * (gcX0 p0n (o.2.1) + gcX9 p0_0_2n (o.2.2.2.2))), locals := 163 } : Room) s m ([.ref (p0a 0)] : List Value).toArray below meth c H locs (hcX0 p0n n8 + hcX9 p0_0_2n p0_0_2n_101) (3 * (gcX0 p0n n8 + gcX9 p0_0_2n p0_0_2n_101)) Q (F0 m 101 ls []) := by
          intro n_101
          induction n_101 with
          | zero => intro v4_101 p0w_101 p0_0w_101 p0_0_2w_101 p0_0_2n_101 xp0_0_2_1_101 zp0_0_2_1_101 xp0_0_2_2_101 zp0_0_2_2_101 xp0_0_2_3_101 zp0_0_2_3_101 xp0_0_2_4_101 zp0_0_2_4_101 xp0_0_2_5_101 zp0_0_2_5_101 o101 H locs ls hrun; exact (no9 rfl hrun).elim
          | succ n_101 IH101 =>
            intro v4_101 p0w_101 p0_0w_101 p0_0_2w_101 p0_0_2n_101 xp0_0_2_1_101 zp0_0_2_1_101 xp0_0_2_2_101 zp0_0_2_2_101 xp0_0_2_3_101 zp0_0_2_3_101 xp0_0_2_4_101 zp0_0_2_4_101 xp0_0_2_5_101 zp0_0_2_5_101 o101 H locs ls hrun hP hD hK hS hl hg_p0 hg_p0_0_2 hgo_p0_0_2 hk101
            have hgn_p0_0_2 : glX9 p0_0_2n_101 (o.2.2.2.2) := (glX9_tr (mo_fX0_putAway_L101 (n_101 + 1) _ _ _ _ _ _ hrun) hgo_p0_0_2)
            unfold fX0_putAway_L101 at hrun
            refine lv_iload hx hb dX0_putAway_101 (lv_at hl 3 rfl) ?_
            rcases br9 hrun with ⟨hc24, hrun⟩ | ⟨hc24, hrun⟩
            · refine lv_if_lt (tgt := 134) hx hb dX0_putAway_103 (by decide) (fun _ => ?_) (fun c => absurd hc24 c)
              obtain rfl := (Option.some.inj hrun)
              exact hk101 xp0_0_2_1_101 zp0_0_2_1_101 xp0_0_2_2_101 zp0_0_2_2_101 xp0_0_2_3_101 zp0_0_2_3_101 xp0_0_2_4_101 zp0_0_2_4_101 xp0_0_2_5_101 zp0_0_2_5_101 _ _ _ hP hD hK hS (lv_sub hl [0, 1, 2] rfl) hg_p0 hg_p0_0_2
            · refine lv_if_lt (tgt := 134) hx hb dX0_putAway_103 (by decide) (fun c => absurd c hc24) (fun _ => ?_)
              refine lv_aload_n hx hb dX0_putAway_106 rfl (lv_at hl 0 rfl) ?_
              refine va_get (D := (dC, dI)) (ci := 8) (v := .ref (p0a 1)) (C := RX0) (T := TX0) (N := 17) hx hb hts i_X0 hown hK hP 0 rfl rfl 0 (by decide) (hts _ qw618) (fun _ h9 => h9) rfl dX0_putAway_107 ?_
              refine va_get (D := (dC, dI)) (ci := 4) (v := .ref (p0_0a 3)) (C := RX1) (T := TX1) (N := 21) hx hb hts i_X1 hown hK hP 25 rfl rfl 2 (by decide) (hts _ qw629) (fun _ h9 => h9) rfl dX0_putAway_110 ?_
              refine va_get (D := (dC, dI)) (ci := 3) (v := .ref xp0_0_2_5_101) (C := RX9) (T := TX9) (N := 6) hx hb hts i_X9 hown hK hP 43 rfl rfl 5 (by decide) (hts _ qw796) (fun _ h9 => h9) rfl dX0_putAway_113 ?_
              refine lv_iload hx hb dX0_putAway_116 (lv_at hl 3 rfl) ?_
              obtain ⟨hq25, hrun⟩ := chk9 hrun
              refine va_iald hx hb hK hP 48 44 rfl rfl (ixb_in hq25) dX0_putAway_118 ?_
              refine lv_istore_n (lv' := [(3, .int (p0_0_2w_101 6 (nn v4_101))), (0, .ref (p0a 0)), (1, .int (p0w 0 8)), (2, .int v2_80), (4, .int v4_101)]) hx hb dX0_putAway_119 rfl hl (by decide) rfl (fun ls hl => ?_)
              refine lv_aload_n hx hb dX0_putAway_120 rfl (lv_at hl 1 rfl) ?_
              refine lv_iload_n hx hb dX0_putAway_121 rfl (lv_at hl 3 rfl) ?_
              refine lv_iload hx hb dX0_putAway_122 (lv_at hl 4 rfl) ?_
              refine lv_iload_n hx hb dX0_putAway_124 rfl (lv_at hl 2 rfl) ?_
              obtain ⟨o_26, hc_26, hrun⟩ := bnd9 hrun
              have hPx : va_P (dC, dI) cls ((List.flatten ([(oX0 (p0a 0) (st1 (st1 p0a 13 ra5) 14 ra11) (st1 (st1 p0k 13 z4) 14 z10) n8 p0w_101), (oX1 (p0a 1) p0_0a p0_0k p0_0n p0_0w_101 p0_0l), (oX9 (p0_0a 3) (st1 (st1 (st1 (st1 (st1 p0_0_2a 2 xp0_0_2_1_101) 3 xp0_0_2_2_101) 4 xp0_0_2_3_101) 5 xp0_0_2_4_101) 6 xp0_0_2_5_101) (st1 (st1 (st1 (st1 (st1 p0_0_2k 2 zp0_0_2_1_101) 3 zp0_0_2_2_101) 4 zp0_0_2_3_101) 5 zp0_0_2_4_101) 6 zp0_0_2_5_101) p0_0_2n_101 p0_0_2w_101)] : List va_W)) ++ (List.flatten ([(oX2 (p0a 7) p0_6a p0_6k p0_6n p0_6w p0_6l)] : List va_W))) H := vP_fa (vP_perm hP (bP (((List.Perm.refl _)).trans ((((((((List.Perm.refl _)).cons _).trans (List.Perm.swap _ _ _))).trans ((((((List.Perm.refl _)).cons _).trans (List.Perm.swap _ _ _))).cons _))).cons _))))
              have hDx : va_D A ((List.flatten ([(oX0 (p0a 0) (st1 (st1 p0a 13 ra5) 14 ra11) (st1 (st1 p0k 13 z4) 14 z10) n8 p0w_101), (oX1 (p0a 1) p0_0a p0_0k p0_0n p0_0w_101 p0_0l), (oX9 (p0_0a 3) (st1 (st1 (st1 (st1 (st1 p0_0_2a 2 xp0_0_2_1_101) 3 xp0_0_2_2_101) 4 xp0_0_2_3_101) 5 xp0_0_2_4_101) 6 xp0_0_2_5_101) (st1 (st1 (st1 (st1 (st1 p0_0_2k 2 zp0_0_2_1_101) 3 zp0_0_2_2_101) 4 zp0_0_2_3_101) 5 zp0_0_2_4_101) 6 zp0_0_2_5_101) p0_0_2n_101 p0_0_2w_101)] : List va_W)) ++ (List.flatten ([(oX2 (p0a 7) p0_6a p0_6k p0_6n p0_6w p0_6l)] : List va_W))) := vD_fa (vD_perm hD (bP (((List.Perm.refl _)).trans ((((((((List.Perm.refl _)).cons _).trans (List.Perm.swap _ _ _))).trans ((((((List.Perm.refl _)).cons _).trans (List.Perm.swap _ _ _))).cons _))).cons _))))
              have hKx : va_K (dC, dI) cls ((List.flatten ([(tX0 (st1 (st1 p0k 13 z4) 14 z10)), (tX1 p0_0k), (tX9 (st1 (st1 (st1 (st1 (st1 p0_0_2k 2 zp0_0_2_1_101) 3 zp0_0_2_2_101) 4 zp0_0_2_3_101) 5 zp0_0_2_4_101) 6 zp0_0_2_5_101))] : List (List (ClassId × FieldType)))) ++ (List.flatten ([(tX2 p0_6k)] : List (List (ClassId × FieldType))))) s := vK_fa (vK_perm hK (bP (((List.Perm.refl _)).trans ((((((((List.Perm.refl _)).cons _).trans (List.Perm.swap _ _ _))).trans ((((((List.Perm.refl _)).cons _).trans (List.Perm.swap _ _ _))).cons _))).cons _))))
              have hPc := vP_l hPx
              have hDc := vD_l hDx
              have hKc := vK_l hKx
              have hFc := vfree hDx hS hA
              have hgn_p0_0_2 : glX9 (o_26.2.2.2) (o.2.2.2.2) := (glX9_tr (mo_fX0_putAway_G128_37 (mo_fX0_putAway_L101 n_101) hrun) hgo_p0_0_2)
              refine va_callv (va_runV (As := [.int v2_80, .int v4_101, .int (p0w 0 8)]) (rest := []) ⟨hx, hb, hml, hown, hts⟩ (kX0_putAwayIn l dC dI (p0a := (st0 (p0a 0) (st1 (st1 p0a 13 ra5) 14 ra11))) (p0k := (st1 (st1 p0k 13 z4) 14 z10)) (p0n := n8) (p0w := p0w_101) (p1 := v2_80) (p2 := v4_101) (p3 := (p0w 0 8)) (p0_0a := p0_0a) (p0_0k := p0_0k) (p0_0n := p0_0n) (p0_0w := p0_0w_101) (p0_0l := p0_0l) (p0_0_2a := (st1 (st1 (st1 (st1 (st1 p0_0_2a 2 xp0_0_2_1_101) 3 xp0_0_2_2_101) 4 xp0_0_2_3_101) 5 xp0_0_2_4_101) 6 xp0_0_2_5_101)) (p0_0_2k := (st1 (st1 (st1 (st1 (st1 p0_0_2k 2 zp0_0_2_1_101) 3 zp0_0_2_2_101) 4 zp0_0_2_3_101) 5 zp0_0_2_4_101) 6 zp0_0_2_5_101)) (p0_0_2n := p0_0_2n_101) (p0_0_2w := p0_0_2w_101) (sz := _) (o := o_26) (hrun := hc_26)) (cwV 3 hts (gi_V qw850 qw851 qw852 qw655 (gi_z qw849)) rfl rfl rfl (by decide +kernel) ⟨Nat.le_of_ble_eq_true rfl, Nat.le_of_ble_eq_true rfl⟩) ⟨PRE.blind, va_recv hKc hPc (ci := 8) (q0 := 0) rfl rfl, PRE.of hE hS hFc hPc hKc hDc⟩ rfl rfl hl.1 rfl (lv_room (Nat.le_of_ble_eq_true rfl)) dX0_putAway_125 ⟨(show (hcX0 p0n n8 + hcX9 p0_0_2n p0_0_2n_101) + (hcX9 p0_0_2n_101 (o_26.2.2.2)) ≤ (hcX0 p0n (o.2.1) + hcX9 p0_0_2n (o.2.2.2.2)) from by have q0 := gmX0 hg_p0 hgn_p0; have q1 := gsX9 hg_p0_0_2 (mo_fX0_putAwayIn hc_26) hgn_p0_0_2; omega), (show (3 * (gcX0 p0n n8 + gcX9 p0_0_2n p0_0_2n_101)) + (3 * (gcX9 p0_0_2n_101 (o_26.2.2.2))) ≤ (3 * (gcX0 p0n (o.2.1) + gcX9 p0_0_2n (o.2.2.2.2))) from by have q0 := gmX0 hg_p0 hgn_p0; have q1 := gsX9 hg_p0_0_2 (mo_fX0_putAwayIn hc_26) hgn_p0_0_2; omega)⟩) hS (fun q _ h => hFc q h) hFc (fun u t H locs ht hvm hw hB hz1 hk1 hS => ?_)
              obtain ⟨x27, z28, x29, z30, x31, z32, x33, z34, x35, z36, hB⟩ := hB
              obtain ⟨b1, b2, b3⟩ := hB
              rw [ht] at b1
              obtain ⟨hP, hD, hK⟩ := JOINC (wc := (List.flatten ([(oX0 (p0a 0) (st1 (st1 p0a 13 ra5) 14 ra11) (st1 (st1 p0k 13 z4) 14 z10) n8 p0w_101), (oX1 (p0a 1) p0_0a p0_0k p0_0n p0_0w_101 p0_0l), (oX9 (p0_0a 3) (st1 (st1 (st1 (st1 (st1 p0_0_2a 2 xp0_0_2_1_101) 3 xp0_0_2_2_101) 4 xp0_0_2_3_101) 5 xp0_0_2_4_101) 6 xp0_0_2_5_101) (st1 (st1 (st1 (st1 (st1 p0_0_2k 2 zp0_0_2_1_101) 3 zp0_0_2_2_101) 4 zp0_0_2_3_101) 5 zp0_0_2_4_101) 6 zp0_0_2_5_101) p0_0_2n_101 p0_0_2w_101)] : List va_W))) (wr := (List.flatten ([(oX2 (p0a 7) p0_6a p0_6k p0_6n p0_6w p0_6l)] : List va_W))) (w1 := (List.flatten ([(oX0 (p0a 0) (st1 (st1 p0a 13 ra5) 14 ra11) (st1 (st1 p0k 13 z4) 14 z10) n8 (o_26.1)), (oX1 (p0a 1) p0_0a p0_0k p0_0n (o_26.2.1) p0_0l), (oX9 (p0_0a 3) (st1 (st1 (st1 (st1 (st1 p0_0_2a 2 x27) 3 x29) 4 x31) 5 x33) 6 x35) (st1 (st1 (st1 (st1 (st1 p0_0_2k 2 z28) 3 z30) 4 z32) 5 z34) 6 z36) (o_26.2.2.2) (o_26.2.2.1))] : List va_W))) (t1 := (List.flatten ([(tX0 (st1 (st1 p0k 13 z4) 14 z10)), (tX1 p0_0k), (tX9 (st1 (st1 (st1 (st1 (st1 p0_0_2k 2 z28) 3 z30) 4 z32) 5 z34) 6 z36))] : List (List (ClassId × FieldType))))) hPx hDx hKx hk1 hFc b1 (va_K.moved hvm.symm b2) b3
              have hP : va_P (dC, dI) cls (List.flatten ([(oX0 (p0a 0) (st1 (st1 p0a 13 ra5) 14 ra11) (st1 (st1 p0k 13 z4) 14 z10) n8 (o_26.1)), (oX2 (p0a 7) p0_6a p0_6k p0_6n p0_6w p0_6l), (oX1 (p0a 1) p0_0a p0_0k p0_0n (o_26.2.1) p0_0l), (oX9 (p0_0a 3) (st1 (st1 (st1 (st1 (st1 p0_0_2a 2 x27) 3 x29) 4 x31) 5 x33) 6 x35) (st1 (st1 (st1 (st1 (st1 p0_0_2k 2 z28) 3 z30) 4 z32) 5 z34) 6 z36) (o_26.2.2.2) (o_26.2.2.1))] : List va_W)) H := vP_perm (vP_fb hP) (bP (((List.Perm.refl _)).trans (((((((((List.Perm.refl _)).cons _).trans (List.Perm.swap _ _ _))).cons _).trans (List.Perm.swap _ _ _))).cons _)))
              have hD : va_D A (List.flatten ([(oX0 (p0a 0) (st1 (st1 p0a 13 ra5) 14 ra11) (st1 (st1 p0k 13 z4) 14 z10) n8 (o_26.1)), (oX2 (p0a 7) p0_6a p0_6k p0_6n p0_6w p0_6l), (oX1 (p0a 1) p0_0a p0_0k p0_0n (o_26.2.1) p0_0l), (oX9 (p0_0a 3) (st1 (st1 (st1 (st1 (st1 p0_0_2a 2 x27) 3 x29) 4 x31) 5 x33) 6 x35) (st1 (st1 (st1 (st1 (st1 p0_0_2k 2 z28) 3 z30) 4 z32) 5 z34) 6 z36) (o_26.2.2.2) (o_26.2.2.1))] : List va_W)) := vD_perm (vD_fb hD) (bP (((List.Perm.refl _)).trans (((((((((List.Perm.refl _)).cons _).trans (List.Perm.swap _ _ _))).cons _).trans (List.Perm.swap _ _ _))).cons _)))
              have hK : va_K (dC, dI) cls (List.flatten ([(tX0 (st1 (st1 p0k 13 z4) 14 z10)), (tX2 p0_6k), (tX1 p0_0k), (tX9 (st1 (st1 (st1 (st1 (st1 p0_0_2k 2 z28) 3 z30) 4 z32) 5 z34) 6 z36))] : List (List (ClassId × FieldType)))) s := vK_perm (vK_fb hK) (bP (((List.Perm.refl _)).trans (((((((((List.Perm.refl _)).cons _).trans (List.Perm.swap _ _ _))).cons _).trans (List.Perm.swap _ _ _))).cons _)))
              refine W.widen (k := (hcX0 p0n n8 + hcX9 p0_0_2n (o_26.2.2.2))) (n := (3 * (gcX0 p0n n8 + gcX9 p0_0_2n (o_26.2.2.2)))) (by have a0 := gcX9_add hg_p0_0_2 (mo_fX0_putAwayIn hc_26); omega) (by have a0 := gcX9_add hg_p0_0_2 (mo_fX0_putAwayIn hc_26); omega) ?_
              have hg_p0_0_2 : glX9 p0_0_2n (o_26.2.2.2) := glX9_tr hg_p0_0_2 (mo_fX0_putAwayIn hc_26)
              unfold fX0_putAway_G128_37 at hrun
              refine lv_iload_n hx hb dX0_putAway_128 rfl (lv_at hl 0 rfl) ?_
              refine lv_istore (lv' := [(4, .int (p0_0_2w_101 6 (nn v4_101))), (3, .int (p0_0_2w_101 6 (nn v4_101))), (0, .ref (p0a 0)), (1, .int (p0w 0 8)), (2, .int v2_80)]) hx hb dX0_putAway_129 hl (by decide) rfl (fun ls hl => ?_)
              refine lv_goto (tgt := 101) hx hb dX0_putAway_131 (by decide) ?_
              exact IH101 (p0_0_2w_101 6 (nn v4_101)) (o_26.1) (o_26.2.1) (o_26.2.2.1) (o_26.2.2.2) x27 z28 x29 z30 x31 z32 x33 z34 x35 z36 o101 _ _ _ hrun hP hD hK hS (lv_sub hl [2, 3, 4, 0] rfl) hg_p0 hg_p0_0_2 hgo_p0_0_2 hk101
        refine L101 NF (o_22.1) p0w_80 (o_22.2) p0_0_2w_80 p0_0_2n_80 xp0_0_2_1_80 zp0_0_2_1_80 xp0_0_2_2_80 zp0_0_2_2_80 xp0_0_2_3_80 zp0_0_2_3_80 xp0_0_2_4_80 zp0_0_2_4_80 xp0_0_2_5_80 zp0_0_2_5_80 o101 _ _ _ hc101 hP hD hK hS (lv_sub hl [1, 2, 3, 0] rfl) hg_p0 hg_p0_0_2 hgn_p0_0_2 ?_
        intro xp0_0_2_1_101x zp0_0_2_1_101x xp0_0_2_2_101x zp0_0_2_2_101x xp0_0_2_3_101x zp0_0_2_3_101x xp0_0_2_4_101x zp0_0_2_4_101x xp0_0_2_5_101x zp0_0_2_5_101x H locs ls hP hD hK hS hl hg_p0 hg_p0_0_2
        have hl := hl
        unfold fX0_putAway_G134_38 at hrun
        refine lv_aload_n hx hb dX0_putAway_134 rfl (lv_at hl 0 rfl) ?_
        refine va_get (D := (dC, dI)) (ci := 8) (v := .ref (p0a 1)) (C := RX0) (T := TX0) (N := 17) hx hb hts i_X0 hown hK hP 0 rfl rfl 0 (by decide) (hts _ qw618) (fun _ h9 => h9) rfl dX0_putAway_135 ?_
        refine va_get (D := (dC, dI)) (ci := 4) (v := .ref (p0_0a 9)) (C := RX1) (T := TX1) (N := 21) hx hb hts i_X1 hown hK hP 25 rfl rfl 8 (by decide) (hts _ qw802) (fun _ h9 => h9) rfl dX0_putAway_138 ?_
        refine lv_iload_n hx hb dX0_putAway_141 rfl (lv_at hl 2 rfl) ?_
        obtain ⟨hq39, hrun⟩ := chk9 hrun
        refine va_iald hx hb hK hP 31 28 rfl rfl (ixb_in hq39) dX0_putAway_142 ?_
        refine lv_istore (lv' := [(4, .int (((o101.2.1) 9) (nn v2_80))), (0, .ref (p0a 0)), (1, .int (p0w 0 8)), (2, .int v2_80)]) hx hb dX0_putAway_143 hl (by decide) rfl (fun ls hl => ?_)
        refine lv_iload hx hb dX0_putAway_145 (lv_at hl 0 rfl) ?_
        have J177 : ∀ (p0w_177 : ST) (p0_0w_177 : ST) (p0_0_2w_177 : ST) (p0_0_2n_177 : Nat → Nat) (xp0_0_2_1_177 : Nat) (zp0_0_2_1_177 : ClassId) (xp0_0_2_2_177 : Nat) (zp0_0_2_2_177 : ClassId) (xp0_0_2_3_177 : Nat) (zp0_0_2_3_177 : ClassId) (xp0_0_2_4_177 : Nat) (zp0_0_2_4_177 : ClassId) (xp0_0_2_5_177 : Nat) (zp0_0_2_5_177 : ClassId) (H : Heap) (locs : List Loc) (ls : Array Slot), (fX0_putAway_J177 (fX0_putAway_L80 p0w n8 n_80) v2_80 p0w_177 p0_0w_177 p0_0_2w_177 p0_0_2n_177) = some o80 → va_P (dC, dI) cls (List.flatten ([(oX0 (p0a 0) (st1 (st1 p0a 13 ra5) 14 ra11) (st1 (st1 p0k 13 z4) 14 z10) n8 p0w_177), (oX2 (p0a 7) p0_6a p0_6k p0_6n p0_6w p0_6l), (oX1 (p0a 1) p0_0a p0_0k p0_0n p0_0w_177 p0_0l), (oX9 (p0_0a 3) (st1 (st1 (st1 (st1 (st1 p0_0_2a 2 xp0_0_2_1_177) 3 xp0_0_2_2_177) 4 xp0_0_2_3_177) 5 xp0_0_2_4_177) 6 xp0_0_2_5_177) (st1 (st1 (st1 (st1 (st1 p0_0_2k 2 zp0_0_2_1_177) 3 zp0_0_2_2_177) 4 zp0_0_2_3_177) 5 zp0_0_2_4_177) 6 zp0_0_2_5_177) p0_0_2n_177 p0_0_2w_177)] : List va_W)) H → va_D A (List.flatten ([(oX0 (p0a 0) (st1 (st1 p0a 13 ra5) 14 ra11) (st1 (st1 p0k 13 z4) 14 z10) n8 p0w_177), (oX2 (p0a 7) p0_6a p0_6k p0_6n p0_6w p0_6l), (oX1 (p0a 1) p0_0a p0_0k p0_0n p0_0w_177 p0_0l), (oX9 (p0_0a 3) (st1 (st1 (st1 (st1 (st1 p0_0_2a 2 xp0_0_2_1_177) 3 xp0_0_2_2_177) 4 xp0_0_2_3_177) 5 xp0_0_2_4_177) 6 xp0_0_2_5_177) (st1 (st1 (st1 (st1 (st1 p0_0_2k 2 zp0_0_2_1_177) 3 zp0_0_2_2_177) 4 zp0_0_2_3_177) 5 zp0_0_2_4_177) 6 zp0_0_2_5_177) p0_0_2n_177 p0_0_2w_177)] : List va_W)) → va_K (dC, dI) cls (List.flatten ([(tX0 (st1 (st1 p0k 13 z4) 14 z10)), (tX2 p0_6k), (tX1 p0_0k), (tX9 (st1 (st1 (st1 (st1 (st1 p0_0_2k 2 zp0_0_2_1_177) 3 zp0_0_2_2_177) 4 zp0_0_2_3_177) 5 zp0_0_2_4_177) 6 zp0_0_2_5_177))] : List (List (ClassId × FieldType)))) s → va_S A s.heap H locs → lv_has ls 5 [(0, .ref (p0a 0)), (1, .int (p0w 0 8)), (2, .int v2_80)] → glX0 p0n n8 → glX9 p0_0_2n p0_0_2n_177 → W p l e ({ frames := 6, cells := (hcX0 p0n (o.2.1) + hcX9 p0_0_2n (o.2.2.2.2)), slots := (3 * (gcX0 p0n (o.2.1) + gcX9 p0_0_2n (o.2.2.2.2))), locals := 163 } : Room) s m ([.ref (p0a 0)] : List Value).toArray below meth c H locs (hcX0 p0n n8 + hcX9 p0_0_2n p0_0_2n_177) (3 * (gcX0 p0n n8 + gcX9 p0_0_2n p0_0_2n_177)) Q (F0 m 177 ls []) := by
          intro p0w_177 p0_0w_177 p0_0_2w_177 p0_0_2n_177 xp0_0_2_1_177 zp0_0_2_1_177 xp0_0_2_2_177 zp0_0_2_2_177 xp0_0_2_3_177 zp0_0_2_3_177 xp0_0_2_4_177 zp0_0_2_4_177 xp0_0_2_5_177 zp0_0_2_5_177 H locs ls hrun hP hD hK hS hl hg_p0 hg_p0_0_2 
          have hgn_p0_0_2 : glX9 p0_0_2n_177 (o.2.2.2.2) := (glX9_tr (mo_fX0_putAway_J177 (mo_fX0_putAway_L80 n_80) hrun) hgo_p0_0_2)
          unfold fX0_putAway_J177 at hrun
          refine lv_iinc (v := (v2_80 + 1)) (lv' := [(2, .int (v2_80 + 1)), (0, .ref (p0a 0)), (1, .int (p0w 0 8))]) hx hb dX0_putAway_177 hl (k := 2) rfl rfl (by decide) rfl (fun ls hl => ?_)
          refine lv_goto (tgt := 80) hx hb dX0_putAway_180 (by decide) ?_
          exact IH80 (v2_80 + 1) p0w_177 p0_0w_177 p0_0_2w_177 p0_0_2n_177 xp0_0_2_1_177 zp0_0_2_1_177 xp0_0_2_2_177 zp0_0_2_2_177 xp0_0_2_3_177 zp0_0_2_3_177 xp0_0_2_4_177 zp0_0_2_4_177 xp0_0_2_5_177 zp0_0_2_5_177 o80 _ _ _ hrun hP hD hK hS (lv_sub hl [1, 2, 0] rfl) hg_p0 hg_p0_0_2 hgo_p0_0_2 hk80
        rcases br9 hrun with ⟨hc40, hrun⟩ | ⟨hc40, hrun⟩
        · refine lv_if_lt (tgt := 177) hx hb dX0_putAway_147 (by decide) (fun _ => ?_) (fun c => absurd hc40 c)
          exact J177 (o101.1) (o101.2.1) (o101.2.2.1) (o101.2.2.2) xp0_0_2_1_101x zp0_0_2_1_101x xp0_0_2_2_101x zp0_0_2_2_101x xp0_0_2_3_101x zp0_0_2_3_101x xp0_0_2_4_101x zp0_0_2_4_101x xp0_0_2_5_101x zp0_0_2_5_101x _ _ _ hrun hP hD hK hS (lv_sub hl [1, 2, 3] rfl) hg_p0 hg_p0_0_2
        · refine lv_if_lt (tgt := 177) hx hb dX0_putAway_147 (by decide) (fun c => absurd c hc40) (fun _ => ?_)
          refine lv_aload_n hx hb dX0_putAway_150 rfl (lv_at hl 1 rfl) ?_
          refine va_get (D := (dC, dI)) (ci := 8) (v := .ref ra5) (C := RX0) (T := TX0) (N := 17) hx hb hts i_X0 hown hK hP 0 rfl rfl 12 (by decide) (hts _ qw622) (fun _ h9 => h9) rfl dX0_putAway_151 ?_
          refine lv_iload hx hb dX0_putAway_154 (lv_at hl 0 rfl) ?_
          obtain ⟨hq41, hrun⟩ := chk9 hrun
          refine va_iald hx hb hK hP 4 3 rfl rfl (ixb_in hq41) dX0_putAway_156 ?_
          refine lv_iconst (v := (-1)) hx hb dX0_putAway_157 (by decide) ?_
          rcases br9 hrun with ⟨hc42, hrun⟩ | ⟨hc42, hrun⟩
          · refine lv_icmp_eq (tgt := 177) hx hb dX0_putAway_158 (by decide) (fun _ => ?_) (fun c => absurd hc42 c)
            exact J177 (o101.1) (o101.2.1) (o101.2.2.1) (o101.2.2.2) xp0_0_2_1_101x zp0_0_2_1_101x xp0_0_2_2_101x zp0_0_2_2_101x xp0_0_2_3_101x zp0_0_2_3_101x xp0_0_2_4_101x zp0_0_2_4_101x xp0_0_2_5_101x zp0_0_2_5_101x _ _ _ hrun hP hD hK hS (lv_sub hl [1, 2, 3] rfl) hg_p0 hg_p0_0_2
          · refine lv_icmp_eq (tgt := 177) hx hb dX0_putAway_158 (by decide) (fun c => absurd c hc42) (fun _ => ?_)
            refine lv_aload_n hx hb dX0_putAway_161 rfl (lv_at hl 1 rfl) ?_
            refine va_get (D := (dC, dI)) (ci := 8) (v := .ref (p0a 1)) (C := RX0) (T := TX0) (N := 17) hx hb hts i_X0 hown hK hP 0 rfl rfl 0 (by decide) (hts _ qw618) (fun _ h9 => h9) rfl dX0_putAway_162 ?_
            refine va_get (D := (dC, dI)) (ci := 4) (v := .ref (p0_0a 9)) (C := RX1) (T := TX1) (N := 21) hx hb hts i_X1 hown hK hP 25 rfl rfl 8 (by decide) (hts _ qw802) (fun _ h9 => h9) rfl dX0_putAway_165 ?_
            refine lv_iload_n hx hb dX0_putAway_168 rfl (lv_at hl 3 rfl) ?_
            refine lv_aload_n hx hb dX0_putAway_169 rfl (lv_at hl 1 rfl) ?_
            refine lv_iload_n hx hb dX0_putAway_170 rfl (lv_at hl 3 rfl) ?_
            refine lv_iload hx hb dX0_putAway_171 (lv_at hl 0 rfl) ?_
            obtain ⟨o_43, hc_43, hrun⟩ := bnd9 hrun
            have hPx : va_P (dC, dI) cls ((List.flatten ([(oX0 (p0a 0) (st1 (st1 p0a 13 ra5) 14 ra11) (st1 (st1 p0k 13 z4) 14 z10) n8 (o101.1)), (oX1 (p0a 1) p0_0a p0_0k p0_0n (o101.2.1) p0_0l), (oX9 (p0_0a 3) (st1 (st1 (st1 (st1 (st1 p0_0_2a 2 xp0_0_2_1_101x) 3 xp0_0_2_2_101x) 4 xp0_0_2_3_101x) 5 xp0_0_2_4_101x) 6 xp0_0_2_5_101x) (st1 (st1 (st1 (st1 (st1 p0_0_2k 2 zp0_0_2_1_101x) 3 zp0_0_2_2_101x) 4 zp0_0_2_3_101x) 5 zp0_0_2_4_101x) 6 zp0_0_2_5_101x) (o101.2.2.2) (o101.2.2.1))] : List va_W)) ++ (List.flatten ([(oX2 (p0a 7) p0_6a p0_6k p0_6n p0_6w p0_6l)] : List va_W))) H := vP_fa (vP_perm hP (bP (((List.Perm.refl _)).trans ((((((((List.Perm.refl _)).cons _).trans (List.Perm.swap _ _ _))).trans ((((((List.Perm.refl _)).cons _).trans (List.Perm.swap _ _ _))).cons _))).cons _))))
            have hDx : va_D A ((List.flatten ([(oX0 (p0a 0) (st1 (st1 p0a 13 ra5) 14 ra11) (st1 (st1 p0k 13 z4) 14 z10) n8 (o101.1)), (oX1 (p0a 1) p0_0a p0_0k p0_0n (o101.2.1) p0_0l), (oX9 (p0_0a 3) (st1 (st1 (st1 (st1 (st1 p0_0_2a 2 xp0_0_2_1_101x) 3 xp0_0_2_2_101x) 4 xp0_0_2_3_101x) 5 xp0_0_2_4_101x) 6 xp0_0_2_5_101x) (st1 (st1 (st1 (st1 (st1 p0_0_2k 2 zp0_0_2_1_101x) 3 zp0_0_2_2_101x) 4 zp0_0_2_3_101x) 5 zp0_0_2_4_101x) 6 zp0_0_2_5_101x) (o101.2.2.2) (o101.2.2.1))] : List va_W)) ++ (List.flatten ([(oX2 (p0a 7) p0_6a p0_6k p0_6n p0_6w p0_6l)] : List va_W))) := vD_fa (vD_perm hD (bP (((List.Perm.refl _)).trans ((((((((List.Perm.refl _)).cons _).trans (List.Perm.swap _ _ _))).trans ((((((List.Perm.refl _)).cons _).trans (List.Perm.swap _ _ _))).cons _))).cons _))))
            have hKx : va_K (dC, dI) cls ((List.flatten ([(tX0 (st1 (st1 p0k 13 z4) 14 z10)), (tX1 p0_0k), (tX9 (st1 (st1 (st1 (st1 (st1 p0_0_2k 2 zp0_0_2_1_101x) 3 zp0_0_2_2_101x) 4 zp0_0_2_3_101x) 5 zp0_0_2_4_101x) 6 zp0_0_2_5_101x))] : List (List (ClassId × FieldType)))) ++ (List.flatten ([(tX2 p0_6k)] : List (List (ClassId × FieldType))))) s := vK_fa (vK_perm hK (bP (((List.Perm.refl _)).trans ((((((((List.Perm.refl _)).cons _).trans (List.Perm.swap _ _ _))).trans ((((((List.Perm.refl _)).cons _).trans (List.Perm.swap _ _ _))).cons _))).cons _))))
            have hPc := vP_l hPx
            have hDc := vD_l hDx
            have hKc := vK_l hKx
            have hFc := vfree hDx hS hA
            have hgn_p0_0_2 : glX9 (o_43.2.2.2.2) (o.2.2.2.2) := (glX9_tr (mo_fX0_putAway_G176_55 (mo_fX0_putAway_L80 n_80) hrun) hgo_p0_0_2)
            refine va_calli (va_runV (As := [.int v2_80, .int (((o101.2.1) 9) (nn v2_80))]) (rest := [.int v2_80, .ref (p0_0a 9)]) ⟨hx, hb, hml, hown, hts⟩ (kX0_fetch l dC dI (p0a := (st0 (p0a 0) (st1 (st1 p0a 13 ra5) 14 ra11))) (p0k := (st1 (st1 p0k 13 z4) 14 z10)) (p0n := n8) (p0w := (o101.1)) (p1 := v2_80) (p2 := (((o101.2.1) 9) (nn v2_80))) (p0_0a := p0_0a) (p0_0k := p0_0k) (p0_0n := p0_0n) (p0_0w := (o101.2.1)) (p0_0l := p0_0l) (p0_0_2a := (st1 (st1 (st1 (st1 (st1 p0_0_2a 2 xp0_0_2_1_101x) 3 xp0_0_2_2_101x) 4 xp0_0_2_3_101x) 5 xp0_0_2_4_101x) 6 xp0_0_2_5_101x)) (p0_0_2k := (st1 (st1 (st1 (st1 (st1 p0_0_2k 2 zp0_0_2_1_101x) 3 zp0_0_2_2_101x) 4 zp0_0_2_3_101x) 5 zp0_0_2_4_101x) 6 zp0_0_2_5_101x)) (p0_0_2n := (o101.2.2.2)) (p0_0_2w := (o101.2.2.1)) (sz := _) (o := o_43) (hrun := hc_43)) (cwV 2 hts (gi_V qw846 qw847 qw848 qw655 (gi_z qw845)) rfl rfl rfl (by decide +kernel) ⟨Nat.le_of_ble_eq_true rfl, Nat.le_of_ble_eq_true rfl⟩) ⟨PRE.blind, va_recv hKc hPc (ci := 8) (q0 := 0) rfl rfl, PRE.of hE hS hFc hPc hKc hDc⟩ rfl rfl hl.1 rfl (lv_room (Nat.le_of_ble_eq_true rfl)) dX0_putAway_173 ⟨(show (hcX0 p0n n8 + hcX9 p0_0_2n (o101.2.2.2)) + (hcX9 (o101.2.2.2) (o_43.2.2.2.2)) ≤ (hcX0 p0n (o.2.1) + hcX9 p0_0_2n (o.2.2.2.2)) from by have q0 := gmX0 hg_p0 hgn_p0; have q1 := gsX9 hg_p0_0_2 (mo_fX0_fetch hc_43) hgn_p0_0_2; omega), (show (3 * (gcX0 p0n n8 + gcX9 p0_0_2n (o101.2.2.2))) + (3 * (gcX9 (o101.2.2.2) (o_43.2.2.2.2))) ≤ (3 * (gcX0 p0n (o.2.1) + gcX9 p0_0_2n (o.2.2.2.2))) from by have q0 := gmX0 hg_p0 hgn_p0; have q1 := gsX9 hg_p0_0_2 (mo_fX0_fetch hc_43) hgn_p0_0_2; omega)⟩) hS (fun q _ h => hFc q h) hFc (fun r44 u t H locs ht hvm hw hB hz1 hk1 hS => ?_)
            obtain ⟨x45, z46, x47, z48, x49, z50, x51, z52, x53, z54, hB⟩ := hB
            obtain ⟨b1, b2, b3⟩ := hB
            rw [ht] at b1
            obtain ⟨hP, hD, hK⟩ := JOINC (wc := (List.flatten ([(oX0 (p0a 0) (st1 (st1 p0a 13 ra5) 14 ra11) (st1 (st1 p0k 13 z4) 14 z10) n8 (o101.1)), (oX1 (p0a 1) p0_0a p0_0k p0_0n (o101.2.1) p0_0l), (oX9 (p0_0a 3) (st1 (st1 (st1 (st1 (st1 p0_0_2a 2 xp0_0_2_1_101x) 3 xp0_0_2_2_101x) 4 xp0_0_2_3_101x) 5 xp0_0_2_4_101x) 6 xp0_0_2_5_101x) (st1 (st1 (st1 (st1 (st1 p0_0_2k 2 zp0_0_2_1_101x) 3 zp0_0_2_2_101x) 4 zp0_0_2_3_101x) 5 zp0_0_2_4_101x) 6 zp0_0_2_5_101x) (o101.2.2.2) (o101.2.2.1))] : List va_W))) (wr := (List.flatten ([(oX2 (p0a 7) p0_6a p0_6k p0_6n p0_6w p0_6l)] : List va_W))) (w1 := (List.flatten ([(oX0 (p0a 0) (st1 (st1 p0a 13 ra5) 14 ra11) (st1 (st1 p0k 13 z4) 14 z10) n8 (o_43.2.1)), (oX1 (p0a 1) p0_0a p0_0k p0_0n (o_43.2.2.1) p0_0l), (oX9 (p0_0a 3) (st1 (st1 (st1 (st1 (st1 p0_0_2a 2 x45) 3 x47) 4 x49) 5 x51) 6 x53) (st1 (st1 (st1 (st1 (st1 p0_0_2k 2 z46) 3 z48) 4 z50) 5 z52) 6 z54) (o_43.2.2.2.2) (o_43.2.2.2.1))] : List va_W))) (t1 := (List.flatten ([(tX0 (st1 (st1 p0k 13 z4) 14 z10)), (tX1 p0_0k), (tX9 (st1 (st1 (st1 (st1 (st1 p0_0_2k 2 z46) 3 z48) 4 z50) 5 z52) 6 z54))] : List (List (ClassId × FieldType))))) hPx hDx hKx hk1 hFc b1 (va_K.moved hvm.symm b2) b3
            have hP : va_P (dC, dI) cls (List.flatten ([(oX0 (p0a 0) (st1 (st1 p0a 13 ra5) 14 ra11) (st1 (st1 p0k 13 z4) 14 z10) n8 (o_43.2.1)), (oX2 (p0a 7) p0_6a p0_6k p0_6n p0_6w p0_6l), (oX1 (p0a 1) p0_0a p0_0k p0_0n (o_43.2.2.1) p0_0l), (oX9 (p0_0a 3) (st1 (st1 (st1 (st1 (st1 p0_0_2a 2 x45) 3 x47) 4 x49) 5 x51) 6 x53) (st1 (st1 (st1 (st1 (st1 p0_0_2k 2 z46) 3 z48) 4 z50) 5 z52) 6 z54) (o_43.2.2.2.2) (o_43.2.2.2.1))] : List va_W)) H := vP_perm (vP_fb hP) (bP (((List.Perm.refl _)).trans (((((((((List.Perm.refl _)).cons _).trans (List.Perm.swap _ _ _))).cons _).trans (List.Perm.swap _ _ _))).cons _)))
            have hD : va_D A (List.flatten ([(oX0 (p0a 0) (st1 (st1 p0a 13 ra5) 14 ra11) (st1 (st1 p0k 13 z4) 14 z10) n8 (o_43.2.1)), (oX2 (p0a 7) p0_6a p0_6k p0_6n p0_6w p0_6l), (oX1 (p0a 1) p0_0a p0_0k p0_0n (o_43.2.2.1) p0_0l), (oX9 (p0_0a 3) (st1 (st1 (st1 (st1 (st1 p0_0_2a 2 x45) 3 x47) 4 x49) 5 x51) 6 x53) (st1 (st1 (st1 (st1 (st1 p0_0_2k 2 z46) 3 z48) 4 z50) 5 z52) 6 z54) (o_43.2.2.2.2) (o_43.2.2.2.1))] : List va_W)) := vD_perm (vD_fb hD) (bP (((List.Perm.refl _)).trans (((((((((List.Perm.refl _)).cons _).trans (List.Perm.swap _ _ _))).cons _).trans (List.Perm.swap _ _ _))).cons _)))
            have hK : va_K (dC, dI) cls (List.flatten ([(tX0 (st1 (st1 p0k 13 z4) 14 z10)), (tX2 p0_6k), (tX1 p0_0k), (tX9 (st1 (st1 (st1 (st1 (st1 p0_0_2k 2 z46) 3 z48) 4 z50) 5 z52) 6 z54))] : List (List (ClassId × FieldType)))) s := vK_perm (vK_fb hK) (bP (((List.Perm.refl _)).trans (((((((((List.Perm.refl _)).cons _).trans (List.Perm.swap _ _ _))).cons _).trans (List.Perm.swap _ _ _))).cons _)))
            obtain rfl : r44 = (o_43.1) := hw
            refine W.widen (k := (hcX0 p0n n8 + hcX9 p0_0_2n (o_43.2.2.2.2))) (n := (3 * (gcX0 p0n n8 + gcX9 p0_0_2n (o_43.2.2.2.2)))) (by have a0 := gcX9_add hg_p0_0_2 (mo_fX0_fetch hc_43); omega) (by have a0 := gcX9_add hg_p0_0_2 (mo_fX0_fetch hc_43); omega) ?_
            have hg_p0_0_2 : glX9 p0_0_2n (o_43.2.2.2.2) := glX9_tr hg_p0_0_2 (mo_fX0_fetch hc_43)
            unfold fX0_putAway_G176_55 at hrun
            obtain ⟨hq56, hrun⟩ := chk9 hrun
            refine va_iast hx hb hK hP hD hS 31 28 rfl rfl (ixb_in hq56) dX0_putAway_176 (fun H locs hP hD hS => ?_)
            have hP : va_P (dC, dI) cls (List.flatten ([(oX0 (p0a 0) (st1 (st1 p0a 13 ra5) 14 ra11) (st1 (st1 p0k 13 z4) 14 z10) n8 (o_43.2.1)), (oX2 (p0a 7) p0_6a p0_6k p0_6n p0_6w p0_6l), (oX1 (p0a 1) p0_0a p0_0k p0_0n (upw (o_43.2.2.1) 9 (nn v2_80) (o_43.1)) p0_0l), (oX9 (p0_0a 3) (st1 (st1 (st1 (st1 (st1 p0_0_2a 2 x45) 3 x47) 4 x49) 5 x51) 6 x53) (st1 (st1 (st1 (st1 (st1 p0_0_2k 2 z46) 3 z48) 4 z50) 5 z52) 6 z54) (o_43.2.2.2.2) (o_43.2.2.2.1))] : List va_W)) H := hP
            have hD : va_D A (List.flatten ([(oX0 (p0a 0) (st1 (st1 p0a 13 ra5) 14 ra11) (st1 (st1 p0k 13 z4) 14 z10) n8 (o_43.2.1)), (oX2 (p0a 7) p0_6a p0_6k p0_6n p0_6w p0_6l), (oX1 (p0a 1) p0_0a p0_0k p0_0n (upw (o_43.2.2.1) 9 (nn v2_80) (o_43.1)) p0_0l), (oX9 (p0_0a 3) (st1 (st1 (st1 (st1 (st1 p0_0_2a 2 x45) 3 x47) 4 x49) 5 x51) 6 x53) (st1 (st1 (st1 (st1 (st1 p0_0_2k 2 z46) 3 z48) 4 z50) 5 z52) 6 z54) (o_43.2.2.2.2) (o_43.2.2.2.1))] : List va_W)) := hD
            obtain ⟨w57, ew57, hrun⟩ := let9 hrun
            rw [← ew57] at hP hD
            exact J177 (o_43.2.1) w57 (o_43.2.2.2.1) (o_43.2.2.2.2) x45 z46 x47 z48 x49 z50 x51 z52 x53 z54 _ _ _ hrun hP hD hK hS (lv_sub hl [1, 2, 3] rfl) hg_p0 hg_p0_0_2
  refine L80 NF 0 o31 p0_0w p0_0_2w p0_0_2n (p0_0_2a 2) (p0_0_2k 2) (p0_0_2a 3) (p0_0_2k 3) (p0_0_2a 4) (p0_0_2k 4) (p0_0_2a 5) (p0_0_2k 5) (p0_0_2a 6) (p0_0_2k 6) o80 _ _ _ hc80 hP hD hK hS (lv_sub hl [1, 2, 0] rfl) hg_p0 hg_p0_0_2 hgn_p0_0_2 ?_
  intro xp0_0_2_1_80x zp0_0_2_1_80x xp0_0_2_2_80x zp0_0_2_2_80x xp0_0_2_3_80x zp0_0_2_3_80x xp0_0_2_4_80x zp0_0_2_4_80x xp0_0_2_5_80x zp0_0_2_5_80x H locs ls hP hD hK hS hl hg_p0 hg_p0_0_2
  have hl := hl
  unfold fX0_putAway_G183_58 at hrun
  have ho9 : ((o80.1), n8, (o80.2.1), (o80.2.2.1), (o80.2.2.2)) = o := Option.some.inj hrun
  subst ho9
  subst hQ
  exact W.vret hx hb hr (fun t ht hW => ⟨⟨(), rfl, trivial, ⟨ra5, z4, ra11, z10, xp0_0_2_1_80x, zp0_0_2_1_80x, xp0_0_2_2_80x, zp0_0_2_2_80x, xp0_0_2_3_80x, zp0_0_2_3_80x, xp0_0_2_4_80x, zp0_0_2_4_80x, xp0_0_2_5_80x, zp0_0_2_5_80x, by rw [ht]; exact hP, va_K.moved hW.alike hK, hD⟩⟩, hS.F ht⟩) hS.2.2 dX0_putAway_183
