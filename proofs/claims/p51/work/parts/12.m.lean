abbrev cX5_dropUnwanted : ByteArray := prog_7_method_29_code
def yX5_dropUnwanted : MethodName := ⟨RX5, "dropUnwanted", "(LGearbox$Flow;)I"⟩
abbrev cX5_wantInBlock : ByteArray := prog_7_method_30_code
def yX5_wantInBlock : MethodName := ⟨RX5, "wantInBlock", "(LGearbox$Flow;I)Z"⟩
abbrev cX5_wantUsed : ByteArray := prog_7_method_31_code
def yX5_wantUsed : MethodName := ⟨RX5, "wantUsed", "(LGearbox$Steps;I)Z"⟩
abbrev cX11_usesLeft : ByteArray := prog_1_method_67_code
def yX11_usesLeft : MethodName := ⟨RX11, "usesLeft", "(I)Z"⟩
abbrev cX5_want : ByteArray := prog_7_method_32_code
def yX5_want : MethodName := ⟨RX5, "want", "(I)Z"⟩
abbrev cX5_mayFail : ByteArray := prog_7_method_6_code
def yX5_mayFail : MethodName := ⟨RX5, "mayFail", "(LGearbox$Flow;I)Z"⟩
abbrev cX5_isNumber : ByteArray := prog_7_method_3_code
def yX5_isNumber : MethodName := ⟨RX5, "isNumber", "(LGearbox$Flow;I)Z"⟩
abbrev cX5_numberOf : ByteArray := prog_7_method_4_code
def yX5_numberOf : MethodName := ⟨RX5, "numberOf", "(LGearbox$Flow;I)I"⟩
abbrev cX5_keepUndroppable : ByteArray := prog_7_method_33_code
def yX5_keepUndroppable : MethodName := ⟨RX5, "keepUndroppable", "(LGearbox$Flow;)V"⟩
abbrev cX5_foldBlock : ByteArray := prog_7_method_13_code
def yX5_foldBlock : MethodName := ⟨RX5, "foldBlock", "(LGearbox$Flow;I)I"⟩
abbrev cX5_foldEnd : ByteArray := prog_7_method_14_code
def yX5_foldEnd : MethodName := ⟨RX5, "foldEnd", "(LGearbox$Flow;I)I"⟩
theorem dX11_usesLeft_0 : decode cX11_usesLeft 0 = .ok (.iload_n 0, 1) := by decide +kernel
theorem dX11_usesLeft_1 : decode cX11_usesLeft 1 = .ok (.iconst 1, 1) := by decide +kernel
theorem dX11_usesLeft_2 : decode cX11_usesLeft 2 = .ok (.if_icmp .lt 9, 3) := by decide +kernel
theorem dX11_usesLeft_5 : decode cX11_usesLeft 5 = .ok (.iload_n 0, 1) := by decide +kernel
theorem dX11_usesLeft_6 : decode cX11_usesLeft 6 = .ok (.bipush 19, 2) := by decide +kernel
theorem dX11_usesLeft_8 : decode cX11_usesLeft 8 = .ok (.if_icmp .le 15, 3) := by decide +kernel
theorem dX11_usesLeft_11 : decode cX11_usesLeft 11 = .ok (.iload_n 0, 1) := by decide +kernel
theorem dX11_usesLeft_12 : decode cX11_usesLeft 12 = .ok (.bipush 25, 2) := by decide +kernel
theorem dX11_usesLeft_14 : decode cX11_usesLeft 14 = .ok (.if_icmp .eq 9, 3) := by decide +kernel
theorem dX11_usesLeft_17 : decode cX11_usesLeft 17 = .ok (.iload_n 0, 1) := by decide +kernel
theorem dX11_usesLeft_18 : decode cX11_usesLeft 18 = .ok (.bipush 27, 2) := by decide +kernel
theorem dX11_usesLeft_20 : decode cX11_usesLeft 20 = .ok (.if_icmp .ne 7, 3) := by decide +kernel
theorem dX11_usesLeft_23 : decode cX11_usesLeft 23 = .ok (.iconst 1, 1) := by decide +kernel
theorem dX11_usesLeft_24 : decode cX11_usesLeft 24 = .ok (.goto 4, 3) := by decide +kernel
theorem dX11_usesLeft_27 : decode cX11_usesLeft 27 = .ok (.iconst 0, 1) := by decide +kernel
theorem dX11_usesLeft_28 : decode cX11_usesLeft 28 = .ok (.ireturn, 1) := by decide +kernel
theorem dX5_dropUnwanted_0 : decode cX5_dropUnwanted 0 = .ok (.aload_n 0, 1) := by decide +kernel
theorem dX5_dropUnwanted_1 : decode cX5_dropUnwanted 1 = .ok (.aload_n 1, 1) := by decide +kernel
theorem dX5_dropUnwanted_2 : decode cX5_dropUnwanted 2 = .ok (.invokevirtual 191, 3) := by decide +kernel
theorem dX5_dropUnwanted_5 : decode cX5_dropUnwanted 5 = .ok (.aload_n 0, 1) := by decide +kernel
theorem dX5_dropUnwanted_6 : decode cX5_dropUnwanted 6 = .ok (.getfield 27, 3) := by decide +kernel
theorem dX5_dropUnwanted_9 : decode cX5_dropUnwanted 9 = .ok (.iconst 1, 1) := by decide +kernel
theorem dX5_dropUnwanted_10 : decode cX5_dropUnwanted 10 = .ok (.invokestatic 43, 3) := by decide +kernel
theorem dX5_dropUnwanted_13 : decode cX5_dropUnwanted 13 = .ok (.iconst 1, 1) := by decide +kernel
theorem dX5_dropUnwanted_14 : decode cX5_dropUnwanted 14 = .ok (.istore_n 2, 1) := by decide +kernel
theorem dX5_dropUnwanted_15 : decode cX5_dropUnwanted 15 = .ok (.iconst 0, 1) := by decide +kernel
theorem dX5_dropUnwanted_16 : decode cX5_dropUnwanted 16 = .ok (.istore_n 3, 1) := by decide +kernel
theorem dX5_dropUnwanted_17 : decode cX5_dropUnwanted 17 = .ok (.iload_n 2, 1) := by decide +kernel
theorem dX5_dropUnwanted_18 : decode cX5_dropUnwanted 18 = .ok (.ifCond .eq 48, 3) := by decide +kernel
theorem dX5_dropUnwanted_21 : decode cX5_dropUnwanted 21 = .ok (.iload_n 3, 1) := by decide +kernel
theorem dX5_dropUnwanted_22 : decode cX5_dropUnwanted 22 = .ok (.ldc 100, 2) := by decide +kernel
theorem dX5_dropUnwanted_24 : decode cX5_dropUnwanted 24 = .ok (.if_icmp .ge 42, 3) := by decide +kernel
theorem dX5_dropUnwanted_27 : decode cX5_dropUnwanted 27 = .ok (.iconst 0, 1) := by decide +kernel
theorem dX5_dropUnwanted_28 : decode cX5_dropUnwanted 28 = .ok (.istore_n 2, 1) := by decide +kernel
theorem dX5_dropUnwanted_29 : decode cX5_dropUnwanted 29 = .ok (.aload_n 1, 1) := by decide +kernel
theorem dX5_dropUnwanted_30 : decode cX5_dropUnwanted 30 = .ok (.getfield 49, 3) := by decide +kernel
theorem dX5_dropUnwanted_33 : decode cX5_dropUnwanted 33 = .ok (.iconst 1, 1) := by decide +kernel
theorem dX5_dropUnwanted_34 : decode cX5_dropUnwanted 34 = .ok (.isub, 1) := by decide +kernel
theorem dX5_dropUnwanted_35 : decode cX5_dropUnwanted 35 = .ok (.istore 4, 2) := by decide +kernel
theorem dX5_dropUnwanted_37 : decode cX5_dropUnwanted 37 = .ok (.iload 4, 2) := by decide +kernel
theorem dX5_dropUnwanted_39 : decode cX5_dropUnwanted 39 = .ok (.ifCond .lt 21, 3) := by decide +kernel
theorem dX5_dropUnwanted_42 : decode cX5_dropUnwanted 42 = .ok (.aload_n 0, 1) := by decide +kernel
theorem dX5_dropUnwanted_43 : decode cX5_dropUnwanted 43 = .ok (.aload_n 1, 1) := by decide +kernel
theorem dX5_dropUnwanted_44 : decode cX5_dropUnwanted 44 = .ok (.iload 4, 2) := by decide +kernel
theorem dX5_dropUnwanted_46 : decode cX5_dropUnwanted 46 = .ok (.invokevirtual 263, 3) := by decide +kernel
theorem dX5_dropUnwanted_49 : decode cX5_dropUnwanted 49 = .ok (.ifCond .eq 5, 3) := by decide +kernel
theorem dX5_dropUnwanted_52 : decode cX5_dropUnwanted 52 = .ok (.iconst 1, 1) := by decide +kernel
theorem dX5_dropUnwanted_53 : decode cX5_dropUnwanted 53 = .ok (.istore_n 2, 1) := by decide +kernel
theorem dX5_dropUnwanted_54 : decode cX5_dropUnwanted 54 = .ok (.iinc 4 (-1), 3) := by decide +kernel
theorem dX5_dropUnwanted_57 : decode cX5_dropUnwanted 57 = .ok (.goto (-20), 3) := by decide +kernel
theorem dX5_dropUnwanted_60 : decode cX5_dropUnwanted 60 = .ok (.iinc 3 1, 3) := by decide +kernel
theorem dX5_dropUnwanted_63 : decode cX5_dropUnwanted 63 = .ok (.goto (-46), 3) := by decide +kernel
theorem dX5_dropUnwanted_66 : decode cX5_dropUnwanted 66 = .ok (.aload_n 0, 1) := by decide +kernel
theorem dX5_dropUnwanted_67 : decode cX5_dropUnwanted 67 = .ok (.aload_n 1, 1) := by decide +kernel
theorem dX5_dropUnwanted_68 : decode cX5_dropUnwanted 68 = .ok (.invokevirtual 266, 3) := by decide +kernel
theorem dX5_dropUnwanted_71 : decode cX5_dropUnwanted 71 = .ok (.aload_n 1, 1) := by decide +kernel
theorem dX5_dropUnwanted_72 : decode cX5_dropUnwanted 72 = .ok (.invokevirtual 269, 3) := by decide +kernel
theorem dX5_dropUnwanted_75 : decode cX5_dropUnwanted 75 = .ok (.istore_n 3, 1) := by decide +kernel
theorem dX5_dropUnwanted_76 : decode cX5_dropUnwanted 76 = .ok (.aload_n 1, 1) := by decide +kernel
theorem dX5_dropUnwanted_77 : decode cX5_dropUnwanted 77 = .ok (.aload_n 0, 1) := by decide +kernel
theorem dX5_dropUnwanted_78 : decode cX5_dropUnwanted 78 = .ok (.getfield 27, 3) := by decide +kernel
theorem dX5_dropUnwanted_81 : decode cX5_dropUnwanted 81 = .ok (.invokevirtual 207, 3) := by decide +kernel
theorem dX5_dropUnwanted_84 : decode cX5_dropUnwanted 84 = .ok (.iload_n 3, 1) := by decide +kernel
theorem dX5_dropUnwanted_85 : decode cX5_dropUnwanted 85 = .ok (.aload_n 1, 1) := by decide +kernel
theorem dX5_dropUnwanted_86 : decode cX5_dropUnwanted 86 = .ok (.invokevirtual 269, 3) := by decide +kernel
theorem dX5_dropUnwanted_89 : decode cX5_dropUnwanted 89 = .ok (.isub, 1) := by decide +kernel
theorem dX5_dropUnwanted_90 : decode cX5_dropUnwanted 90 = .ok (.ireturn, 1) := by decide +kernel
theorem dX5_foldBlock_0 : decode cX5_foldBlock 0 = .ok (.iconst 0, 1) := by decide +kernel
theorem dX5_foldBlock_1 : decode cX5_foldBlock 1 = .ok (.istore_n 3, 1) := by decide +kernel
theorem dX5_foldBlock_2 : decode cX5_foldBlock 2 = .ok (.aload_n 1, 1) := by decide +kernel
theorem dX5_foldBlock_3 : decode cX5_foldBlock 3 = .ok (.iload_n 2, 1) := by decide +kernel
theorem dX5_foldBlock_4 : decode cX5_foldBlock 4 = .ok (.invokevirtual 167, 3) := by decide +kernel
theorem dX5_foldBlock_7 : decode cX5_foldBlock 7 = .ok (.istore 5, 2) := by decide +kernel
theorem dX5_foldBlock_9 : decode cX5_foldBlock 9 = .ok (.aload_n 1, 1) := by decide +kernel
theorem dX5_foldBlock_10 : decode cX5_foldBlock 10 = .ok (.iload_n 2, 1) := by decide +kernel
theorem dX5_foldBlock_11 : decode cX5_foldBlock 11 = .ok (.invokevirtual 170, 3) := by decide +kernel
theorem dX5_foldBlock_14 : decode cX5_foldBlock 14 = .ok (.istore 6, 2) := by decide +kernel
theorem dX5_foldBlock_16 : decode cX5_foldBlock 16 = .ok (.iload 6, 2) := by decide +kernel
theorem dX5_foldBlock_18 : decode cX5_foldBlock 18 = .ok (.ifCond .lt 69, 3) := by decide +kernel
theorem dX5_foldBlock_21 : decode cX5_foldBlock 21 = .ok (.aload_n 1, 1) := by decide +kernel
theorem dX5_foldBlock_22 : decode cX5_foldBlock 22 = .ok (.getfield 61, 3) := by decide +kernel
theorem dX5_foldBlock_25 : decode cX5_foldBlock 25 = .ok (.iload 6, 2) := by decide +kernel
theorem dX5_foldBlock_27 : decode cX5_foldBlock 27 = .ok (.iaload, 1) := by decide +kernel
theorem dX5_foldBlock_28 : decode cX5_foldBlock 28 = .ok (.istore 4, 2) := by decide +kernel
theorem dX5_foldBlock_30 : decode cX5_foldBlock 30 = .ok (.aload_n 1, 1) := by decide +kernel
theorem dX5_foldBlock_31 : decode cX5_foldBlock 31 = .ok (.getfield 58, 3) := by decide +kernel
theorem dX5_foldBlock_34 : decode cX5_foldBlock 34 = .ok (.iload 6, 2) := by decide +kernel
theorem dX5_foldBlock_36 : decode cX5_foldBlock 36 = .ok (.iaload, 1) := by decide +kernel
theorem dX5_foldBlock_37 : decode cX5_foldBlock 37 = .ok (.istore 7, 2) := by decide +kernel
theorem dX5_foldBlock_39 : decode cX5_foldBlock 39 = .ok (.aload_n 0, 1) := by decide +kernel
theorem dX5_foldBlock_40 : decode cX5_foldBlock 40 = .ok (.getfield 18, 3) := by decide +kernel
theorem dX5_foldBlock_43 : decode cX5_foldBlock 43 = .ok (.iload 7, 2) := by decide +kernel
theorem dX5_foldBlock_45 : decode cX5_foldBlock 45 = .ok (.iaload, 1) := by decide +kernel
theorem dX5_foldBlock_46 : decode cX5_foldBlock 46 = .ok (.iconst 1, 1) := by decide +kernel
theorem dX5_foldBlock_47 : decode cX5_foldBlock 47 = .ok (.if_icmp .ne 26, 3) := by decide +kernel
theorem dX5_foldBlock_50 : decode cX5_foldBlock 50 = .ok (.aload_n 1, 1) := by decide +kernel
theorem dX5_foldBlock_51 : decode cX5_foldBlock 51 = .ok (.iload_n 2, 1) := by decide +kernel
theorem dX5_foldBlock_52 : decode cX5_foldBlock 52 = .ok (.iconst 0, 1) := by decide +kernel
theorem dX5_foldBlock_53 : decode cX5_foldBlock 53 = .ok (.iload 7, 2) := by decide +kernel
theorem dX5_foldBlock_55 : decode cX5_foldBlock 55 = .ok (.aload_n 0, 1) := by decide +kernel
theorem dX5_foldBlock_56 : decode cX5_foldBlock 56 = .ok (.getfield 21, 3) := by decide +kernel
theorem dX5_foldBlock_59 : decode cX5_foldBlock 59 = .ok (.iload 7, 2) := by decide +kernel
theorem dX5_foldBlock_61 : decode cX5_foldBlock 61 = .ok (.iaload, 1) := by decide +kernel
theorem dX5_foldBlock_62 : decode cX5_foldBlock 62 = .ok (.iconst (-1), 1) := by decide +kernel
theorem dX5_foldBlock_63 : decode cX5_foldBlock 63 = .ok (.invokevirtual 173, 3) := by decide +kernel
theorem dX5_foldBlock_66 : decode cX5_foldBlock 66 = .ok (.pop, 1) := by decide +kernel
theorem dX5_foldBlock_67 : decode cX5_foldBlock 67 = .ok (.iinc 3 1, 3) := by decide +kernel
theorem dX5_foldBlock_70 : decode cX5_foldBlock 70 = .ok (.goto 10, 3) := by decide +kernel
theorem dX5_foldBlock_73 : decode cX5_foldBlock 73 = .ok (.aload_n 1, 1) := by decide +kernel
theorem dX5_foldBlock_74 : decode cX5_foldBlock 74 = .ok (.iload_n 2, 1) := by decide +kernel
theorem dX5_foldBlock_75 : decode cX5_foldBlock 75 = .ok (.iload 6, 2) := by decide +kernel
theorem dX5_foldBlock_77 : decode cX5_foldBlock 77 = .ok (.invokevirtual 177, 3) := by decide +kernel
theorem dX5_foldBlock_80 : decode cX5_foldBlock 80 = .ok (.iload 4, 2) := by decide +kernel
theorem dX5_foldBlock_82 : decode cX5_foldBlock 82 = .ok (.istore 6, 2) := by decide +kernel
theorem dX5_foldBlock_84 : decode cX5_foldBlock 84 = .ok (.goto (-68), 3) := by decide +kernel
theorem dX5_foldBlock_87 : decode cX5_foldBlock 87 = .ok (.iload 5, 2) := by decide +kernel
theorem dX5_foldBlock_89 : decode cX5_foldBlock 89 = .ok (.istore 6, 2) := by decide +kernel
theorem dX5_foldBlock_91 : decode cX5_foldBlock 91 = .ok (.iload 6, 2) := by decide +kernel
theorem dX5_foldBlock_93 : decode cX5_foldBlock 93 = .ok (.ifCond .lt 91, 3) := by decide +kernel
theorem dX5_foldBlock_96 : decode cX5_foldBlock 96 = .ok (.aload_n 1, 1) := by decide +kernel
theorem dX5_foldBlock_97 : decode cX5_foldBlock 97 = .ok (.getfield 67, 3) := by decide +kernel
theorem dX5_foldBlock_100 : decode cX5_foldBlock 100 = .ok (.getfield 76, 3) := by decide +kernel
theorem dX5_foldBlock_103 : decode cX5_foldBlock 103 = .ok (.iload 6, 2) := by decide +kernel
theorem dX5_foldBlock_105 : decode cX5_foldBlock 105 = .ok (.iaload, 1) := by decide +kernel
theorem dX5_foldBlock_106 : decode cX5_foldBlock 106 = .ok (.istore 4, 2) := by decide +kernel
theorem dX5_foldBlock_108 : decode cX5_foldBlock 108 = .ok (.aload_n 1, 1) := by decide +kernel
theorem dX5_foldBlock_109 : decode cX5_foldBlock 109 = .ok (.getfield 67, 3) := by decide +kernel
theorem dX5_foldBlock_112 : decode cX5_foldBlock 112 = .ok (.getfield 79, 3) := by decide +kernel
theorem dX5_foldBlock_115 : decode cX5_foldBlock 115 = .ok (.iload 6, 2) := by decide +kernel
theorem dX5_foldBlock_117 : decode cX5_foldBlock 117 = .ok (.iaload, 1) := by decide +kernel
theorem dX5_foldBlock_118 : decode cX5_foldBlock 118 = .ok (.invokestatic 149, 3) := by decide +kernel
theorem dX5_foldBlock_121 : decode cX5_foldBlock 121 = .ok (.ifCond .eq 49, 3) := by decide +kernel
theorem dX5_foldBlock_124 : decode cX5_foldBlock 124 = .ok (.aload_n 0, 1) := by decide +kernel
theorem dX5_foldBlock_125 : decode cX5_foldBlock 125 = .ok (.getfield 18, 3) := by decide +kernel
theorem dX5_foldBlock_128 : decode cX5_foldBlock 128 = .ok (.aload_n 1, 1) := by decide +kernel
theorem dX5_foldBlock_129 : decode cX5_foldBlock 129 = .ok (.getfield 67, 3) := by decide +kernel
theorem dX5_foldBlock_132 : decode cX5_foldBlock 132 = .ok (.getfield 71, 3) := by decide +kernel
theorem dX5_foldBlock_135 : decode cX5_foldBlock 135 = .ok (.iload 6, 2) := by decide +kernel
theorem dX5_foldBlock_137 : decode cX5_foldBlock 137 = .ok (.iaload, 1) := by decide +kernel
theorem dX5_foldBlock_138 : decode cX5_foldBlock 138 = .ok (.iaload, 1) := by decide +kernel
theorem dX5_foldBlock_139 : decode cX5_foldBlock 139 = .ok (.iconst 1, 1) := by decide +kernel
theorem dX5_foldBlock_140 : decode cX5_foldBlock 140 = .ok (.if_icmp .ne 30, 3) := by decide +kernel
theorem dX5_foldBlock_143 : decode cX5_foldBlock 143 = .ok (.aload_n 1, 1) := by decide +kernel
theorem dX5_foldBlock_144 : decode cX5_foldBlock 144 = .ok (.getfield 67, 3) := by decide +kernel
theorem dX5_foldBlock_147 : decode cX5_foldBlock 147 = .ok (.iload 6, 2) := by decide +kernel
theorem dX5_foldBlock_149 : decode cX5_foldBlock 149 = .ok (.aload_n 0, 1) := by decide +kernel
theorem dX5_foldBlock_150 : decode cX5_foldBlock 150 = .ok (.getfield 21, 3) := by decide +kernel
theorem dX5_foldBlock_153 : decode cX5_foldBlock 153 = .ok (.aload_n 1, 1) := by decide +kernel
theorem dX5_foldBlock_154 : decode cX5_foldBlock 154 = .ok (.getfield 67, 3) := by decide +kernel
theorem dX5_foldBlock_157 : decode cX5_foldBlock 157 = .ok (.getfield 71, 3) := by decide +kernel
theorem dX5_foldBlock_160 : decode cX5_foldBlock 160 = .ok (.iload 6, 2) := by decide +kernel
theorem dX5_foldBlock_162 : decode cX5_foldBlock 162 = .ok (.iaload, 1) := by decide +kernel
theorem dX5_foldBlock_163 : decode cX5_foldBlock 163 = .ok (.iaload, 1) := by decide +kernel
theorem dX5_foldBlock_164 : decode cX5_foldBlock 164 = .ok (.invokestatic 181, 3) := by decide +kernel
theorem dX5_foldBlock_167 : decode cX5_foldBlock 167 = .ok (.iinc 3 1, 3) := by decide +kernel
theorem dX5_foldBlock_170 : decode cX5_foldBlock 170 = .ok (.aload_n 1, 1) := by decide +kernel
theorem dX5_foldBlock_171 : decode cX5_foldBlock 171 = .ok (.iload_n 2, 1) := by decide +kernel
theorem dX5_foldBlock_172 : decode cX5_foldBlock 172 = .ok (.iload 6, 2) := by decide +kernel
theorem dX5_foldBlock_174 : decode cX5_foldBlock 174 = .ok (.invokevirtual 185, 3) := by decide +kernel
theorem dX5_foldBlock_177 : decode cX5_foldBlock 177 = .ok (.iload 4, 2) := by decide +kernel
theorem dX5_foldBlock_179 : decode cX5_foldBlock 179 = .ok (.istore 6, 2) := by decide +kernel
theorem dX5_foldBlock_181 : decode cX5_foldBlock 181 = .ok (.goto (-90), 3) := by decide +kernel
theorem dX5_foldBlock_184 : decode cX5_foldBlock 184 = .ok (.iload_n 3, 1) := by decide +kernel
theorem dX5_foldBlock_185 : decode cX5_foldBlock 185 = .ok (.aload_n 0, 1) := by decide +kernel
theorem dX5_foldBlock_186 : decode cX5_foldBlock 186 = .ok (.aload_n 1, 1) := by decide +kernel
theorem dX5_foldBlock_187 : decode cX5_foldBlock 187 = .ok (.iload_n 2, 1) := by decide +kernel
theorem dX5_foldBlock_188 : decode cX5_foldBlock 188 = .ok (.invokevirtual 188, 3) := by decide +kernel
theorem dX5_foldBlock_191 : decode cX5_foldBlock 191 = .ok (.iadd, 1) := by decide +kernel
theorem dX5_foldBlock_192 : decode cX5_foldBlock 192 = .ok (.ireturn, 1) := by decide +kernel
theorem dX5_foldEnd_0 : decode cX5_foldEnd 0 = .ok (.aload_n 1, 1) := by decide +kernel
theorem dX5_foldEnd_1 : decode cX5_foldEnd 1 = .ok (.getfield 161, 3) := by decide +kernel
theorem dX5_foldEnd_4 : decode cX5_foldEnd 4 = .ok (.iload_n 2, 1) := by decide +kernel
theorem dX5_foldEnd_5 : decode cX5_foldEnd 5 = .ok (.iaload, 1) := by decide +kernel
theorem dX5_foldEnd_6 : decode cX5_foldEnd 6 = .ok (.bipush 23, 2) := by decide +kernel
theorem dX5_foldEnd_8 : decode cX5_foldEnd 8 = .ok (.if_icmp .ne 18, 3) := by decide +kernel
theorem dX5_foldEnd_11 : decode cX5_foldEnd 11 = .ok (.aload_n 0, 1) := by decide +kernel
theorem dX5_foldEnd_12 : decode cX5_foldEnd 12 = .ok (.getfield 18, 3) := by decide +kernel
theorem dX5_foldEnd_15 : decode cX5_foldEnd 15 = .ok (.aload_n 1, 1) := by decide +kernel
theorem dX5_foldEnd_16 : decode cX5_foldEnd 16 = .ok (.getfield 164, 3) := by decide +kernel
theorem dX5_foldEnd_19 : decode cX5_foldEnd 19 = .ok (.iload_n 2, 1) := by decide +kernel
theorem dX5_foldEnd_20 : decode cX5_foldEnd 20 = .ok (.iaload, 1) := by decide +kernel
theorem dX5_foldEnd_21 : decode cX5_foldEnd 21 = .ok (.iaload, 1) := by decide +kernel
theorem dX5_foldEnd_22 : decode cX5_foldEnd 22 = .ok (.iconst 1, 1) := by decide +kernel
theorem dX5_foldEnd_23 : decode cX5_foldEnd 23 = .ok (.if_icmp .eq 5, 3) := by decide +kernel
theorem dX5_foldEnd_26 : decode cX5_foldEnd 26 = .ok (.iconst 0, 1) := by decide +kernel
theorem dX5_foldEnd_27 : decode cX5_foldEnd 27 = .ok (.ireturn, 1) := by decide +kernel
theorem dX5_foldEnd_28 : decode cX5_foldEnd 28 = .ok (.aload_n 1, 1) := by decide +kernel
theorem dX5_foldEnd_29 : decode cX5_foldEnd 29 = .ok (.getfield 161, 3) := by decide +kernel
theorem dX5_foldEnd_32 : decode cX5_foldEnd 32 = .ok (.iload_n 2, 1) := by decide +kernel
theorem dX5_foldEnd_33 : decode cX5_foldEnd 33 = .ok (.bipush 22, 2) := by decide +kernel
theorem dX5_foldEnd_35 : decode cX5_foldEnd 35 = .ok (.iastore, 1) := by decide +kernel
theorem dX5_foldEnd_36 : decode cX5_foldEnd 36 = .ok (.aload_n 1, 1) := by decide +kernel
theorem dX5_foldEnd_37 : decode cX5_foldEnd 37 = .ok (.getfield 125, 3) := by decide +kernel
theorem dX5_foldEnd_40 : decode cX5_foldEnd 40 = .ok (.iload_n 2, 1) := by decide +kernel
theorem dX5_foldEnd_41 : decode cX5_foldEnd 41 = .ok (.aload_n 0, 1) := by decide +kernel
theorem dX5_foldEnd_42 : decode cX5_foldEnd 42 = .ok (.getfield 21, 3) := by decide +kernel
theorem dX5_foldEnd_45 : decode cX5_foldEnd 45 = .ok (.aload_n 1, 1) := by decide +kernel
theorem dX5_foldEnd_46 : decode cX5_foldEnd 46 = .ok (.getfield 164, 3) := by decide +kernel
theorem dX5_foldEnd_49 : decode cX5_foldEnd 49 = .ok (.iload_n 2, 1) := by decide +kernel
theorem dX5_foldEnd_50 : decode cX5_foldEnd 50 = .ok (.iaload, 1) := by decide +kernel
theorem dX5_foldEnd_51 : decode cX5_foldEnd 51 = .ok (.iaload, 1) := by decide +kernel
theorem dX5_foldEnd_52 : decode cX5_foldEnd 52 = .ok (.ifCond .eq 12, 3) := by decide +kernel
theorem dX5_foldEnd_55 : decode cX5_foldEnd 55 = .ok (.aload_n 1, 1) := by decide +kernel
theorem dX5_foldEnd_56 : decode cX5_foldEnd 56 = .ok (.getfield 125, 3) := by decide +kernel
theorem dX5_foldEnd_59 : decode cX5_foldEnd 59 = .ok (.iload_n 2, 1) := by decide +kernel
theorem dX5_foldEnd_60 : decode cX5_foldEnd 60 = .ok (.iaload, 1) := by decide +kernel
theorem dX5_foldEnd_61 : decode cX5_foldEnd 61 = .ok (.goto 9, 3) := by decide +kernel
theorem dX5_foldEnd_64 : decode cX5_foldEnd 64 = .ok (.aload_n 1, 1) := by decide +kernel
theorem dX5_foldEnd_65 : decode cX5_foldEnd 65 = .ok (.getfield 131, 3) := by decide +kernel
theorem dX5_foldEnd_68 : decode cX5_foldEnd 68 = .ok (.iload_n 2, 1) := by decide +kernel
theorem dX5_foldEnd_69 : decode cX5_foldEnd 69 = .ok (.iaload, 1) := by decide +kernel
theorem dX5_foldEnd_70 : decode cX5_foldEnd 70 = .ok (.iastore, 1) := by decide +kernel
theorem dX5_foldEnd_71 : decode cX5_foldEnd 71 = .ok (.aload_n 1, 1) := by decide +kernel
theorem dX5_foldEnd_72 : decode cX5_foldEnd 72 = .ok (.getfield 131, 3) := by decide +kernel
theorem dX5_foldEnd_75 : decode cX5_foldEnd 75 = .ok (.iload_n 2, 1) := by decide +kernel
theorem dX5_foldEnd_76 : decode cX5_foldEnd 76 = .ok (.iconst (-1), 1) := by decide +kernel
theorem dX5_foldEnd_77 : decode cX5_foldEnd 77 = .ok (.iastore, 1) := by decide +kernel
theorem dX5_foldEnd_78 : decode cX5_foldEnd 78 = .ok (.aload_n 1, 1) := by decide +kernel
theorem dX5_foldEnd_79 : decode cX5_foldEnd 79 = .ok (.getfield 164, 3) := by decide +kernel
theorem dX5_foldEnd_82 : decode cX5_foldEnd 82 = .ok (.iload_n 2, 1) := by decide +kernel
theorem dX5_foldEnd_83 : decode cX5_foldEnd 83 = .ok (.iconst (-1), 1) := by decide +kernel
theorem dX5_foldEnd_84 : decode cX5_foldEnd 84 = .ok (.iastore, 1) := by decide +kernel
theorem dX5_foldEnd_85 : decode cX5_foldEnd 85 = .ok (.iconst 1, 1) := by decide +kernel
theorem dX5_foldEnd_86 : decode cX5_foldEnd 86 = .ok (.ireturn, 1) := by decide +kernel
theorem dX5_isNumber_0 : decode cX5_isNumber 0 = .ok (.aload_n 0, 1) := by decide +kernel
theorem dX5_isNumber_1 : decode cX5_isNumber 1 = .ok (.getfield 9, 3) := by decide +kernel
theorem dX5_isNumber_4 : decode cX5_isNumber 4 = .ok (.iload_n 2, 1) := by decide +kernel
theorem dX5_isNumber_5 : decode cX5_isNumber 5 = .ok (.iaload, 1) := by decide +kernel
theorem dX5_isNumber_6 : decode cX5_isNumber 6 = .ok (.ifCond .lt 24, 3) := by decide +kernel
theorem dX5_isNumber_9 : decode cX5_isNumber 9 = .ok (.aload_n 1, 1) := by decide +kernel
theorem dX5_isNumber_10 : decode cX5_isNumber 10 = .ok (.getfield 67, 3) := by decide +kernel
theorem dX5_isNumber_13 : decode cX5_isNumber 13 = .ok (.getfield 79, 3) := by decide +kernel
theorem dX5_isNumber_16 : decode cX5_isNumber 16 = .ok (.aload_n 0, 1) := by decide +kernel
theorem dX5_isNumber_17 : decode cX5_isNumber 17 = .ok (.getfield 9, 3) := by decide +kernel
theorem dX5_isNumber_20 : decode cX5_isNumber 20 = .ok (.iload_n 2, 1) := by decide +kernel
theorem dX5_isNumber_21 : decode cX5_isNumber 21 = .ok (.iaload, 1) := by decide +kernel
theorem dX5_isNumber_22 : decode cX5_isNumber 22 = .ok (.iaload, 1) := by decide +kernel
theorem dX5_isNumber_23 : decode cX5_isNumber 23 = .ok (.ifCond .ne 7, 3) := by decide +kernel
theorem dX5_isNumber_26 : decode cX5_isNumber 26 = .ok (.iconst 1, 1) := by decide +kernel
theorem dX5_isNumber_27 : decode cX5_isNumber 27 = .ok (.goto 4, 3) := by decide +kernel
theorem dX5_isNumber_30 : decode cX5_isNumber 30 = .ok (.iconst 0, 1) := by decide +kernel
theorem dX5_isNumber_31 : decode cX5_isNumber 31 = .ok (.ireturn, 1) := by decide +kernel
theorem dX5_keepUndroppable_0 : decode cX5_keepUndroppable 0 = .ok (.iconst 0, 1) := by decide +kernel
theorem dX5_keepUndroppable_1 : decode cX5_keepUndroppable 1 = .ok (.istore_n 2, 1) := by decide +kernel
theorem dX5_keepUndroppable_2 : decode cX5_keepUndroppable 2 = .ok (.iload_n 2, 1) := by decide +kernel
theorem dX5_keepUndroppable_3 : decode cX5_keepUndroppable 3 = .ok (.aload_n 1, 1) := by decide +kernel
theorem dX5_keepUndroppable_4 : decode cX5_keepUndroppable 4 = .ok (.getfield 49, 3) := by decide +kernel
theorem dX5_keepUndroppable_7 : decode cX5_keepUndroppable 7 = .ok (.if_icmp .ge 61, 3) := by decide +kernel
theorem dX5_keepUndroppable_10 : decode cX5_keepUndroppable 10 = .ok (.aload_n 1, 1) := by decide +kernel
theorem dX5_keepUndroppable_11 : decode cX5_keepUndroppable 11 = .ok (.getfield 64, 3) := by decide +kernel
theorem dX5_keepUndroppable_14 : decode cX5_keepUndroppable 14 = .ok (.iload_n 2, 1) := by decide +kernel
theorem dX5_keepUndroppable_15 : decode cX5_keepUndroppable 15 = .ok (.iaload, 1) := by decide +kernel
theorem dX5_keepUndroppable_16 : decode cX5_keepUndroppable 16 = .ok (.istore_n 3, 1) := by decide +kernel
theorem dX5_keepUndroppable_17 : decode cX5_keepUndroppable 17 = .ok (.iload_n 3, 1) := by decide +kernel
theorem dX5_keepUndroppable_18 : decode cX5_keepUndroppable 18 = .ok (.ifCond .lt 44, 3) := by decide +kernel
theorem dX5_keepUndroppable_21 : decode cX5_keepUndroppable 21 = .ok (.aload_n 1, 1) := by decide +kernel
theorem dX5_keepUndroppable_22 : decode cX5_keepUndroppable 22 = .ok (.getfield 67, 3) := by decide +kernel
theorem dX5_keepUndroppable_25 : decode cX5_keepUndroppable 25 = .ok (.getfield 79, 3) := by decide +kernel
theorem dX5_keepUndroppable_28 : decode cX5_keepUndroppable 28 = .ok (.iload_n 3, 1) := by decide +kernel
theorem dX5_keepUndroppable_29 : decode cX5_keepUndroppable 29 = .ok (.iaload, 1) := by decide +kernel
theorem dX5_keepUndroppable_30 : decode cX5_keepUndroppable 30 = .ok (.bipush 20, 2) := by decide +kernel
theorem dX5_keepUndroppable_32 : decode cX5_keepUndroppable 32 = .ok (.if_icmp .ne 17, 3) := by decide +kernel
theorem dX5_keepUndroppable_35 : decode cX5_keepUndroppable 35 = .ok (.aload_n 0, 1) := by decide +kernel
theorem dX5_keepUndroppable_36 : decode cX5_keepUndroppable 36 = .ok (.aload_n 1, 1) := by decide +kernel
theorem dX5_keepUndroppable_37 : decode cX5_keepUndroppable 37 = .ok (.getfield 67, 3) := by decide +kernel
theorem dX5_keepUndroppable_40 : decode cX5_keepUndroppable 40 = .ok (.getfield 71, 3) := by decide +kernel
theorem dX5_keepUndroppable_43 : decode cX5_keepUndroppable 43 = .ok (.iload_n 3, 1) := by decide +kernel
theorem dX5_keepUndroppable_44 : decode cX5_keepUndroppable 44 = .ok (.iaload, 1) := by decide +kernel
theorem dX5_keepUndroppable_45 : decode cX5_keepUndroppable 45 = .ok (.invokevirtual 273, 3) := by decide +kernel
theorem dX5_keepUndroppable_48 : decode cX5_keepUndroppable 48 = .ok (.pop, 1) := by decide +kernel
theorem dX5_keepUndroppable_49 : decode cX5_keepUndroppable 49 = .ok (.aload_n 1, 1) := by decide +kernel
theorem dX5_keepUndroppable_50 : decode cX5_keepUndroppable 50 = .ok (.getfield 67, 3) := by decide +kernel
theorem dX5_keepUndroppable_53 : decode cX5_keepUndroppable 53 = .ok (.getfield 76, 3) := by decide +kernel
theorem dX5_keepUndroppable_56 : decode cX5_keepUndroppable 56 = .ok (.iload_n 3, 1) := by decide +kernel
theorem dX5_keepUndroppable_57 : decode cX5_keepUndroppable 57 = .ok (.iaload, 1) := by decide +kernel
theorem dX5_keepUndroppable_58 : decode cX5_keepUndroppable 58 = .ok (.istore_n 3, 1) := by decide +kernel
theorem dX5_keepUndroppable_59 : decode cX5_keepUndroppable 59 = .ok (.goto (-42), 3) := by decide +kernel
theorem dX5_keepUndroppable_62 : decode cX5_keepUndroppable 62 = .ok (.iinc 2 1, 3) := by decide +kernel
theorem dX5_keepUndroppable_65 : decode cX5_keepUndroppable 65 = .ok (.goto (-63), 3) := by decide +kernel
theorem dX5_keepUndroppable_68 : decode cX5_keepUndroppable 68 = .ok (.return_, 1) := by decide +kernel
theorem dX5_mayFail_0 : decode cX5_mayFail 0 = .ok (.aload_n 1, 1) := by decide +kernel
theorem dX5_mayFail_1 : decode cX5_mayFail 1 = .ok (.getfield 67, 3) := by decide +kernel
theorem dX5_mayFail_4 : decode cX5_mayFail 4 = .ok (.getfield 79, 3) := by decide +kernel
theorem dX5_mayFail_7 : decode cX5_mayFail 7 = .ok (.iload_n 2, 1) := by decide +kernel
theorem dX5_mayFail_8 : decode cX5_mayFail 8 = .ok (.iaload, 1) := by decide +kernel
theorem dX5_mayFail_9 : decode cX5_mayFail 9 = .ok (.istore_n 3, 1) := by decide +kernel
theorem dX5_mayFail_10 : decode cX5_mayFail 10 = .ok (.iload_n 3, 1) := by decide +kernel
theorem dX5_mayFail_11 : decode cX5_mayFail 11 = .ok (.iconst 4, 1) := by decide +kernel
theorem dX5_mayFail_12 : decode cX5_mayFail 12 = .ok (.if_icmp .eq 10, 3) := by decide +kernel
theorem dX5_mayFail_15 : decode cX5_mayFail 15 = .ok (.iload_n 3, 1) := by decide +kernel
theorem dX5_mayFail_16 : decode cX5_mayFail 16 = .ok (.iconst 5, 1) := by decide +kernel
theorem dX5_mayFail_17 : decode cX5_mayFail 17 = .ok (.if_icmp .eq 5, 3) := by decide +kernel
theorem dX5_mayFail_20 : decode cX5_mayFail 20 = .ok (.iconst 0, 1) := by decide +kernel
theorem dX5_mayFail_21 : decode cX5_mayFail 21 = .ok (.ireturn, 1) := by decide +kernel
theorem dX5_mayFail_22 : decode cX5_mayFail 22 = .ok (.aload_n 1, 1) := by decide +kernel
theorem dX5_mayFail_23 : decode cX5_mayFail 23 = .ok (.getfield 67, 3) := by decide +kernel
theorem dX5_mayFail_26 : decode cX5_mayFail 26 = .ok (.getfield 93, 3) := by decide +kernel
theorem dX5_mayFail_29 : decode cX5_mayFail 29 = .ok (.iload_n 2, 1) := by decide +kernel
theorem dX5_mayFail_30 : decode cX5_mayFail 30 = .ok (.iaload, 1) := by decide +kernel
theorem dX5_mayFail_31 : decode cX5_mayFail 31 = .ok (.istore 4, 2) := by decide +kernel
theorem dX5_mayFail_33 : decode cX5_mayFail 33 = .ok (.aload_n 0, 1) := by decide +kernel
theorem dX5_mayFail_34 : decode cX5_mayFail 34 = .ok (.aload_n 1, 1) := by decide +kernel
theorem dX5_mayFail_35 : decode cX5_mayFail 35 = .ok (.iload 4, 2) := by decide +kernel
theorem dX5_mayFail_37 : decode cX5_mayFail 37 = .ok (.invokevirtual 85, 3) := by decide +kernel
theorem dX5_mayFail_40 : decode cX5_mayFail 40 = .ok (.ifCond .eq 13, 3) := by decide +kernel
theorem dX5_mayFail_43 : decode cX5_mayFail 43 = .ok (.aload_n 0, 1) := by decide +kernel
theorem dX5_mayFail_44 : decode cX5_mayFail 44 = .ok (.aload_n 1, 1) := by decide +kernel
theorem dX5_mayFail_45 : decode cX5_mayFail 45 = .ok (.iload 4, 2) := by decide +kernel
theorem dX5_mayFail_47 : decode cX5_mayFail 47 = .ok (.invokevirtual 89, 3) := by decide +kernel
theorem dX5_mayFail_50 : decode cX5_mayFail 50 = .ok (.ifCond .ne 7, 3) := by decide +kernel
theorem dX5_mayFail_53 : decode cX5_mayFail 53 = .ok (.iconst 1, 1) := by decide +kernel
theorem dX5_mayFail_54 : decode cX5_mayFail 54 = .ok (.goto 4, 3) := by decide +kernel
theorem dX5_mayFail_57 : decode cX5_mayFail 57 = .ok (.iconst 0, 1) := by decide +kernel
theorem dX5_mayFail_58 : decode cX5_mayFail 58 = .ok (.ireturn, 1) := by decide +kernel
theorem dX5_numberOf_0 : decode cX5_numberOf 0 = .ok (.aload_n 1, 1) := by decide +kernel
theorem dX5_numberOf_1 : decode cX5_numberOf 1 = .ok (.getfield 67, 3) := by decide +kernel
theorem dX5_numberOf_4 : decode cX5_numberOf 4 = .ok (.getfield 82, 3) := by decide +kernel
theorem dX5_numberOf_7 : decode cX5_numberOf 7 = .ok (.aload_n 0, 1) := by decide +kernel
theorem dX5_numberOf_8 : decode cX5_numberOf 8 = .ok (.getfield 9, 3) := by decide +kernel
theorem dX5_numberOf_11 : decode cX5_numberOf 11 = .ok (.iload_n 2, 1) := by decide +kernel
theorem dX5_numberOf_12 : decode cX5_numberOf 12 = .ok (.iaload, 1) := by decide +kernel
theorem dX5_numberOf_13 : decode cX5_numberOf 13 = .ok (.iaload, 1) := by decide +kernel
theorem dX5_numberOf_14 : decode cX5_numberOf 14 = .ok (.ireturn, 1) := by decide +kernel
theorem dX5_want_0 : decode cX5_want 0 = .ok (.aload_n 0, 1) := by decide +kernel
theorem dX5_want_1 : decode cX5_want 1 = .ok (.getfield 27, 3) := by decide +kernel
theorem dX5_want_4 : decode cX5_want 4 = .ok (.iload_n 1, 1) := by decide +kernel
theorem dX5_want_5 : decode cX5_want 5 = .ok (.iaload, 1) := by decide +kernel
theorem dX5_want_6 : decode cX5_want 6 = .ok (.ifCond .eq 7, 3) := by decide +kernel
theorem dX5_want_9 : decode cX5_want 9 = .ok (.iconst 1, 1) := by decide +kernel
theorem dX5_want_10 : decode cX5_want 10 = .ok (.goto 4, 3) := by decide +kernel
theorem dX5_want_13 : decode cX5_want 13 = .ok (.iconst 0, 1) := by decide +kernel
theorem dX5_want_14 : decode cX5_want 14 = .ok (.istore_n 2, 1) := by decide +kernel
theorem dX5_want_15 : decode cX5_want 15 = .ok (.aload_n 0, 1) := by decide +kernel
theorem dX5_want_16 : decode cX5_want 16 = .ok (.getfield 27, 3) := by decide +kernel
theorem dX5_want_19 : decode cX5_want 19 = .ok (.iload_n 1, 1) := by decide +kernel
theorem dX5_want_20 : decode cX5_want 20 = .ok (.iconst 0, 1) := by decide +kernel
theorem dX5_want_21 : decode cX5_want 21 = .ok (.iastore, 1) := by decide +kernel
theorem dX5_want_22 : decode cX5_want 22 = .ok (.iload_n 2, 1) := by decide +kernel
theorem dX5_want_23 : decode cX5_want 23 = .ok (.ireturn, 1) := by decide +kernel
theorem dX5_wantInBlock_0 : decode cX5_wantInBlock 0 = .ok (.aload_n 1, 1) := by decide +kernel
theorem dX5_wantInBlock_1 : decode cX5_wantInBlock 1 = .ok (.getfield 164, 3) := by decide +kernel
theorem dX5_wantInBlock_4 : decode cX5_wantInBlock 4 = .ok (.iload_n 2, 1) := by decide +kernel
theorem dX5_wantInBlock_5 : decode cX5_wantInBlock 5 = .ok (.iaload, 1) := by decide +kernel
theorem dX5_wantInBlock_6 : decode cX5_wantInBlock 6 = .ok (.ifCond .lt 20, 3) := by decide +kernel
theorem dX5_wantInBlock_9 : decode cX5_wantInBlock 9 = .ok (.aload_n 0, 1) := by decide +kernel
theorem dX5_wantInBlock_10 : decode cX5_wantInBlock 10 = .ok (.aload_n 1, 1) := by decide +kernel
theorem dX5_wantInBlock_11 : decode cX5_wantInBlock 11 = .ok (.getfield 164, 3) := by decide +kernel
theorem dX5_wantInBlock_14 : decode cX5_wantInBlock 14 = .ok (.iload_n 2, 1) := by decide +kernel
theorem dX5_wantInBlock_15 : decode cX5_wantInBlock 15 = .ok (.iaload, 1) := by decide +kernel
theorem dX5_wantInBlock_16 : decode cX5_wantInBlock 16 = .ok (.invokevirtual 273, 3) := by decide +kernel
theorem dX5_wantInBlock_19 : decode cX5_wantInBlock 19 = .ok (.ifCond .eq 7, 3) := by decide +kernel
theorem dX5_wantInBlock_22 : decode cX5_wantInBlock 22 = .ok (.iconst 1, 1) := by decide +kernel
theorem dX5_wantInBlock_23 : decode cX5_wantInBlock 23 = .ok (.goto 4, 3) := by decide +kernel
theorem dX5_wantInBlock_26 : decode cX5_wantInBlock 26 = .ok (.iconst 0, 1) := by decide +kernel
theorem dX5_wantInBlock_27 : decode cX5_wantInBlock 27 = .ok (.istore_n 3, 1) := by decide +kernel
theorem dX5_wantInBlock_28 : decode cX5_wantInBlock 28 = .ok (.aload_n 1, 1) := by decide +kernel
theorem dX5_wantInBlock_29 : decode cX5_wantInBlock 29 = .ok (.getfield 67, 3) := by decide +kernel
theorem dX5_wantInBlock_32 : decode cX5_wantInBlock 32 = .ok (.astore 4, 2) := by decide +kernel
theorem dX5_wantInBlock_34 : decode cX5_wantInBlock 34 = .ok (.aload_n 1, 1) := by decide +kernel
theorem dX5_wantInBlock_35 : decode cX5_wantInBlock 35 = .ok (.getfield 64, 3) := by decide +kernel
theorem dX5_wantInBlock_38 : decode cX5_wantInBlock 38 = .ok (.iload_n 2, 1) := by decide +kernel
theorem dX5_wantInBlock_39 : decode cX5_wantInBlock 39 = .ok (.iaload, 1) := by decide +kernel
theorem dX5_wantInBlock_40 : decode cX5_wantInBlock 40 = .ok (.istore 5, 2) := by decide +kernel
theorem dX5_wantInBlock_42 : decode cX5_wantInBlock 42 = .ok (.iload 5, 2) := by decide +kernel
theorem dX5_wantInBlock_44 : decode cX5_wantInBlock 44 = .ok (.ifCond .lt 165, 3) := by decide +kernel
theorem dX5_wantInBlock_47 : decode cX5_wantInBlock 47 = .ok (.aload 4, 2) := by decide +kernel
theorem dX5_wantInBlock_49 : decode cX5_wantInBlock 49 = .ok (.getfield 79, 3) := by decide +kernel
theorem dX5_wantInBlock_52 : decode cX5_wantInBlock 52 = .ok (.iload 5, 2) := by decide +kernel
theorem dX5_wantInBlock_54 : decode cX5_wantInBlock 54 = .ok (.iaload, 1) := by decide +kernel
theorem dX5_wantInBlock_55 : decode cX5_wantInBlock 55 = .ok (.istore 6, 2) := by decide +kernel
theorem dX5_wantInBlock_57 : decode cX5_wantInBlock 57 = .ok (.iload 6, 2) := by decide +kernel
theorem dX5_wantInBlock_59 : decode cX5_wantInBlock 59 = .ok (.bipush 18, 2) := by decide +kernel
theorem dX5_wantInBlock_61 : decode cX5_wantInBlock 61 = .ok (.if_icmp .eq 20, 3) := by decide +kernel
theorem dX5_wantInBlock_64 : decode cX5_wantInBlock 64 = .ok (.iload 6, 2) := by decide +kernel
theorem dX5_wantInBlock_66 : decode cX5_wantInBlock 66 = .ok (.bipush 19, 2) := by decide +kernel
theorem dX5_wantInBlock_68 : decode cX5_wantInBlock 68 = .ok (.if_icmp .eq 13, 3) := by decide +kernel
theorem dX5_wantInBlock_71 : decode cX5_wantInBlock 71 = .ok (.aload_n 0, 1) := by decide +kernel
theorem dX5_wantInBlock_72 : decode cX5_wantInBlock 72 = .ok (.aload_n 1, 1) := by decide +kernel
theorem dX5_wantInBlock_73 : decode cX5_wantInBlock 73 = .ok (.iload 5, 2) := by decide +kernel
theorem dX5_wantInBlock_75 : decode cX5_wantInBlock 75 = .ok (.invokevirtual 276, 3) := by decide +kernel
theorem dX5_wantInBlock_78 : decode cX5_wantInBlock 78 = .ok (.ifCond .eq 24, 3) := by decide +kernel
theorem dX5_wantInBlock_81 : decode cX5_wantInBlock 81 = .ok (.aload_n 0, 1) := by decide +kernel
theorem dX5_wantInBlock_82 : decode cX5_wantInBlock 82 = .ok (.aload 4, 2) := by decide +kernel
theorem dX5_wantInBlock_84 : decode cX5_wantInBlock 84 = .ok (.iload 5, 2) := by decide +kernel
theorem dX5_wantInBlock_86 : decode cX5_wantInBlock 86 = .ok (.invokevirtual 279, 3) := by decide +kernel
theorem dX5_wantInBlock_89 : decode cX5_wantInBlock 89 = .ok (.ifCond .ne 7, 3) := by decide +kernel
theorem dX5_wantInBlock_92 : decode cX5_wantInBlock 92 = .ok (.iload_n 3, 1) := by decide +kernel
theorem dX5_wantInBlock_93 : decode cX5_wantInBlock 93 = .ok (.ifCond .eq 7, 3) := by decide +kernel
theorem dX5_wantInBlock_96 : decode cX5_wantInBlock 96 = .ok (.iconst 1, 1) := by decide +kernel
theorem dX5_wantInBlock_97 : decode cX5_wantInBlock 97 = .ok (.goto 4, 3) := by decide +kernel
theorem dX5_wantInBlock_100 : decode cX5_wantInBlock 100 = .ok (.iconst 0, 1) := by decide +kernel
theorem dX5_wantInBlock_101 : decode cX5_wantInBlock 101 = .ok (.istore_n 3, 1) := by decide +kernel
theorem dX5_wantInBlock_102 : decode cX5_wantInBlock 102 = .ok (.aload 4, 2) := by decide +kernel
theorem dX5_wantInBlock_104 : decode cX5_wantInBlock 104 = .ok (.getfield 71, 3) := by decide +kernel
theorem dX5_wantInBlock_107 : decode cX5_wantInBlock 107 = .ok (.iload 5, 2) := by decide +kernel
theorem dX5_wantInBlock_109 : decode cX5_wantInBlock 109 = .ok (.iaload, 1) := by decide +kernel
theorem dX5_wantInBlock_110 : decode cX5_wantInBlock 110 = .ok (.ifCond .lt 38, 3) := by decide +kernel
theorem dX5_wantInBlock_113 : decode cX5_wantInBlock 113 = .ok (.aload_n 0, 1) := by decide +kernel
theorem dX5_wantInBlock_114 : decode cX5_wantInBlock 114 = .ok (.aload_n 1, 1) := by decide +kernel
theorem dX5_wantInBlock_115 : decode cX5_wantInBlock 115 = .ok (.iload 5, 2) := by decide +kernel
theorem dX5_wantInBlock_117 : decode cX5_wantInBlock 117 = .ok (.invokevirtual 276, 3) := by decide +kernel
theorem dX5_wantInBlock_120 : decode cX5_wantInBlock 120 = .ok (.ifCond .eq 28, 3) := by decide +kernel
theorem dX5_wantInBlock_123 : decode cX5_wantInBlock 123 = .ok (.aload_n 0, 1) := by decide +kernel
theorem dX5_wantInBlock_124 : decode cX5_wantInBlock 124 = .ok (.aload 4, 2) := by decide +kernel
theorem dX5_wantInBlock_126 : decode cX5_wantInBlock 126 = .ok (.getfield 71, 3) := by decide +kernel
theorem dX5_wantInBlock_129 : decode cX5_wantInBlock 129 = .ok (.iload 5, 2) := by decide +kernel
theorem dX5_wantInBlock_131 : decode cX5_wantInBlock 131 = .ok (.iaload, 1) := by decide +kernel
theorem dX5_wantInBlock_132 : decode cX5_wantInBlock 132 = .ok (.invokevirtual 273, 3) := by decide +kernel
theorem dX5_wantInBlock_135 : decode cX5_wantInBlock 135 = .ok (.ifCond .ne 7, 3) := by decide +kernel
theorem dX5_wantInBlock_138 : decode cX5_wantInBlock 138 = .ok (.iload_n 3, 1) := by decide +kernel
theorem dX5_wantInBlock_139 : decode cX5_wantInBlock 139 = .ok (.ifCond .eq 7, 3) := by decide +kernel
theorem dX5_wantInBlock_142 : decode cX5_wantInBlock 142 = .ok (.iconst 1, 1) := by decide +kernel
theorem dX5_wantInBlock_143 : decode cX5_wantInBlock 143 = .ok (.goto 4, 3) := by decide +kernel
theorem dX5_wantInBlock_146 : decode cX5_wantInBlock 146 = .ok (.iconst 0, 1) := by decide +kernel
theorem dX5_wantInBlock_147 : decode cX5_wantInBlock 147 = .ok (.istore_n 3, 1) := by decide +kernel
theorem dX5_wantInBlock_148 : decode cX5_wantInBlock 148 = .ok (.aload 4, 2) := by decide +kernel
theorem dX5_wantInBlock_150 : decode cX5_wantInBlock 150 = .ok (.getfield 71, 3) := by decide +kernel
theorem dX5_wantInBlock_153 : decode cX5_wantInBlock 153 = .ok (.iload 5, 2) := by decide +kernel
theorem dX5_wantInBlock_155 : decode cX5_wantInBlock 155 = .ok (.iaload, 1) := by decide +kernel
theorem dX5_wantInBlock_156 : decode cX5_wantInBlock 156 = .ok (.ifCond .lt 40, 3) := by decide +kernel
theorem dX5_wantInBlock_159 : decode cX5_wantInBlock 159 = .ok (.aload_n 0, 1) := by decide +kernel
theorem dX5_wantInBlock_160 : decode cX5_wantInBlock 160 = .ok (.getfield 27, 3) := by decide +kernel
theorem dX5_wantInBlock_163 : decode cX5_wantInBlock 163 = .ok (.aload 4, 2) := by decide +kernel
theorem dX5_wantInBlock_165 : decode cX5_wantInBlock 165 = .ok (.getfield 71, 3) := by decide +kernel
theorem dX5_wantInBlock_168 : decode cX5_wantInBlock 168 = .ok (.iload 5, 2) := by decide +kernel
theorem dX5_wantInBlock_170 : decode cX5_wantInBlock 170 = .ok (.iaload, 1) := by decide +kernel
theorem dX5_wantInBlock_171 : decode cX5_wantInBlock 171 = .ok (.iaload, 1) := by decide +kernel
theorem dX5_wantInBlock_172 : decode cX5_wantInBlock 172 = .ok (.ifCond .ne 24, 3) := by decide +kernel
theorem dX5_wantInBlock_175 : decode cX5_wantInBlock 175 = .ok (.aload_n 0, 1) := by decide +kernel
theorem dX5_wantInBlock_176 : decode cX5_wantInBlock 176 = .ok (.aload 4, 2) := by decide +kernel
theorem dX5_wantInBlock_178 : decode cX5_wantInBlock 178 = .ok (.iload 5, 2) := by decide +kernel
theorem dX5_wantInBlock_180 : decode cX5_wantInBlock 180 = .ok (.invokevirtual 279, 3) := by decide +kernel
theorem dX5_wantInBlock_183 : decode cX5_wantInBlock 183 = .ok (.ifCond .ne 7, 3) := by decide +kernel
theorem dX5_wantInBlock_186 : decode cX5_wantInBlock 186 = .ok (.iload_n 3, 1) := by decide +kernel
theorem dX5_wantInBlock_187 : decode cX5_wantInBlock 187 = .ok (.ifCond .eq 7, 3) := by decide +kernel
theorem dX5_wantInBlock_190 : decode cX5_wantInBlock 190 = .ok (.iconst 1, 1) := by decide +kernel
theorem dX5_wantInBlock_191 : decode cX5_wantInBlock 191 = .ok (.goto 4, 3) := by decide +kernel
theorem dX5_wantInBlock_194 : decode cX5_wantInBlock 194 = .ok (.iconst 0, 1) := by decide +kernel
theorem dX5_wantInBlock_195 : decode cX5_wantInBlock 195 = .ok (.istore_n 3, 1) := by decide +kernel
theorem dX5_wantInBlock_196 : decode cX5_wantInBlock 196 = .ok (.aload 4, 2) := by decide +kernel
theorem dX5_wantInBlock_198 : decode cX5_wantInBlock 198 = .ok (.getfield 76, 3) := by decide +kernel
theorem dX5_wantInBlock_201 : decode cX5_wantInBlock 201 = .ok (.iload 5, 2) := by decide +kernel
theorem dX5_wantInBlock_203 : decode cX5_wantInBlock 203 = .ok (.iaload, 1) := by decide +kernel
theorem dX5_wantInBlock_204 : decode cX5_wantInBlock 204 = .ok (.istore 5, 2) := by decide +kernel
theorem dX5_wantInBlock_206 : decode cX5_wantInBlock 206 = .ok (.goto (-164), 3) := by decide +kernel
theorem dX5_wantInBlock_209 : decode cX5_wantInBlock 209 = .ok (.aload_n 1, 1) := by decide +kernel
theorem dX5_wantInBlock_210 : decode cX5_wantInBlock 210 = .ok (.getfield 55, 3) := by decide +kernel
theorem dX5_wantInBlock_213 : decode cX5_wantInBlock 213 = .ok (.iload_n 2, 1) := by decide +kernel
theorem dX5_wantInBlock_214 : decode cX5_wantInBlock 214 = .ok (.iaload, 1) := by decide +kernel
theorem dX5_wantInBlock_215 : decode cX5_wantInBlock 215 = .ok (.istore 5, 2) := by decide +kernel
theorem dX5_wantInBlock_217 : decode cX5_wantInBlock 217 = .ok (.iload 5, 2) := by decide +kernel
theorem dX5_wantInBlock_219 : decode cX5_wantInBlock 219 = .ok (.ifCond .lt 79, 3) := by decide +kernel
theorem dX5_wantInBlock_222 : decode cX5_wantInBlock 222 = .ok (.aload_n 0, 1) := by decide +kernel
theorem dX5_wantInBlock_223 : decode cX5_wantInBlock 223 = .ok (.getfield 27, 3) := by decide +kernel
theorem dX5_wantInBlock_226 : decode cX5_wantInBlock 226 = .ok (.aload_n 1, 1) := by decide +kernel
theorem dX5_wantInBlock_227 : decode cX5_wantInBlock 227 = .ok (.getfield 58, 3) := by decide +kernel
theorem dX5_wantInBlock_230 : decode cX5_wantInBlock 230 = .ok (.iload 5, 2) := by decide +kernel
theorem dX5_wantInBlock_232 : decode cX5_wantInBlock 232 = .ok (.iaload, 1) := by decide +kernel
theorem dX5_wantInBlock_233 : decode cX5_wantInBlock 233 = .ok (.iaload, 1) := by decide +kernel
theorem dX5_wantInBlock_234 : decode cX5_wantInBlock 234 = .ok (.ifCond .ne 52, 3) := by decide +kernel
theorem dX5_wantInBlock_237 : decode cX5_wantInBlock 237 = .ok (.iconst 0, 1) := by decide +kernel
theorem dX5_wantInBlock_238 : decode cX5_wantInBlock 238 = .ok (.istore 6, 2) := by decide +kernel
theorem dX5_wantInBlock_240 : decode cX5_wantInBlock 240 = .ok (.iload 6, 2) := by decide +kernel
theorem dX5_wantInBlock_242 : decode cX5_wantInBlock 242 = .ok (.aload_n 1, 1) := by decide +kernel
theorem dX5_wantInBlock_243 : decode cX5_wantInBlock 243 = .ok (.iload_n 2, 1) := by decide +kernel
theorem dX5_wantInBlock_244 : decode cX5_wantInBlock 244 = .ok (.invokevirtual 134, 3) := by decide +kernel
theorem dX5_wantInBlock_247 : decode cX5_wantInBlock 247 = .ok (.if_icmp .ge 39, 3) := by decide +kernel
theorem dX5_wantInBlock_250 : decode cX5_wantInBlock 250 = .ok (.aload_n 0, 1) := by decide +kernel
theorem dX5_wantInBlock_251 : decode cX5_wantInBlock 251 = .ok (.aload_n 1, 1) := by decide +kernel
theorem dX5_wantInBlock_252 : decode cX5_wantInBlock 252 = .ok (.iload 5, 2) := by decide +kernel
theorem dX5_wantInBlock_254 : decode cX5_wantInBlock 254 = .ok (.aload_n 1, 1) := by decide +kernel
theorem dX5_wantInBlock_255 : decode cX5_wantInBlock 255 = .ok (.iload_n 2, 1) := by decide +kernel
theorem dX5_wantInBlock_256 : decode cX5_wantInBlock 256 = .ok (.iload 6, 2) := by decide +kernel
theorem dX5_wantInBlock_258 : decode cX5_wantInBlock 258 = .ok (.invokevirtual 138, 3) := by decide +kernel
theorem dX5_wantInBlock_261 : decode cX5_wantInBlock 261 = .ok (.invokevirtual 142, 3) := by decide +kernel
theorem dX5_wantInBlock_264 : decode cX5_wantInBlock 264 = .ok (.invokevirtual 273, 3) := by decide +kernel
theorem dX5_wantInBlock_267 : decode cX5_wantInBlock 267 = .ok (.ifCond .ne 7, 3) := by decide +kernel
theorem dX5_wantInBlock_270 : decode cX5_wantInBlock 270 = .ok (.iload_n 3, 1) := by decide +kernel
theorem dX5_wantInBlock_271 : decode cX5_wantInBlock 271 = .ok (.ifCond .eq 7, 3) := by decide +kernel
theorem dX5_wantInBlock_274 : decode cX5_wantInBlock 274 = .ok (.iconst 1, 1) := by decide +kernel
theorem dX5_wantInBlock_275 : decode cX5_wantInBlock 275 = .ok (.goto 4, 3) := by decide +kernel
theorem dX5_wantInBlock_278 : decode cX5_wantInBlock 278 = .ok (.iconst 0, 1) := by decide +kernel
theorem dX5_wantInBlock_279 : decode cX5_wantInBlock 279 = .ok (.istore_n 3, 1) := by decide +kernel
theorem dX5_wantInBlock_280 : decode cX5_wantInBlock 280 = .ok (.iinc 6 1, 3) := by decide +kernel
theorem dX5_wantInBlock_283 : decode cX5_wantInBlock 283 = .ok (.goto (-43), 3) := by decide +kernel
theorem dX5_wantInBlock_286 : decode cX5_wantInBlock 286 = .ok (.aload_n 1, 1) := by decide +kernel
theorem dX5_wantInBlock_287 : decode cX5_wantInBlock 287 = .ok (.getfield 61, 3) := by decide +kernel
theorem dX5_wantInBlock_290 : decode cX5_wantInBlock 290 = .ok (.iload 5, 2) := by decide +kernel
theorem dX5_wantInBlock_292 : decode cX5_wantInBlock 292 = .ok (.iaload, 1) := by decide +kernel
theorem dX5_wantInBlock_293 : decode cX5_wantInBlock 293 = .ok (.istore 5, 2) := by decide +kernel
theorem dX5_wantInBlock_295 : decode cX5_wantInBlock 295 = .ok (.goto (-78), 3) := by decide +kernel
theorem dX5_wantInBlock_298 : decode cX5_wantInBlock 298 = .ok (.iload_n 3, 1) := by decide +kernel
theorem dX5_wantInBlock_299 : decode cX5_wantInBlock 299 = .ok (.ireturn, 1) := by decide +kernel
theorem dX5_wantUsed_0 : decode cX5_wantUsed 0 = .ok (.aload_n 1, 1) := by decide +kernel
theorem dX5_wantUsed_1 : decode cX5_wantUsed 1 = .ok (.getfield 79, 3) := by decide +kernel
theorem dX5_wantUsed_4 : decode cX5_wantUsed 4 = .ok (.iload_n 2, 1) := by decide +kernel
theorem dX5_wantUsed_5 : decode cX5_wantUsed 5 = .ok (.iaload, 1) := by decide +kernel
theorem dX5_wantUsed_6 : decode cX5_wantUsed 6 = .ok (.invokestatic 221, 3) := by decide +kernel
theorem dX5_wantUsed_9 : decode cX5_wantUsed 9 = .ok (.ifCond .eq 20, 3) := by decide +kernel
theorem dX5_wantUsed_12 : decode cX5_wantUsed 12 = .ok (.aload_n 0, 1) := by decide +kernel
theorem dX5_wantUsed_13 : decode cX5_wantUsed 13 = .ok (.aload_n 1, 1) := by decide +kernel
theorem dX5_wantUsed_14 : decode cX5_wantUsed 14 = .ok (.getfield 82, 3) := by decide +kernel
theorem dX5_wantUsed_17 : decode cX5_wantUsed 17 = .ok (.iload_n 2, 1) := by decide +kernel
theorem dX5_wantUsed_18 : decode cX5_wantUsed 18 = .ok (.iaload, 1) := by decide +kernel
theorem dX5_wantUsed_19 : decode cX5_wantUsed 19 = .ok (.invokevirtual 273, 3) := by decide +kernel
theorem dX5_wantUsed_22 : decode cX5_wantUsed 22 = .ok (.ifCond .eq 7, 3) := by decide +kernel
theorem dX5_wantUsed_25 : decode cX5_wantUsed 25 = .ok (.iconst 1, 1) := by decide +kernel
theorem dX5_wantUsed_26 : decode cX5_wantUsed 26 = .ok (.goto 4, 3) := by decide +kernel
theorem dX5_wantUsed_29 : decode cX5_wantUsed 29 = .ok (.iconst 0, 1) := by decide +kernel
theorem dX5_wantUsed_30 : decode cX5_wantUsed 30 = .ok (.istore_n 3, 1) := by decide +kernel
theorem dX5_wantUsed_31 : decode cX5_wantUsed 31 = .ok (.aload_n 1, 1) := by decide +kernel
theorem dX5_wantUsed_32 : decode cX5_wantUsed 32 = .ok (.getfield 79, 3) := by decide +kernel
theorem dX5_wantUsed_35 : decode cX5_wantUsed 35 = .ok (.iload_n 2, 1) := by decide +kernel
theorem dX5_wantUsed_36 : decode cX5_wantUsed 36 = .ok (.iaload, 1) := by decide +kernel
theorem dX5_wantUsed_37 : decode cX5_wantUsed 37 = .ok (.invokestatic 224, 3) := by decide +kernel
theorem dX5_wantUsed_40 : decode cX5_wantUsed 40 = .ok (.ifCond .eq 16, 3) := by decide +kernel
theorem dX5_wantUsed_43 : decode cX5_wantUsed 43 = .ok (.aload_n 0, 1) := by decide +kernel
theorem dX5_wantUsed_44 : decode cX5_wantUsed 44 = .ok (.aload_n 1, 1) := by decide +kernel
theorem dX5_wantUsed_45 : decode cX5_wantUsed 45 = .ok (.getfield 93, 3) := by decide +kernel
theorem dX5_wantUsed_48 : decode cX5_wantUsed 48 = .ok (.iload_n 2, 1) := by decide +kernel
theorem dX5_wantUsed_49 : decode cX5_wantUsed 49 = .ok (.iaload, 1) := by decide +kernel
theorem dX5_wantUsed_50 : decode cX5_wantUsed 50 = .ok (.invokevirtual 273, 3) := by decide +kernel
theorem dX5_wantUsed_53 : decode cX5_wantUsed 53 = .ok (.ifCond .ne 7, 3) := by decide +kernel
theorem dX5_wantUsed_56 : decode cX5_wantUsed 56 = .ok (.iload_n 3, 1) := by decide +kernel
theorem dX5_wantUsed_57 : decode cX5_wantUsed 57 = .ok (.ifCond .eq 7, 3) := by decide +kernel
theorem dX5_wantUsed_60 : decode cX5_wantUsed 60 = .ok (.iconst 1, 1) := by decide +kernel
theorem dX5_wantUsed_61 : decode cX5_wantUsed 61 = .ok (.goto 4, 3) := by decide +kernel
theorem dX5_wantUsed_64 : decode cX5_wantUsed 64 = .ok (.iconst 0, 1) := by decide +kernel
theorem dX5_wantUsed_65 : decode cX5_wantUsed 65 = .ok (.ireturn, 1) := by decide +kernel
theorem qw438 : Cond.code yX5_findGivers cX5_findGivers 5 (Option.none : Option Jvm.ClassFile.FieldType) ∈ gw := mq_7 (i := 214) rfl rfl
theorem qw439 : Cond.methodLink RX5 191 yX5_findGivers ∈ gw := mq_7 (i := 211) rfl rfl
theorem qw440 : Cond.instanceMethod yX5_findGivers ∈ gw := mq_7 (i := 213) rfl rfl
theorem qw441 : Cond.selects RX5 yX5_findGivers yX5_findGivers ∈ gw := mk_s (i := 29) rfl rfl
theorem qw442 : Cond.initialized RX5 ∈ gw := mq_1 (i := 23) rfl rfl
theorem qw443 : Cond.fieldLink RX5 27 "Gearbox$Passes" "marks" "[I" ∈ gw := mq_2 (i := 216) rfl rfl
theorem qw444 : Cond.constant RX5 100 (1000000) ∈ gw := mq_7 (i := 145) rfl rfl
theorem qw445 : Cond.fieldLink RX5 164 "Gearbox$Flow" "endValue" "[I" ∈ gw := mq_2 (i := 15) rfl rfl
theorem qw446 : Cond.code yX11_usesLeft cX11_usesLeft 1 (Option.some Jvm.ClassFile.FieldType.boolean) ∈ gw := mq_8 (i := 43) rfl rfl
theorem qw447 : Cond.static yX11_usesLeft ∈ gw := mq_8 (i := 42) rfl rfl
theorem qw448 : Cond.code yX5_want cX5_want 3 (Option.some Jvm.ClassFile.FieldType.boolean) ∈ gw := mq_8 (i := 60) rfl rfl
theorem qw449 : Cond.methodLink RX5 273 yX5_want ∈ gw := mq_8 (i := 57) rfl rfl
theorem qw450 : Cond.instanceMethod yX5_want ∈ gw := mq_8 (i := 59) rfl rfl
theorem qw451 : Cond.selects RX5 yX5_want yX5_want ∈ gw := mk_s (i := 30) rfl rfl
theorem qw452 : Cond.code yX5_wantUsed cX5_wantUsed 4 (Option.some Jvm.ClassFile.FieldType.boolean) ∈ gw := mq_8 (i := 68) rfl rfl
theorem qw453 : Cond.methodLink RX5 279 yX5_wantUsed ∈ gw := mq_8 (i := 65) rfl rfl
theorem qw454 : Cond.instanceMethod yX5_wantUsed ∈ gw := mq_8 (i := 67) rfl rfl
theorem qw455 : Cond.selects RX5 yX5_wantUsed yX5_wantUsed ∈ gw := mk_s (i := 31) rfl rfl
theorem qw456 : Cond.code yX5_isNumber cX5_isNumber 3 (Option.some Jvm.ClassFile.FieldType.boolean) ∈ gw := mq_8 (i := 2) rfl rfl
theorem qw457 : Cond.methodLink RX5 85 yX5_isNumber ∈ gw := mq_7 (i := 239) rfl rfl
theorem qw458 : Cond.instanceMethod yX5_isNumber ∈ gw := mq_8 (i := 1) rfl rfl
theorem qw459 : Cond.selects RX5 yX5_isNumber yX5_isNumber ∈ gw := mk_s (i := 32) rfl rfl
theorem qw460 : Cond.code yX5_numberOf cX5_numberOf 3 (Option.some Jvm.ClassFile.FieldType.int) ∈ gw := mq_8 (i := 6) rfl rfl
theorem qw461 : Cond.methodLink RX5 89 yX5_numberOf ∈ gw := mq_8 (i := 3) rfl rfl
theorem qw462 : Cond.instanceMethod yX5_numberOf ∈ gw := mq_8 (i := 5) rfl rfl
theorem qw463 : Cond.selects RX5 yX5_numberOf yX5_numberOf ∈ gw := mk_s (i := 33) rfl rfl
theorem qw464 : Cond.code yX5_mayFail cX5_mayFail 5 (Option.some Jvm.ClassFile.FieldType.boolean) ∈ gw := mq_8 (i := 64) rfl rfl
theorem qw465 : Cond.methodLink RX5 276 yX5_mayFail ∈ gw := mq_8 (i := 61) rfl rfl
theorem qw466 : Cond.instanceMethod yX5_mayFail ∈ gw := mq_8 (i := 63) rfl rfl
theorem qw467 : Cond.selects RX5 yX5_mayFail yX5_mayFail ∈ gw := mk_s (i := 34) rfl rfl
theorem qw468 : Cond.code yX1_take cX1_take 3 (Option.some Jvm.ClassFile.FieldType.int) ∈ gw := mq_7 (i := 160) rfl rfl
theorem qw469 : Cond.methodLink RX5 142 yX1_take ∈ gw := mq_7 (i := 157) rfl rfl
theorem qw470 : Cond.instanceMethod yX1_take ∈ gw := mq_7 (i := 158) rfl rfl
theorem qw471 : Cond.selects RX1 yX1_take yX1_take ∈ gw := mq_7 (i := 159) rfl rfl
theorem qw472 : Cond.code yX5_wantInBlock cX5_wantInBlock 7 (Option.some Jvm.ClassFile.FieldType.boolean) ∈ gw := mq_8 (i := 56) rfl rfl
theorem qw473 : Cond.methodLink RX5 263 yX5_wantInBlock ∈ gw := mq_8 (i := 53) rfl rfl
theorem qw474 : Cond.instanceMethod yX5_wantInBlock ∈ gw := mq_8 (i := 55) rfl rfl
theorem qw475 : Cond.selects RX5 yX5_wantInBlock yX5_wantInBlock ∈ gw := mk_s (i := 35) rfl rfl
theorem qw476 : Cond.code yX5_keepUndroppable cX5_keepUndroppable 4 (Option.none : Option Jvm.ClassFile.FieldType) ∈ gw := mq_8 (i := 72) rfl rfl
theorem qw477 : Cond.methodLink RX5 266 yX5_keepUndroppable ∈ gw := mq_8 (i := 69) rfl rfl
theorem qw478 : Cond.instanceMethod yX5_keepUndroppable ∈ gw := mq_8 (i := 71) rfl rfl
theorem qw479 : Cond.selects RX5 yX5_keepUndroppable yX5_keepUndroppable ∈ gw := mk_s (i := 36) rfl rfl
theorem qw480 : Cond.code yX1_countValues cX1_countValues 4 (Option.some Jvm.ClassFile.FieldType.int) ∈ gw := mq_8 (i := 76) rfl rfl
theorem qw481 : Cond.methodLink RX5 269 yX1_countValues ∈ gw := mq_8 (i := 73) rfl rfl
theorem qw482 : Cond.instanceMethod yX1_countValues ∈ gw := mq_8 (i := 74) rfl rfl
theorem qw483 : Cond.selects RX1 yX1_countValues yX1_countValues ∈ gw := mq_8 (i := 75) rfl rfl
theorem qw484 : Cond.code yX1_leaveOut cX1_leaveOut 6 (Option.none : Option Jvm.ClassFile.FieldType) ∈ gw := mq_8 (i := 33) rfl rfl
theorem qw485 : Cond.methodLink RX5 207 yX1_leaveOut ∈ gw := mq_8 (i := 30) rfl rfl
theorem qw486 : Cond.instanceMethod yX1_leaveOut ∈ gw := mq_8 (i := 31) rfl rfl
theorem qw487 : Cond.selects RX1 yX1_leaveOut yX1_leaveOut ∈ gw := mq_8 (i := 32) rfl rfl
theorem qw488 : Cond.methodLink RX5 167 yX1_takeSteps ∈ gw := mq_7 (i := 184) rfl rfl
theorem qw489 : Cond.methodLink RX5 170 yX1_takePhis ∈ gw := mq_7 (i := 188) rfl rfl
theorem qw490 : Cond.fieldLink RX5 18 "Gearbox$Passes" "state" "[I" ∈ gw := mq_2 (i := 213) rfl rfl
theorem qw491 : Cond.fieldLink RX5 21 "Gearbox$Passes" "number" "[I" ∈ gw := mq_2 (i := 214) rfl rfl
theorem qw492 : Cond.methodLink RX5 173 yX1_addStep ∈ gw := mq_7 (i := 192) rfl rfl
theorem qw493 : Cond.methodLink RX5 177 yX1_linkPhi ∈ gw := mq_7 (i := 193) rfl rfl
theorem qw494 : Cond.methodLink RX5 185 yX1_link ∈ gw := mq_7 (i := 197) rfl rfl
theorem qw495 : Cond.code yX5_becomeNumber cX5_becomeNumber 3 (Option.none : Option Jvm.ClassFile.FieldType) ∈ gw := mq_7 (i := 196) rfl rfl
theorem qw496 : Cond.methodLink RX5 181 yX5_becomeNumber ∈ gw := mq_7 (i := 194) rfl rfl
theorem qw497 : Cond.static yX5_becomeNumber ∈ gw := mq_7 (i := 195) rfl rfl
theorem qw498 : Cond.fieldLink RX5 125 "Gearbox$Flow" "first" "[I" ∈ gw := mq_2 (i := 22) rfl rfl
theorem qw499 : Cond.fieldLink RX5 131 "Gearbox$Flow" "second" "[I" ∈ gw := mq_2 (i := 30) rfl rfl
theorem qw500 : Cond.code yX5_foldEnd cX5_foldEnd 3 (Option.some Jvm.ClassFile.FieldType.int) ∈ gw := mq_7 (i := 201) rfl rfl
theorem qw501 : Cond.methodLink RX5 188 yX5_foldEnd ∈ gw := mq_7 (i := 198) rfl rfl
theorem qw502 : Cond.instanceMethod yX5_foldEnd ∈ gw := mq_7 (i := 200) rfl rfl
theorem qw503 : Cond.selects RX5 yX5_foldEnd yX5_foldEnd ∈ gw := mk_s (i := 37) rfl rfl
def fX11_usesLeft_J28 (y0_28 : Int32) : Option Int32 := (if y0_28 = 0 ∨ y0_28 = 1 then some y0_28 else none)
def fX11_usesLeft_J23  : Option Int32 := (fX11_usesLeft_J28 1)
def fX11_usesLeft_J11 (p0 : Int32) : Option Int32 := (if p0 = 25 then (fX11_usesLeft_J23) else (if p0 = 27 then (fX11_usesLeft_J23) else (fX11_usesLeft_J28 0)))
def fX11_usesLeft (p0 : Int32) : Option Int32 := (if p0 < 1 then (fX11_usesLeft_J11 p0) else (if p0 ≤ 19 then (fX11_usesLeft_J23) else (fX11_usesLeft_J11 p0)))
set_option maxHeartbeats 16000000 in
set_option maxRecDepth 100000 in
theorem kX11_usesLeft {zs : Nat × Nat} (l : Launch) (dC : Nat → ClassId) (dI : Nat → Nat → Nat) (p0 : Int32) (sz : Nat) (o : Int32) (hrun : fX11_usesLeft p0 = some o) : Met l yX11_usesLeft (wz yX11_usesLeft cX11_usesLeft 1 (Option.some Jvm.ClassFile.FieldType.boolean)) ({ frames := 0, cells := 0, slots := 0, locals := 0 } : Room) (va_Pc [.int p0] (PRE zs dC dI ([] : va_W) ([] : List (ClassId × FieldType)) sz)) (va_Qi (fun (r : Int32) (_ : Unit) => r = o) (fun _ t => POST dC dI ([] : va_W) ([] : List (ClassId × FieldType)) (va_A ([] : va_W) sz) t) (va_A ([] : va_W) sz)) 0 0 (va_A ([] : va_W) sz) := by
  refine Met.ofW (cc := cX11_usesLeft) (maxL := 1) (ret := (Option.some Jvm.ClassFile.FieldType.boolean)) (by decide) rfl ?_
  intro p e s m args below meth c s₁ B hml hv
  obtain ⟨rfl, hsz, hP, hK, hD0, hE⟩ := hv
  have hx := B.exec
  have hb := B.bytes
  have hr := B.returns
  have hts0 := atoms_spec (ws := wz yX11_usesLeft cX11_usesLeft 1 (Option.some Jvm.ClassFile.FieldType.boolean)) B.pre
  have hts : ∀ w ∈ gw, w.before _ s = true := fun w h => hts0 w (List.mem_cons_of_mem _ h)
  have hown : s.vm.findClass RX11 = some m.cls := findClass_of_methodNamed B.named
  have hlocks := B.notSynchronized
  subst hsz
  have hD := hD0.self (sz := s.heap.size)
  refine gQ9 ?_
  intro Q hQ
  generalize hAe : va_A ([] : va_W) s.heap.size = A at hD hE hQ
  have hA : ∀ q : Nat, s.heap.size ≤ q → A q := fun q h => by rw [← hAe]; exact Or.inr h
  have hS : va_S A s.heap s.heap [] := va_S.rf
  have hP : va_P (dC, dI) cls ([] : va_W) s.heap := hP
  have hl := lv_entry ([.int p0]) (n := 1) (Nat.le_of_ble_eq_true rfl)
  rw [lg_entry_eq]
  generalize (lg_sl ([.int p0]) ++ List.replicate (1 - (lg_sl ([.int p0])).length) Slot.unset).toArray = ls at hl ⊢
  have hl : lv_has ls 1 [(0, .int p0)] := hl
  obtain ⟨H, hHe⟩ : ∃ H, H = s.heap := ⟨_, rfl⟩
  obtain ⟨locs, hle⟩ : ∃ locs : List Loc, locs = [] := ⟨_, rfl⟩
  rw [← hHe] at hP
  have hS : va_S A s.heap H locs := by rw [hHe, hle]; exact hS
  show W p l e ({ frames := 0, cells := 0, slots := 0, locals := 0 } : Room) s m ([.int p0] : List Value).toArray below meth c s.heap [] 0 0 Q (F0 m 0 ls [])
  rw [← hle]
  refine wH9 hHe ?_
  unfold fX11_usesLeft at hrun
  refine lv_iload_n hx hb dX11_usesLeft_0 rfl (lv_at hl 0 rfl) ?_
  refine lv_iconst (v := 1) hx hb dX11_usesLeft_1 (by decide) ?_
  have J28 : ∀ (y0_28 : Int32) (H : Heap) (locs : List Loc) (ls : Array Slot), (fX11_usesLeft_J28 y0_28) = some o → va_P (dC, dI) cls ([] : va_W) H → va_D A ([] : va_W) → va_K (dC, dI) cls ([] : List (ClassId × FieldType)) s → va_S A s.heap H locs → lv_has ls 1 [] → W p l e ({ frames := 0, cells := 0, slots := 0, locals := 0 } : Room) s m ([.int p0] : List Value).toArray below meth c H locs 0 0 Q (F0 m 28 ls [.int y0_28]) := by
    intro y0_28 H locs ls hrun hP hD hK hS hl 
    unfold fX11_usesLeft_J28 at hrun
    obtain ⟨hz9, hrun⟩ := chk9 hrun
    have ho9 : y0_28 = o := Option.some.inj hrun
    have hP9 : va_P (dC, dI) cls ([] : va_W) H := by first | exact hP | (rw [← ho9]; exact hP)
    have hD9 : va_D A ([] : va_W) := by first | exact hD | (rw [← ho9]; exact hD)
    subst hQ
    exact W.zret (v := y0_28) hx hb hr (bz9 hz9) (fun t ht hW => ⟨⟨y0_28, (), rfl, (by rw [← ho9]), ⟨by rw [ht]; exact hP9, va_K.moved hW.alike hK, hD9⟩⟩, hS.F ht⟩) hS.2.2 dX11_usesLeft_28
  have J23 : ∀ (H : Heap) (locs : List Loc) (ls : Array Slot), (fX11_usesLeft_J23) = some o → va_P (dC, dI) cls ([] : va_W) H → va_D A ([] : va_W) → va_K (dC, dI) cls ([] : List (ClassId × FieldType)) s → va_S A s.heap H locs → lv_has ls 1 [] → W p l e ({ frames := 0, cells := 0, slots := 0, locals := 0 } : Room) s m ([.int p0] : List Value).toArray below meth c H locs 0 0 Q (F0 m 23 ls []) := by
    intro  H locs ls hrun hP hD hK hS hl 
    unfold fX11_usesLeft_J23 at hrun
    refine lv_iconst (v := 1) hx hb dX11_usesLeft_23 (by decide) ?_
    refine lv_goto (tgt := 28) hx hb dX11_usesLeft_24 (by decide) ?_
    exact J28 1 _ _ _ hrun hP hD hK hS (lv_sub hl [] rfl)
  have J11 : ∀ (H : Heap) (locs : List Loc) (ls : Array Slot), (fX11_usesLeft_J11 p0) = some o → va_P (dC, dI) cls ([] : va_W) H → va_D A ([] : va_W) → va_K (dC, dI) cls ([] : List (ClassId × FieldType)) s → va_S A s.heap H locs → lv_has ls 1 [(0, .int p0)] → W p l e ({ frames := 0, cells := 0, slots := 0, locals := 0 } : Room) s m ([.int p0] : List Value).toArray below meth c H locs 0 0 Q (F0 m 11 ls []) := by
    intro  H locs ls hrun hP hD hK hS hl 
    unfold fX11_usesLeft_J11 at hrun
    refine lv_iload_n hx hb dX11_usesLeft_11 rfl (lv_at hl 0 rfl) ?_
    refine lv_bipush (v := 25) hx hb dX11_usesLeft_12 (by decide) ?_
    rcases br9 hrun with ⟨hc1, hrun⟩ | ⟨hc1, hrun⟩
    · refine lv_icmp_eq (tgt := 23) hx hb dX11_usesLeft_14 (by decide) (fun _ => ?_) (fun c => absurd hc1 c)
      exact J23 _ _ _ hrun hP hD hK hS (lv_sub hl [] rfl)
    · refine lv_icmp_eq (tgt := 23) hx hb dX11_usesLeft_14 (by decide) (fun c => absurd c hc1) (fun _ => ?_)
      refine lv_iload_n hx hb dX11_usesLeft_17 rfl (lv_at hl 0 rfl) ?_
      refine lv_bipush (v := 27) hx hb dX11_usesLeft_18 (by decide) ?_
      rcases br9 hrun with ⟨hc2, hrun⟩ | ⟨hc2, hrun⟩
      · refine lv_icmp_ne (tgt := 27) hx hb dX11_usesLeft_20 (by decide) (fun c => absurd hc2 c) (fun _ => ?_)
        exact J23 _ _ _ hrun hP hD hK hS (lv_sub hl [] rfl)
      · refine lv_icmp_ne (tgt := 27) hx hb dX11_usesLeft_20 (by decide) (fun _ => ?_) (fun c => absurd c hc2)
        refine lv_iconst (v := 0) hx hb dX11_usesLeft_27 (by decide) ?_
        exact J28 0 _ _ _ hrun hP hD hK hS (lv_sub hl [] rfl)
  rcases br9 hrun with ⟨hc3, hrun⟩ | ⟨hc3, hrun⟩
  · refine lv_icmp_lt (tgt := 11) hx hb dX11_usesLeft_2 (by decide) (fun _ => ?_) (fun c => absurd hc3 c)
    exact J11 _ _ _ hrun hP hD hK hS (lv_sub hl [0] rfl)
  · refine lv_icmp_lt (tgt := 11) hx hb dX11_usesLeft_2 (by decide) (fun c => absurd c hc3) (fun _ => ?_)
    refine lv_iload_n hx hb dX11_usesLeft_5 rfl (lv_at hl 0 rfl) ?_
    refine lv_bipush (v := 19) hx hb dX11_usesLeft_6 (by decide) ?_
    rcases br9 hrun with ⟨hc4, hrun⟩ | ⟨hc4, hrun⟩
    · refine lv_icmp_le (tgt := 23) hx hb dX11_usesLeft_8 (by decide) (fun _ => ?_) (fun c => absurd hc4 c)
      exact J23 _ _ _ hrun hP hD hK hS (lv_sub hl [] rfl)
    · refine lv_icmp_le (tgt := 23) hx hb dX11_usesLeft_8 (by decide) (fun c => absurd c hc4) (fun _ => ?_)
      exact J11 _ _ _ hrun hP hD hK hS (lv_sub hl [0] rfl)
def fX5_want_J14 (p0w : ST) (p1 : Int32) (y0_14 : Int32) : Option (Int32 × ST) := (if ixb p1 250 = true then (lt9 (upw p0w 7 (nn p1) 0) fun (w3 : ST) => (if y0_14 = 0 ∨ y0_14 = 1 then some (y0_14, w3) else none)) else none)
def fX5_want (p0w : ST) (p1 : Int32) : Option (Int32 × ST) := (if ixb p1 250 = true then (if (p0w 7 (nn p1)) = 0 then (fX5_want_J14 p0w p1 0) else (fX5_want_J14 p0w p1 1)) else none)
set_option maxHeartbeats 16000000 in
set_option maxRecDepth 100000 in
theorem kX5_want {zs : Nat × Nat} (l : Launch) (dC : Nat → ClassId) (dI : Nat → Nat → Nat) (p0a : Nat → Nat) (p0k : Nat → ClassId) (p0w : ST) (p0l : SL) (p1 : Int32) (sz : Nat) (o : Int32 × ST) (hrun : fX5_want p0w p1 = some o) : Met l yX5_want (wz yX5_want cX5_want 3 (Option.some Jvm.ClassFile.FieldType.boolean)) ({ frames := 0, cells := 0, slots := 0, locals := 0 } : Room) (va_Pc [.ref (p0a 0), .int p1] (PRE zs dC dI (oX5 (p0a 0) p0a p0k p0w p0l) (tX5 p0k) sz)) (va_Qi (fun (r : Int32) (_ : Unit) => r = (o.1)) (fun _ t => POST dC dI (oX5 (p0a 0) p0a p0k (o.2) p0l) (tX5 p0k) (va_A (oX5 (p0a 0) p0a p0k p0w p0l) sz) t) (va_A (oX5 (p0a 0) p0a p0k p0w p0l) sz)) 0 0 (va_A (oX5 (p0a 0) p0a p0k p0w p0l) sz) := by
  refine Met.ofW (cc := cX5_want) (maxL := 3) (ret := (Option.some Jvm.ClassFile.FieldType.boolean)) (by decide) rfl ?_
  intro p e s m args below meth c s₁ B hml hv
  obtain ⟨rfl, hsz, hP, hK, hD0, hE⟩ := hv
  have hx := B.exec
  have hb := B.bytes
  have hr := B.returns
  have hts0 := atoms_spec (ws := wz yX5_want cX5_want 3 (Option.some Jvm.ClassFile.FieldType.boolean)) B.pre
  have hts : ∀ w ∈ gw, w.before _ s = true := fun w h => hts0 w (List.mem_cons_of_mem _ h)
  have hown : s.vm.findClass RX5 = some m.cls := findClass_of_methodNamed B.named
  have hlocks := B.notSynchronized
  subst hsz
  have hD := hD0.self (sz := s.heap.size)
  refine gQ9 ?_
  intro Q hQ
  generalize hAe : va_A (oX5 (p0a 0) p0a p0k p0w p0l) s.heap.size = A at hD hE hQ
  have hA : ∀ q : Nat, s.heap.size ≤ q → A q := fun q h => by rw [← hAe]; exact Or.inr h
  have hS : va_S A s.heap s.heap [] := va_S.rf
  have hP : va_P (dC, dI) cls (oX5 (p0a 0) p0a p0k p0w p0l) s.heap := hP
  have hl := lv_entry ([.ref (p0a 0), .int p1]) (n := 3) (Nat.le_of_ble_eq_true rfl)
  rw [lg_entry_eq]
  generalize (lg_sl ([.ref (p0a 0), .int p1]) ++ List.replicate (3 - (lg_sl ([.ref (p0a 0), .int p1])).length) Slot.unset).toArray = ls at hl ⊢
  have hl : lv_has ls 3 [(0, .ref (p0a 0)), (1, .int p1)] := hl
  obtain ⟨H, hHe⟩ : ∃ H, H = s.heap := ⟨_, rfl⟩
  obtain ⟨locs, hle⟩ : ∃ locs : List Loc, locs = [] := ⟨_, rfl⟩
  rw [← hHe] at hP
  have hS : va_S A s.heap H locs := by rw [hHe, hle]; exact hS
  show W p l e ({ frames := 0, cells := 0, slots := 0, locals := 0 } : Room) s m ([.ref (p0a 0), .int p1] : List Value).toArray below meth c s.heap [] 0 0 Q (F0 m 0 ls [])
  rw [← hle]
  refine wH9 hHe ?_
  unfold fX5_want at hrun
  refine lv_aload_n hx hb dX5_want_0 rfl (lv_at hl 0 rfl) ?_
  refine va_get (D := (dC, dI)) (ci := 7) (v := .ref (p0a 7)) (C := RX5) (T := TX5) (N := 12) hx hb hts i_X5 hown hK hP 0 rfl rfl 6 (by decide) (hts _ qw443) (fun _ h9 => h9) rfl dX5_want_1 ?_
  refine lv_iload_n hx hb dX5_want_4 rfl (lv_at hl 1 rfl) ?_
  obtain ⟨hq1, hrun⟩ := chk9 hrun
  refine va_iald hx hb hK hP 6 5 rfl rfl (ixb_in hq1) dX5_want_5 ?_
  have J14 : ∀ (y0_14 : Int32) (H : Heap) (locs : List Loc) (ls : Array Slot), (fX5_want_J14 p0w p1 y0_14) = some o → va_P (dC, dI) cls (oX5 (p0a 0) p0a p0k p0w p0l) H → va_D A (oX5 (p0a 0) p0a p0k p0w p0l) → va_K (dC, dI) cls (tX5 p0k) s → va_S A s.heap H locs → lv_has ls 3 [(0, .ref (p0a 0)), (1, .int p1)] → W p l e ({ frames := 0, cells := 0, slots := 0, locals := 0 } : Room) s m ([.ref (p0a 0), .int p1] : List Value).toArray below meth c H locs 0 0 Q (F0 m 14 ls [.int y0_14]) := by
    intro y0_14 H locs ls hrun hP hD hK hS hl 
    unfold fX5_want_J14 at hrun
    refine lv_istore_n (lv' := [(2, .int y0_14), (0, .ref (p0a 0)), (1, .int p1)]) hx hb dX5_want_14 rfl hl (by decide) rfl (fun ls hl => ?_)
    refine lv_aload_n hx hb dX5_want_15 rfl (lv_at hl 1 rfl) ?_
    refine va_get (D := (dC, dI)) (ci := 7) (v := .ref (p0a 7)) (C := RX5) (T := TX5) (N := 12) hx hb hts i_X5 hown hK hP 0 rfl rfl 6 (by decide) (hts _ qw443) (fun _ h9 => h9) rfl dX5_want_16 ?_
    refine lv_iload_n hx hb dX5_want_19 rfl (lv_at hl 2 rfl) ?_
    refine lv_iconst (v := 0) hx hb dX5_want_20 (by decide) ?_
    obtain ⟨hq2, hrun⟩ := chk9 hrun
    refine va_iast hx hb hK hP hD hS 6 5 rfl rfl (ixb_in hq2) dX5_want_21 (fun H locs hP hD hS => ?_)
    have hP : va_P (dC, dI) cls (oX5 (p0a 0) p0a p0k (upw p0w 7 (nn p1) 0) p0l) H := hP
    have hD : va_D A (oX5 (p0a 0) p0a p0k (upw p0w 7 (nn p1) 0) p0l) := hD
    obtain ⟨w3, ew3, hrun⟩ := let9 hrun
    rw [← ew3] at hP hD
    refine lv_iload_n hx hb dX5_want_22 rfl (lv_at hl 0 rfl) ?_
    obtain ⟨hz9, hrun⟩ := chk9 hrun
    have ho9 : (y0_14, w3) = o := Option.some.inj hrun
    have hP9 : va_P (dC, dI) cls (oX5 (p0a 0) p0a p0k (o.2) p0l) H := by first | exact hP | (rw [← ho9]; exact hP)
    have hD9 : va_D A (oX5 (p0a 0) p0a p0k (o.2) p0l) := by first | exact hD | (rw [← ho9]; exact hD)
    subst hQ
    exact W.zret (v := y0_14) hx hb hr (bz9 hz9) (fun t ht hW => ⟨⟨y0_14, (), rfl, (by rw [← ho9]), ⟨by rw [ht]; exact hP9, va_K.moved hW.alike hK, hD9⟩⟩, hS.F ht⟩) hS.2.2 dX5_want_23
  rcases br9 hrun with ⟨hc4, hrun⟩ | ⟨hc4, hrun⟩
  · refine lv_if_eq (tgt := 13) hx hb dX5_want_6 (by decide) (fun _ => ?_) (fun c => absurd hc4 c)
    refine lv_iconst (v := 0) hx hb dX5_want_13 (by decide) ?_
    exact J14 0 _ _ _ hrun hP hD hK hS (lv_sub hl [0, 1] rfl)
  · refine lv_if_eq (tgt := 13) hx hb dX5_want_6 (by decide) (fun c => absurd c hc4) (fun _ => ?_)
    refine lv_iconst (v := 1) hx hb dX5_want_9 (by decide) ?_
    refine lv_goto (tgt := 14) hx hb dX5_want_10 (by decide) ?_
    exact J14 1 _ _ _ hrun hP hD hK hS (lv_sub hl [0, 1] rfl)
def fX5_wantUsed_J65 (y0_65 : Int32) (p0w_65 : ST) : Option (Int32 × ST) := (if y0_65 = 0 ∨ y0_65 = 1 then some (y0_65, p0w_65) else none)
def fX5_wantUsed_J60 (p0w_60 : ST) : Option (Int32 × ST) := (fX5_wantUsed_J65 1 p0w_60)
def fX5_wantUsed_J56 (y0_30 : Int32) (p0w_56 : ST) : Option (Int32 × ST) := (if y0_30 = 0 then (fX5_wantUsed_J65 0 p0w_56) else (fX5_wantUsed_J60 p0w_56))
def fX5_wantUsed_J30 (p1n : Nat → Nat) (p1w : ST) (p2 : Int32) (y0_30 : Int32) (p0w_30 : ST) : Option (Int32 × ST) := (if ixb p2 (p1n 2) = true then ((fX11_usesRight (p1w 2 (nn p2))).bind fun (o_5 : Int32) => (if o_5 = 0 then (fX5_wantUsed_J56 y0_30 p0w_30) else (if ixb p2 (p1n 5) = true then ((fX5_want p0w_30 (p1w 5 (nn p2))).bind fun (o_10 : Int32 × ST) => (if (o_10.1) = 0 then (fX5_wantUsed_J56 y0_30 (o_10.2)) else (fX5_wantUsed_J60 (o_10.2)))) else none))) else none)
def fX5_wantUsed_J29 (p1n : Nat → Nat) (p1w : ST) (p2 : Int32) (p0w_29 : ST) : Option (Int32 × ST) := (fX5_wantUsed_J30 p1n p1w p2 0 p0w_29)
def fX5_wantUsed (p0w : ST) (p1n : Nat → Nat) (p1w : ST) (p2 : Int32) : Option (Int32 × ST) := (if ixb p2 (p1n 2) = true then ((fX11_usesLeft (p1w 2 (nn p2))).bind fun (o_2 : Int32) => (if o_2 = 0 then (fX5_wantUsed_J29 p1n p1w p2 p0w) else (if ixb p2 (p1n 4) = true then ((fX5_want p0w (p1w 4 (nn p2))).bind fun (o_15 : Int32 × ST) => (if (o_15.1) = 0 then (fX5_wantUsed_J29 p1n p1w p2 (o_15.2)) else (fX5_wantUsed_J30 p1n p1w p2 1 (o_15.2)))) else none))) else none)
set_option maxHeartbeats 16000000 in
set_option maxRecDepth 100000 in
theorem kX5_wantUsed {zs : Nat × Nat} (l : Launch) (dC : Nat → ClassId) (dI : Nat → Nat → Nat) (p0a : Nat → Nat) (p0k : Nat → ClassId) (p0w : ST) (p0l : SL) (p1a : Nat → Nat) (p1k : Nat → ClassId) (p1n : Nat → Nat) (p1w : ST) (p2 : Int32) (sz : Nat) (o : Int32 × ST) (hrun : fX5_wantUsed p0w p1n p1w p2 = some o) : Met l yX5_wantUsed (wz yX5_wantUsed cX5_wantUsed 4 (Option.some Jvm.ClassFile.FieldType.boolean)) ({ frames := 2, cells := 0, slots := 0, locals := 40 } : Room) (va_Pc [.ref (p0a 0), .ref (p1a 0), .int p2] (PRE zs dC dI ((oX5 (p0a 0) p0a p0k p0w p0l) ++ (oX9 (p1a 0) p1a p1k p1n p1w)) ((tX5 p0k) ++ (tX9 p1k)) sz)) (va_Qi (fun (r : Int32) (_ : Unit) => r = (o.1)) (fun _ t => POST dC dI ((oX5 (p0a 0) p0a p0k (o.2) p0l) ++ (oX9 (p1a 0) p1a p1k p1n p1w)) ((tX5 p0k) ++ (tX9 p1k)) (va_A ((oX5 (p0a 0) p0a p0k p0w p0l) ++ (oX9 (p1a 0) p1a p1k p1n p1w)) sz) t) (va_A ((oX5 (p0a 0) p0a p0k p0w p0l) ++ (oX9 (p1a 0) p1a p1k p1n p1w)) sz)) 0 0 (va_A ((oX5 (p0a 0) p0a p0k p0w p0l) ++ (oX9 (p1a 0) p1a p1k p1n p1w)) sz) := by
  refine Met.ofW (cc := cX5_wantUsed) (maxL := 4) (ret := (Option.some Jvm.ClassFile.FieldType.boolean)) (by decide) rfl ?_
  intro p e s m args below meth c s₁ B hml hv
  obtain ⟨rfl, hsz, hP, hK, hD0, hE⟩ := hv
  have hx := B.exec
  have hb := B.bytes
  have hr := B.returns
  have hts0 := atoms_spec (ws := wz yX5_wantUsed cX5_wantUsed 4 (Option.some Jvm.ClassFile.FieldType.boolean)) B.pre
  have hts : ∀ w ∈ gw, w.before _ s = true := fun w h => hts0 w (List.mem_cons_of_mem _ h)
  have hown : s.vm.findClass RX5 = some m.cls := findClass_of_methodNamed B.named
  have hlocks := B.notSynchronized
  subst hsz
  have hD := hD0.self (sz := s.heap.size)
  refine gQ9 ?_
  intro Q hQ
  generalize hAe : va_A ((oX5 (p0a 0) p0a p0k p0w p0l) ++ (oX9 (p1a 0) p1a p1k p1n p1w)) s.heap.size = A at hD hE hQ
  have hA : ∀ q : Nat, s.heap.size ≤ q → A q := fun q h => by rw [← hAe]; exact Or.inr h
  have hS : va_S A s.heap s.heap [] := va_S.rf
  have hP : va_P (dC, dI) cls ((oX5 (p0a 0) p0a p0k p0w p0l) ++ (oX9 (p1a 0) p1a p1k p1n p1w)) s.heap := hP
  have hl := lv_entry ([.ref (p0a 0), .ref (p1a 0), .int p2]) (n := 4) (Nat.le_of_ble_eq_true rfl)
  rw [lg_entry_eq]
  generalize (lg_sl ([.ref (p0a 0), .ref (p1a 0), .int p2]) ++ List.replicate (4 - (lg_sl ([.ref (p0a 0), .ref (p1a 0), .int p2])).length) Slot.unset).toArray = ls at hl ⊢
  have hl : lv_has ls 4 [(0, .ref (p0a 0)), (1, .ref (p1a 0)), (2, .int p2)] := hl
  obtain ⟨H, hHe⟩ : ∃ H, H = s.heap := ⟨_, rfl⟩
  obtain ⟨locs, hle⟩ : ∃ locs : List Loc, locs = [] := ⟨_, rfl⟩
  rw [← hHe] at hP
  have hS : va_S A s.heap H locs := by rw [hHe, hle]; exact hS
  show W p l e ({ frames := 2, cells := 0, slots := 0, locals := 40 } : Room) s m ([.ref (p0a 0), .ref (p1a 0), .int p2] : List Value).toArray below meth c s.heap [] 0 0 Q (F0 m 0 ls [])
  rw [← hle]
  refine wH9 hHe ?_
  unfold fX5_wantUsed at hrun
  refine lv_aload_n hx hb dX5_wantUsed_0 rfl (lv_at hl 1 rfl) ?_
  refine va_get (D := (dC, dI)) (ci := 3) (v := .ref (p1a 2)) (C := RX9) (T := TX9) (N := 6) hx hb hts i_X9 hown hK hP 10 rfl rfl 1 (by decide) (hts _ qw420) (fun _ h9 => h9) rfl dX5_wantUsed_1 ?_
  refine lv_iload_n hx hb dX5_wantUsed_4 rfl (lv_at hl 2 rfl) ?_
  obtain ⟨hq1, hrun⟩ := chk9 hrun
  refine va_iald hx hb hK hP 11 9 rfl rfl (ixb_in hq1) dX5_wantUsed_5 ?_
  obtain ⟨o_2, hc_2, hrun⟩ := bnd9 hrun
  have hPc := hP.sub (ws' := ([] : va_W)) [] rfl
  have hDc := hD.sub (ws' := ([] : va_W)) [] (by decide) rfl
  have hKc := hK.sub (tys' := ([] : List (ClassId × FieldType))) [] rfl
  have hFc := va_free (wc := ([] : va_W)) hD hS hA [] rfl
  refine va_calli (va_runSN (As := [.int (p1w 2 (nn p2))]) (rest := []) ⟨hx, hb, hml, hown, hts⟩ (kX11_usesLeft l dC dI (p0 := (p1w 2 (nn p2))) (sz := _) (o := o_2) (hrun := hc_2)) ⟨(va_cnB 1 hts (gi_z qw446) rfl rfl rfl (hE.nw (List.mem_append_right _ (tbl_8 (i := 41) rfl)) rfl) (hts _ qw129) (by decide +kernel) ⟨Nat.le_of_ble_eq_true rfl, Nat.le_of_ble_eq_true rfl⟩), (hts _ qw447), trivial⟩ ⟨PRE.blind, PRE.of hE hS hFc hPc hKc hDc⟩ rfl rfl hl.1 rfl (lv_room (Nat.le_of_ble_eq_true rfl)) dX5_wantUsed_6 ⟨(Nat.le_of_ble_eq_true rfl), (Nat.le_of_ble_eq_true rfl)⟩) hS (fun q _ h => hFc q h) hFc (fun r3 u t H locs ht hvm hw hB hz1 hk1 hS => ?_)
  obtain ⟨hP, hD, hK⟩ := JOIN (wr := ((oX5 (p0a 0) p0a p0k p0w p0l) ++ (oX9 (p1a 0) p1a p1k p1n p1w))) hP hD hK [] [0, 1, 2, 3, 4, 5, 6, 7, 8, 9, 10, 11, 12, 13, 14, 15] [0, 1, 2, 3, 4, 5, 6, 7, 8, 9, 10, 11, 12, 13] rfl rfl (by decide) (by decide) rfl hk1 hFc ht hvm hB
  have hP : va_P (dC, dI) cls ((oX5 (p0a 0) p0a p0k p0w p0l) ++ (oX9 (p1a 0) p1a p1k p1n p1w)) H := hP.sub [0, 1, 2, 3, 4, 5, 6, 7, 8, 9, 10, 11, 12, 13, 14, 15] rfl
  have hD : va_D A ((oX5 (p0a 0) p0a p0k p0w p0l) ++ (oX9 (p1a 0) p1a p1k p1n p1w)) := hD.sub [0, 1, 2, 3, 4, 5, 6, 7, 8, 9, 10, 11, 12, 13, 14, 15] (by decide) rfl
  have hK : va_K (dC, dI) cls ((tX5 p0k) ++ (tX9 p1k)) s := hK.sub [0, 1, 2, 3, 4, 5, 6, 7, 8, 9, 10, 11, 12, 13] rfl
  obtain rfl : o_2 = r3 := hw.symm
  have J30 : ∀ (y0_30 : Int32) (p0w_30 : ST) (H : Heap) (locs : List Loc) (ls : Array Slot), (fX5_wantUsed_J30 p1n p1w p2 y0_30 p0w_30) = some o → va_P (dC, dI) cls ((oX5 (p0a 0) p0a p0k p0w_30 p0l) ++ (oX9 (p1a 0) p1a p1k p1n p1w)) H → va_D A ((oX5 (p0a 0) p0a p0k p0w_30 p0l) ++ (oX9 (p1a 0) p1a p1k p1n p1w)) → va_K (dC, dI) cls ((tX5 p0k) ++ (tX9 p1k)) s → va_S A s.heap H locs → lv_has ls 4 [(0, .ref (p0a 0)), (1, .ref (p1a 0)), (2, .int p2)] → W p l e ({ frames := 2, cells := 0, slots := 0, locals := 40 } : Room) s m ([.ref (p0a 0), .ref (p1a 0), .int p2] : List Value).toArray below meth c H locs 0 0 Q (F0 m 30 ls [.int y0_30]) := by
    intro y0_30 p0w_30 H locs ls hrun hP hD hK hS hl 
    unfold fX5_wantUsed_J30 at hrun
    refine lv_istore_n (lv' := [(3, .int y0_30), (0, .ref (p0a 0)), (1, .ref (p1a 0)), (2, .int p2)]) hx hb dX5_wantUsed_30 rfl hl (by decide) rfl (fun ls hl => ?_)
    refine lv_aload_n hx hb dX5_wantUsed_31 rfl (lv_at hl 2 rfl) ?_
    refine va_get (D := (dC, dI)) (ci := 3) (v := .ref (p1a 2)) (C := RX9) (T := TX9) (N := 6) hx hb hts i_X9 hown hK hP 10 rfl rfl 1 (by decide) (hts _ qw420) (fun _ h9 => h9) rfl dX5_wantUsed_32 ?_
    refine lv_iload_n hx hb dX5_wantUsed_35 rfl (lv_at hl 3 rfl) ?_
    obtain ⟨hq4, hrun⟩ := chk9 hrun
    refine va_iald hx hb hK hP 11 9 rfl rfl (ixb_in hq4) dX5_wantUsed_36 ?_
    obtain ⟨o_5, hc_5, hrun⟩ := bnd9 hrun
    have hPc := hP.sub (ws' := ([] : va_W)) [] rfl
    have hDc := hD.sub (ws' := ([] : va_W)) [] (by decide) rfl
    have hKc := hK.sub (tys' := ([] : List (ClassId × FieldType))) [] rfl
    have hFc := va_free (wc := ([] : va_W)) hD hS hA [] rfl
    refine va_calli (va_runSN (As := [.int (p1w 2 (nn p2))]) (rest := []) ⟨hx, hb, hml, hown, hts⟩ (kX11_usesRight l dC dI (p0 := (p1w 2 (nn p2))) (sz := _) (o := o_5) (hrun := hc_5)) ⟨(va_cnB 1 hts (gi_z qw351) rfl rfl rfl (hE.nw (List.mem_append_right _ (tbl_8 (i := 44) rfl)) rfl) (hts _ qw129) (by decide +kernel) ⟨Nat.le_of_ble_eq_true rfl, Nat.le_of_ble_eq_true rfl⟩), (hts _ qw352), trivial⟩ ⟨PRE.blind, PRE.of hE hS hFc hPc hKc hDc⟩ rfl rfl hl.1 rfl (lv_room (Nat.le_of_ble_eq_true rfl)) dX5_wantUsed_37 ⟨(Nat.le_of_ble_eq_true rfl), (Nat.le_of_ble_eq_true rfl)⟩) hS (fun q _ h => hFc q h) hFc (fun r6 u t H locs ht hvm hw hB hz1 hk1 hS => ?_)
    obtain ⟨hP, hD, hK⟩ := JOIN (wr := ((oX5 (p0a 0) p0a p0k p0w_30 p0l) ++ (oX9 (p1a 0) p1a p1k p1n p1w))) hP hD hK [] [0, 1, 2, 3, 4, 5, 6, 7, 8, 9, 10, 11, 12, 13, 14, 15] [0, 1, 2, 3, 4, 5, 6, 7, 8, 9, 10, 11, 12, 13] rfl rfl (by decide) (by decide) rfl hk1 hFc ht hvm hB
    have hP : va_P (dC, dI) cls ((oX5 (p0a 0) p0a p0k p0w_30 p0l) ++ (oX9 (p1a 0) p1a p1k p1n p1w)) H := hP.sub [0, 1, 2, 3, 4, 5, 6, 7, 8, 9, 10, 11, 12, 13, 14, 15] rfl
    have hD : va_D A ((oX5 (p0a 0) p0a p0k p0w_30 p0l) ++ (oX9 (p1a 0) p1a p1k p1n p1w)) := hD.sub [0, 1, 2, 3, 4, 5, 6, 7, 8, 9, 10, 11, 12, 13, 14, 15] (by decide) rfl
    have hK : va_K (dC, dI) cls ((tX5 p0k) ++ (tX9 p1k)) s := hK.sub [0, 1, 2, 3, 4, 5, 6, 7, 8, 9, 10, 11, 12, 13] rfl
    obtain rfl : o_5 = r6 := hw.symm
    have J65 : ∀ (y0_65 : Int32) (p0w_65 : ST) (H : Heap) (locs : List Loc) (ls : Array Slot), (fX5_wantUsed_J65 y0_65 p0w_65) = some o → va_P (dC, dI) cls ((oX5 (p0a 0) p0a p0k p0w_65 p0l) ++ (oX9 (p1a 0) p1a p1k p1n p1w)) H → va_D A ((oX5 (p0a 0) p0a p0k p0w_65 p0l) ++ (oX9 (p1a 0) p1a p1k p1n p1w)) → va_K (dC, dI) cls ((tX5 p0k) ++ (tX9 p1k)) s → va_S A s.heap H locs → lv_has ls 4 [] → W p l e ({ frames := 2, cells := 0, slots := 0, locals := 40 } : Room) s m ([.ref (p0a 0), .ref (p1a 0), .int p2] : List Value).toArray below meth c H locs 0 0 Q (F0 m 65 ls [.int y0_65]) := by
      intro y0_65 p0w_65 H locs ls hrun hP hD hK hS hl 
      unfold fX5_wantUsed_J65 at hrun
      obtain ⟨hz9, hrun⟩ := chk9 hrun
      have ho9 : (y0_65, p0w_65) = o := Option.some.inj hrun
      have hP9 : va_P (dC, dI) cls ((oX5 (p0a 0) p0a p0k (o.2) p0l) ++ (oX9 (p1a 0) p1a p1k p1n p1w)) H := by first | exact hP | (rw [← ho9]; exact hP)
      have hD9 : va_D A ((oX5 (p0a 0) p0a p0k (o.2) p0l) ++ (oX9 (p1a 0) p1a p1k p1n p1w)) := by first | exact hD | (rw [← ho9]; exact hD)
      subst hQ
      exact W.zret (v := y0_65) hx hb hr (bz9 hz9) (fun t ht hW => ⟨⟨y0_65, (), rfl, (by rw [← ho9]), ⟨by rw [ht]; exact hP9, va_K.moved hW.alike hK, hD9⟩⟩, hS.F ht⟩) hS.2.2 dX5_wantUsed_65
    have J60 : ∀ (p0w_60 : ST) (H : Heap) (locs : List Loc) (ls : Array Slot), (fX5_wantUsed_J60 p0w_60) = some o → va_P (dC, dI) cls ((oX5 (p0a 0) p0a p0k p0w_60 p0l) ++ (oX9 (p1a 0) p1a p1k p1n p1w)) H → va_D A ((oX5 (p0a 0) p0a p0k p0w_60 p0l) ++ (oX9 (p1a 0) p1a p1k p1n p1w)) → va_K (dC, dI) cls ((tX5 p0k) ++ (tX9 p1k)) s → va_S A s.heap H locs → lv_has ls 4 [] → W p l e ({ frames := 2, cells := 0, slots := 0, locals := 40 } : Room) s m ([.ref (p0a 0), .ref (p1a 0), .int p2] : List Value).toArray below meth c H locs 0 0 Q (F0 m 60 ls []) := by
      intro p0w_60 H locs ls hrun hP hD hK hS hl 
      unfold fX5_wantUsed_J60 at hrun
      refine lv_iconst (v := 1) hx hb dX5_wantUsed_60 (by decide) ?_
      refine lv_goto (tgt := 65) hx hb dX5_wantUsed_61 (by decide) ?_
      exact J65 1 p0w_60 _ _ _ hrun hP hD hK hS (lv_sub hl [] rfl)
    have J56 : ∀ (p0w_56 : ST) (H : Heap) (locs : List Loc) (ls : Array Slot), (fX5_wantUsed_J56 y0_30 p0w_56) = some o → va_P (dC, dI) cls ((oX5 (p0a 0) p0a p0k p0w_56 p0l) ++ (oX9 (p1a 0) p1a p1k p1n p1w)) H → va_D A ((oX5 (p0a 0) p0a p0k p0w_56 p0l) ++ (oX9 (p1a 0) p1a p1k p1n p1w)) → va_K (dC, dI) cls ((tX5 p0k) ++ (tX9 p1k)) s → va_S A s.heap H locs → lv_has ls 4 [(3, .int y0_30)] → W p l e ({ frames := 2, cells := 0, slots := 0, locals := 40 } : Room) s m ([.ref (p0a 0), .ref (p1a 0), .int p2] : List Value).toArray below meth c H locs 0 0 Q (F0 m 56 ls []) := by
      intro p0w_56 H locs ls hrun hP hD hK hS hl 
      unfold fX5_wantUsed_J56 at hrun
      refine lv_iload_n hx hb dX5_wantUsed_56 rfl (lv_at hl 0 rfl) ?_
      rcases br9 hrun with ⟨hc7, hrun⟩ | ⟨hc7, hrun⟩
      · refine lv_if_eq (tgt := 64) hx hb dX5_wantUsed_57 (by decide) (fun _ => ?_) (fun c => absurd hc7 c)
        refine lv_iconst (v := 0) hx hb dX5_wantUsed_64 (by decide) ?_
        exact J65 0 p0w_56 _ _ _ hrun hP hD hK hS (lv_sub hl [] rfl)
      · refine lv_if_eq (tgt := 64) hx hb dX5_wantUsed_57 (by decide) (fun c => absurd c hc7) (fun _ => ?_)
        exact J60 p0w_56 _ _ _ hrun hP hD hK hS (lv_sub hl [] rfl)
    rcases br9 hrun with ⟨hc8, hrun⟩ | ⟨hc8, hrun⟩
    · refine lv_if_eq (tgt := 56) hx hb dX5_wantUsed_40 (by decide) (fun _ => ?_) (fun c => absurd hc8 c)
      exact J56 p0w_30 _ _ _ hrun hP hD hK hS (lv_sub hl [0] rfl)
    · refine lv_if_eq (tgt := 56) hx hb dX5_wantUsed_40 (by decide) (fun c => absurd c hc8) (fun _ => ?_)
      refine lv_aload_n hx hb dX5_wantUsed_43 rfl (lv_at hl 1 rfl) ?_
      refine lv_aload_n hx hb dX5_wantUsed_44 rfl (lv_at hl 2 rfl) ?_
      refine va_get (D := (dC, dI)) (ci := 3) (v := .ref (p1a 5)) (C := RX9) (T := TX9) (N := 6) hx hb hts i_X9 hown hK hP 10 rfl rfl 4 (by decide) (hts _ qw422) (fun _ h9 => h9) rfl dX5_wantUsed_45 ?_
      refine lv_iload_n hx hb dX5_wantUsed_48 rfl (lv_at hl 3 rfl) ?_
      obtain ⟨hq9, hrun⟩ := chk9 hrun
      refine va_iald hx hb hK hP 14 12 rfl rfl (ixb_in hq9) dX5_wantUsed_49 ?_
      obtain ⟨o_10, hc_10, hrun⟩ := bnd9 hrun
      have hPc := hP.sub (ws' := (oX5 (p0a 0) p0a p0k p0w_30 p0l)) [0, 1, 2, 3, 4, 5, 6, 7, 8, 9] rfl
      have hDc := hD.sub (ws' := (oX5 (p0a 0) p0a p0k p0w_30 p0l)) [0, 1, 2, 3, 4, 5, 6, 7, 8, 9] (by decide) rfl
      have hKc := hK.sub (tys' := (tX5 p0k)) [0, 1, 2, 3, 4, 5, 6, 7, 8] rfl
      have hFc := va_free (wc := (oX5 (p0a 0) p0a p0k p0w_30 p0l)) hD hS hA [0, 1, 2, 3, 4, 5, 6, 7, 8, 9] rfl
      refine va_calli (va_runV (As := [.int (p1w 5 (nn p2))]) (rest := []) ⟨hx, hb, hml, hown, hts⟩ (kX5_want l dC dI (p0a := (st0 (p0a 0) p0a)) (p0k := p0k) (p0w := p0w_30) (p0l := p0l) (p1 := (p1w 5 (nn p2))) (sz := _) (o := o_10) (hrun := hc_10)) (cwV 1 hts (gi_V qw449 qw450 qw451 qw442 (gi_z qw448)) rfl rfl rfl (by decide +kernel) ⟨Nat.le_of_ble_eq_true rfl, Nat.le_of_ble_eq_true rfl⟩) ⟨PRE.blind, va_recv hKc hPc (ci := 7) (q0 := 0) rfl rfl, PRE.of hE hS hFc hPc hKc hDc⟩ rfl rfl hl.1 rfl (lv_room (Nat.le_of_ble_eq_true rfl)) dX5_wantUsed_50 ⟨(Nat.le_of_ble_eq_true rfl), (Nat.le_of_ble_eq_true rfl)⟩) hS (fun q _ h => hFc q h) hFc (fun r11 u t H locs ht hvm hw hB hz1 hk1 hS => ?_)
      obtain ⟨hP, hD, hK⟩ := JOIN (wr := (oX9 (p1a 0) p1a p1k p1n p1w)) hP hD hK [0, 1, 2, 3, 4, 5, 6, 7, 8, 9] [10, 11, 12, 13, 14, 15] [9, 10, 11, 12, 13] rfl rfl (by decide) (by decide) rfl hk1 hFc ht hvm hB
      have hP : va_P (dC, dI) cls ((oX5 (p0a 0) p0a p0k (o_10.2) p0l) ++ (oX9 (p1a 0) p1a p1k p1n p1w)) H := hP.sub [6, 7, 8, 9, 10, 11, 12, 13, 14, 15, 0, 1, 2, 3, 4, 5] rfl
      have hD : va_D A ((oX5 (p0a 0) p0a p0k (o_10.2) p0l) ++ (oX9 (p1a 0) p1a p1k p1n p1w)) := hD.sub [6, 7, 8, 9, 10, 11, 12, 13, 14, 15, 0, 1, 2, 3, 4, 5] (by decide) rfl
      have hK : va_K (dC, dI) cls ((tX5 p0k) ++ (tX9 p1k)) s := hK.sub [5, 6, 7, 8, 9, 10, 11, 12, 13, 0, 1, 2, 3, 4] rfl
      obtain rfl : r11 = (o_10.1) := hw
      rcases br9 hrun with ⟨hc12, hrun⟩ | ⟨hc12, hrun⟩
      · refine lv_if_ne (tgt := 60) hx hb dX5_wantUsed_53 (by decide) (fun c => absurd hc12 c) (fun _ => ?_)
        exact J56 (o_10.2) _ _ _ hrun hP hD hK hS (lv_sub hl [0] rfl)
      · refine lv_if_ne (tgt := 60) hx hb dX5_wantUsed_53 (by decide) (fun _ => ?_) (fun c => absurd c hc12)
        exact J60 (o_10.2) _ _ _ hrun hP hD hK hS (lv_sub hl [] rfl)
  have J29 : ∀ (p0w_29 : ST) (H : Heap) (locs : List Loc) (ls : Array Slot), (fX5_wantUsed_J29 p1n p1w p2 p0w_29) = some o → va_P (dC, dI) cls ((oX5 (p0a 0) p0a p0k p0w_29 p0l) ++ (oX9 (p1a 0) p1a p1k p1n p1w)) H → va_D A ((oX5 (p0a 0) p0a p0k p0w_29 p0l) ++ (oX9 (p1a 0) p1a p1k p1n p1w)) → va_K (dC, dI) cls ((tX5 p0k) ++ (tX9 p1k)) s → va_S A s.heap H locs → lv_has ls 4 [(0, .ref (p0a 0)), (1, .ref (p1a 0)), (2, .int p2)] → W p l e ({ frames := 2, cells := 0, slots := 0, locals := 40 } : Room) s m ([.ref (p0a 0), .ref (p1a 0), .int p2] : List Value).toArray below meth c H locs 0 0 Q (F0 m 29 ls []) := by
    intro p0w_29 H locs ls hrun hP hD hK hS hl 
    unfold fX5_wantUsed_J29 at hrun
    refine lv_iconst (v := 0) hx hb dX5_wantUsed_29 (by decide) ?_
    exact J30 0 p0w_29 _ _ _ hrun hP hD hK hS (lv_sub hl [0, 1, 2] rfl)
  rcases br9 hrun with ⟨hc13, hrun⟩ | ⟨hc13, hrun⟩
  · refine lv_if_eq (tgt := 29) hx hb dX5_wantUsed_9 (by decide) (fun _ => ?_) (fun c => absurd hc13 c)
    exact J29 p0w _ _ _ hrun hP hD hK hS (lv_sub hl [0, 1, 2] rfl)
  · refine lv_if_eq (tgt := 29) hx hb dX5_wantUsed_9 (by decide) (fun c => absurd c hc13) (fun _ => ?_)
    refine lv_aload_n hx hb dX5_wantUsed_12 rfl (lv_at hl 0 rfl) ?_
    refine lv_aload_n hx hb dX5_wantUsed_13 rfl (lv_at hl 1 rfl) ?_
    refine va_get (D := (dC, dI)) (ci := 3) (v := .ref (p1a 4)) (C := RX9) (T := TX9) (N := 6) hx hb hts i_X9 hown hK hP 10 rfl rfl 3 (by decide) (hts _ qw421) (fun _ h9 => h9) rfl dX5_wantUsed_14 ?_
    refine lv_iload_n hx hb dX5_wantUsed_17 rfl (lv_at hl 2 rfl) ?_
    obtain ⟨hq14, hrun⟩ := chk9 hrun
    refine va_iald hx hb hK hP 13 11 rfl rfl (ixb_in hq14) dX5_wantUsed_18 ?_
    obtain ⟨o_15, hc_15, hrun⟩ := bnd9 hrun
    have hPc := hP.sub (ws' := (oX5 (p0a 0) p0a p0k p0w p0l)) [0, 1, 2, 3, 4, 5, 6, 7, 8, 9] rfl
    have hDc := hD.sub (ws' := (oX5 (p0a 0) p0a p0k p0w p0l)) [0, 1, 2, 3, 4, 5, 6, 7, 8, 9] (by decide) rfl
    have hKc := hK.sub (tys' := (tX5 p0k)) [0, 1, 2, 3, 4, 5, 6, 7, 8] rfl
    have hFc := va_free (wc := (oX5 (p0a 0) p0a p0k p0w p0l)) hD hS hA [0, 1, 2, 3, 4, 5, 6, 7, 8, 9] rfl
    refine va_calli (va_runV (As := [.int (p1w 4 (nn p2))]) (rest := []) ⟨hx, hb, hml, hown, hts⟩ (kX5_want l dC dI (p0a := (st0 (p0a 0) p0a)) (p0k := p0k) (p0w := p0w) (p0l := p0l) (p1 := (p1w 4 (nn p2))) (sz := _) (o := o_15) (hrun := hc_15)) (cwV 1 hts (gi_V qw449 qw450 qw451 qw442 (gi_z qw448)) rfl rfl rfl (by decide +kernel) ⟨Nat.le_of_ble_eq_true rfl, Nat.le_of_ble_eq_true rfl⟩) ⟨PRE.blind, va_recv hKc hPc (ci := 7) (q0 := 0) rfl rfl, PRE.of hE hS hFc hPc hKc hDc⟩ rfl rfl hl.1 rfl (lv_room (Nat.le_of_ble_eq_true rfl)) dX5_wantUsed_19 ⟨(Nat.le_of_ble_eq_true rfl), (Nat.le_of_ble_eq_true rfl)⟩) hS (fun q _ h => hFc q h) hFc (fun r16 u t H locs ht hvm hw hB hz1 hk1 hS => ?_)
    obtain ⟨hP, hD, hK⟩ := JOIN (wr := (oX9 (p1a 0) p1a p1k p1n p1w)) hP hD hK [0, 1, 2, 3, 4, 5, 6, 7, 8, 9] [10, 11, 12, 13, 14, 15] [9, 10, 11, 12, 13] rfl rfl (by decide) (by decide) rfl hk1 hFc ht hvm hB
    have hP : va_P (dC, dI) cls ((oX5 (p0a 0) p0a p0k (o_15.2) p0l) ++ (oX9 (p1a 0) p1a p1k p1n p1w)) H := hP.sub [6, 7, 8, 9, 10, 11, 12, 13, 14, 15, 0, 1, 2, 3, 4, 5] rfl
    have hD : va_D A ((oX5 (p0a 0) p0a p0k (o_15.2) p0l) ++ (oX9 (p1a 0) p1a p1k p1n p1w)) := hD.sub [6, 7, 8, 9, 10, 11, 12, 13, 14, 15, 0, 1, 2, 3, 4, 5] (by decide) rfl
    have hK : va_K (dC, dI) cls ((tX5 p0k) ++ (tX9 p1k)) s := hK.sub [5, 6, 7, 8, 9, 10, 11, 12, 13, 0, 1, 2, 3, 4] rfl
    obtain rfl : r16 = (o_15.1) := hw
    rcases br9 hrun with ⟨hc17, hrun⟩ | ⟨hc17, hrun⟩
    · refine lv_if_eq (tgt := 29) hx hb dX5_wantUsed_22 (by decide) (fun _ => ?_) (fun c => absurd hc17 c)
      exact J29 (o_15.2) _ _ _ hrun hP hD hK hS (lv_sub hl [0, 1, 2] rfl)
    · refine lv_if_eq (tgt := 29) hx hb dX5_wantUsed_22 (by decide) (fun c => absurd c hc17) (fun _ => ?_)
      refine lv_iconst (v := 1) hx hb dX5_wantUsed_25 (by decide) ?_
      refine lv_goto (tgt := 30) hx hb dX5_wantUsed_26 (by decide) ?_
      exact J30 1 (o_15.2) _ _ _ hrun hP hD hK hS (lv_sub hl [0, 1, 2] rfl)
def fX5_isNumber_J31 (y0_31 : Int32) : Option Int32 := (if y0_31 = 0 ∨ y0_31 = 1 then some y0_31 else none)
def fX5_isNumber_J30  : Option Int32 := (fX5_isNumber_J31 0)
def fX5_isNumber (p0w : ST) (p2 : Int32) (p1_2n : Nat → Nat) (p1_2w : ST) : Option Int32 := (if ixb p2 250 = true then (if (p0w 2 (nn p2)) < 0 then (fX5_isNumber_J30) else (if ixb p2 250 = true then (if ixb (p0w 2 (nn p2)) (p1_2n 2) = true then (if (p1_2w 2 (nn (p0w 2 (nn p2)))) = 0 then (fX5_isNumber_J31 1) else (fX5_isNumber_J30)) else none) else none)) else none)
set_option maxHeartbeats 16000000 in
set_option maxRecDepth 100000 in
theorem kX5_isNumber {zs : Nat × Nat} (l : Launch) (dC : Nat → ClassId) (dI : Nat → Nat → Nat) (p0a : Nat → Nat) (p0k : Nat → ClassId) (p0w : ST) (p0l : SL) (p1a : Nat → Nat) (p1k : Nat → ClassId) (p1n : Nat → Nat) (p1w : ST) (p1l : SL) (p2 : Int32) (p1_2a : Nat → Nat) (p1_2k : Nat → ClassId) (p1_2n : Nat → Nat) (p1_2w : ST) (sz : Nat) (o : Int32) (hrun : fX5_isNumber p0w p2 p1_2n p1_2w = some o) : Met l yX5_isNumber (wz yX5_isNumber cX5_isNumber 3 (Option.some Jvm.ClassFile.FieldType.boolean)) ({ frames := 0, cells := 0, slots := 0, locals := 0 } : Room) (va_Pc [.ref (p0a 0), .ref (p1a 0), .int p2] (PRE zs dC dI ((oX5 (p0a 0) p0a p0k p0w p0l) ++ (oX1 (p1a 0) p1a p1k p1n p1w p1l) ++ (oX9 (p1a 3) p1_2a p1_2k p1_2n p1_2w)) ((tX5 p0k) ++ (tX1 p1k) ++ (tX9 p1_2k)) sz)) (va_Qi (fun (r : Int32) (_ : Unit) => r = o) (fun _ t => POST dC dI ((oX5 (p0a 0) p0a p0k p0w p0l) ++ (oX1 (p1a 0) p1a p1k p1n p1w p1l) ++ (oX9 (p1a 3) p1_2a p1_2k p1_2n p1_2w)) ((tX5 p0k) ++ (tX1 p1k) ++ (tX9 p1_2k)) (va_A ((oX5 (p0a 0) p0a p0k p0w p0l) ++ (oX1 (p1a 0) p1a p1k p1n p1w p1l) ++ (oX9 (p1a 3) p1_2a p1_2k p1_2n p1_2w)) sz) t) (va_A ((oX5 (p0a 0) p0a p0k p0w p0l) ++ (oX1 (p1a 0) p1a p1k p1n p1w p1l) ++ (oX9 (p1a 3) p1_2a p1_2k p1_2n p1_2w)) sz)) 0 0 (va_A ((oX5 (p0a 0) p0a p0k p0w p0l) ++ (oX1 (p1a 0) p1a p1k p1n p1w p1l) ++ (oX9 (p1a 3) p1_2a p1_2k p1_2n p1_2w)) sz) := by
  refine Met.ofW (cc := cX5_isNumber) (maxL := 3) (ret := (Option.some Jvm.ClassFile.FieldType.boolean)) (by decide) rfl ?_
  intro p e s m args below meth c s₁ B hml hv
  obtain ⟨rfl, hsz, hP, hK, hD0, hE⟩ := hv
  have hx := B.exec
  have hb := B.bytes
  have hr := B.returns
  have hts0 := atoms_spec (ws := wz yX5_isNumber cX5_isNumber 3 (Option.some Jvm.ClassFile.FieldType.boolean)) B.pre
  have hts : ∀ w ∈ gw, w.before _ s = true := fun w h => hts0 w (List.mem_cons_of_mem _ h)
  have hown : s.vm.findClass RX5 = some m.cls := findClass_of_methodNamed B.named
  have hlocks := B.notSynchronized
  subst hsz
  have hD := hD0.self (sz := s.heap.size)
  refine gQ9 ?_
  intro Q hQ
  generalize hAe : va_A ((oX5 (p0a 0) p0a p0k p0w p0l) ++ (oX1 (p1a 0) p1a p1k p1n p1w p1l) ++ (oX9 (p1a 3) p1_2a p1_2k p1_2n p1_2w)) s.heap.size = A at hD hE hQ
  have hA : ∀ q : Nat, s.heap.size ≤ q → A q := fun q h => by rw [← hAe]; exact Or.inr h
  have hS : va_S A s.heap s.heap [] := va_S.rf
  have hP : va_P (dC, dI) cls ((oX5 (p0a 0) p0a p0k p0w p0l) ++ (oX1 (p1a 0) p1a p1k p1n p1w p1l) ++ (oX9 (p1a 3) p1_2a p1_2k p1_2n p1_2w)) s.heap := hP
  have hl := lv_entry ([.ref (p0a 0), .ref (p1a 0), .int p2]) (n := 3) (Nat.le_of_ble_eq_true rfl)
  rw [lg_entry_eq]
  generalize (lg_sl ([.ref (p0a 0), .ref (p1a 0), .int p2]) ++ List.replicate (3 - (lg_sl ([.ref (p0a 0), .ref (p1a 0), .int p2])).length) Slot.unset).toArray = ls at hl ⊢
  have hl : lv_has ls 3 [(0, .ref (p0a 0)), (1, .ref (p1a 0)), (2, .int p2)] := hl
  obtain ⟨H, hHe⟩ : ∃ H, H = s.heap := ⟨_, rfl⟩
  obtain ⟨locs, hle⟩ : ∃ locs : List Loc, locs = [] := ⟨_, rfl⟩
  rw [← hHe] at hP
  have hS : va_S A s.heap H locs := by rw [hHe, hle]; exact hS
  show W p l e ({ frames := 0, cells := 0, slots := 0, locals := 0 } : Room) s m ([.ref (p0a 0), .ref (p1a 0), .int p2] : List Value).toArray below meth c s.heap [] 0 0 Q (F0 m 0 ls [])
  rw [← hle]
  refine wH9 hHe ?_
  unfold fX5_isNumber at hrun
  refine lv_aload_n hx hb dX5_isNumber_0 rfl (lv_at hl 0 rfl) ?_
  refine va_get (D := (dC, dI)) (ci := 7) (v := .ref (p0a 2)) (C := RX5) (T := TX5) (N := 12) hx hb hts i_X5 hown hK hP 0 rfl rfl 1 (by decide) (hts _ qw427) (fun _ h9 => h9) rfl dX5_isNumber_1 ?_
  refine lv_iload_n hx hb dX5_isNumber_4 rfl (lv_at hl 2 rfl) ?_
  obtain ⟨hq1, hrun⟩ := chk9 hrun
  refine va_iald hx hb hK hP 1 0 rfl rfl (ixb_in hq1) dX5_isNumber_5 ?_
  have J31 : ∀ (y0_31 : Int32) (H : Heap) (locs : List Loc) (ls : Array Slot), (fX5_isNumber_J31 y0_31) = some o → va_P (dC, dI) cls ((oX5 (p0a 0) p0a p0k p0w p0l) ++ (oX1 (p1a 0) p1a p1k p1n p1w p1l) ++ (oX9 (p1a 3) p1_2a p1_2k p1_2n p1_2w)) H → va_D A ((oX5 (p0a 0) p0a p0k p0w p0l) ++ (oX1 (p1a 0) p1a p1k p1n p1w p1l) ++ (oX9 (p1a 3) p1_2a p1_2k p1_2n p1_2w)) → va_K (dC, dI) cls ((tX5 p0k) ++ (tX1 p1k) ++ (tX9 p1_2k)) s → va_S A s.heap H locs → lv_has ls 3 [] → W p l e ({ frames := 0, cells := 0, slots := 0, locals := 0 } : Room) s m ([.ref (p0a 0), .ref (p1a 0), .int p2] : List Value).toArray below meth c H locs 0 0 Q (F0 m 31 ls [.int y0_31]) := by
    intro y0_31 H locs ls hrun hP hD hK hS hl 
    unfold fX5_isNumber_J31 at hrun
    obtain ⟨hz9, hrun⟩ := chk9 hrun
    have ho9 : y0_31 = o := Option.some.inj hrun
    have hP9 : va_P (dC, dI) cls ((oX5 (p0a 0) p0a p0k p0w p0l) ++ (oX1 (p1a 0) p1a p1k p1n p1w p1l) ++ (oX9 (p1a 3) p1_2a p1_2k p1_2n p1_2w)) H := by first | exact hP | (rw [← ho9]; exact hP)
    have hD9 : va_D A ((oX5 (p0a 0) p0a p0k p0w p0l) ++ (oX1 (p1a 0) p1a p1k p1n p1w p1l) ++ (oX9 (p1a 3) p1_2a p1_2k p1_2n p1_2w)) := by first | exact hD | (rw [← ho9]; exact hD)
    subst hQ
    exact W.zret (v := y0_31) hx hb hr (bz9 hz9) (fun t ht hW => ⟨⟨y0_31, (), rfl, (by rw [← ho9]), ⟨by rw [ht]; exact hP9, va_K.moved hW.alike hK, hD9⟩⟩, hS.F ht⟩) hS.2.2 dX5_isNumber_31
  have J30 : ∀ (H : Heap) (locs : List Loc) (ls : Array Slot), (fX5_isNumber_J30) = some o → va_P (dC, dI) cls ((oX5 (p0a 0) p0a p0k p0w p0l) ++ (oX1 (p1a 0) p1a p1k p1n p1w p1l) ++ (oX9 (p1a 3) p1_2a p1_2k p1_2n p1_2w)) H → va_D A ((oX5 (p0a 0) p0a p0k p0w p0l) ++ (oX1 (p1a 0) p1a p1k p1n p1w p1l) ++ (oX9 (p1a 3) p1_2a p1_2k p1_2n p1_2w)) → va_K (dC, dI) cls ((tX5 p0k) ++ (tX1 p1k) ++ (tX9 p1_2k)) s → va_S A s.heap H locs → lv_has ls 3 [] → W p l e ({ frames := 0, cells := 0, slots := 0, locals := 0 } : Room) s m ([.ref (p0a 0), .ref (p1a 0), .int p2] : List Value).toArray below meth c H locs 0 0 Q (F0 m 30 ls []) := by
    intro  H locs ls hrun hP hD hK hS hl 
    unfold fX5_isNumber_J30 at hrun
    refine lv_iconst (v := 0) hx hb dX5_isNumber_30 (by decide) ?_
    exact J31 0 _ _ _ hrun hP hD hK hS (lv_sub hl [] rfl)
  rcases br9 hrun with ⟨hc2, hrun⟩ | ⟨hc2, hrun⟩
  · refine lv_if_lt (tgt := 30) hx hb dX5_isNumber_6 (by decide) (fun _ => ?_) (fun c => absurd hc2 c)
    exact J30 _ _ _ hrun hP hD hK hS (lv_sub hl [] rfl)
  · refine lv_if_lt (tgt := 30) hx hb dX5_isNumber_6 (by decide) (fun c => absurd c hc2) (fun _ => ?_)
    refine lv_aload_n hx hb dX5_isNumber_9 rfl (lv_at hl 1 rfl) ?_
    refine va_get (D := (dC, dI)) (ci := 4) (v := .ref (p1a 3)) (C := RX1) (T := TX1) (N := 21) hx hb hts i_X1 hown hK hP 10 rfl rfl 2 (by decide) (hts _ qw435) (fun _ h9 => h9) rfl dX5_isNumber_10 ?_
    refine va_get (D := (dC, dI)) (ci := 3) (v := .ref (p1_2a 2)) (C := RX9) (T := TX9) (N := 6) hx hb hts i_X9 hown hK hP 28 rfl rfl 1 (by decide) (hts _ qw420) (fun _ h9 => h9) rfl dX5_isNumber_13 ?_
    refine lv_aload_n hx hb dX5_isNumber_16 rfl (lv_at hl 0 rfl) ?_
    refine va_get (D := (dC, dI)) (ci := 7) (v := .ref (p0a 2)) (C := RX5) (T := TX5) (N := 12) hx hb hts i_X5 hown hK hP 0 rfl rfl 1 (by decide) (hts _ qw427) (fun _ h9 => h9) rfl dX5_isNumber_17 ?_
    refine lv_iload_n hx hb dX5_isNumber_20 rfl (lv_at hl 2 rfl) ?_
    obtain ⟨hq3, hrun⟩ := chk9 hrun
    refine va_iald hx hb hK hP 1 0 rfl rfl (ixb_in hq3) dX5_isNumber_21 ?_
    obtain ⟨hq4, hrun⟩ := chk9 hrun
    refine va_iald hx hb hK hP 29 26 rfl rfl (ixb_in hq4) dX5_isNumber_22 ?_
    rcases br9 hrun with ⟨hc5, hrun⟩ | ⟨hc5, hrun⟩
    · refine lv_if_ne (tgt := 30) hx hb dX5_isNumber_23 (by decide) (fun c => absurd hc5 c) (fun _ => ?_)
      refine lv_iconst (v := 1) hx hb dX5_isNumber_26 (by decide) ?_
      refine lv_goto (tgt := 31) hx hb dX5_isNumber_27 (by decide) ?_
      exact J31 1 _ _ _ hrun hP hD hK hS (lv_sub hl [] rfl)
    · refine lv_if_ne (tgt := 30) hx hb dX5_isNumber_23 (by decide) (fun _ => ?_) (fun c => absurd c hc5)
      exact J30 _ _ _ hrun hP hD hK hS (lv_sub hl [] rfl)
def fX5_numberOf (p0w : ST) (p2 : Int32) (p1_2n : Nat → Nat) (p1_2w : ST) : Option Int32 := (if ixb p2 250 = true then (if ixb (p0w 2 (nn p2)) (p1_2n 4) = true then some (p1_2w 4 (nn (p0w 2 (nn p2)))) else none) else none)
set_option maxHeartbeats 16000000 in
set_option maxRecDepth 100000 in
theorem kX5_numberOf {zs : Nat × Nat} (l : Launch) (dC : Nat → ClassId) (dI : Nat → Nat → Nat) (p0a : Nat → Nat) (p0k : Nat → ClassId) (p0w : ST) (p0l : SL) (p1a : Nat → Nat) (p1k : Nat → ClassId) (p1n : Nat → Nat) (p1w : ST) (p1l : SL) (p2 : Int32) (p1_2a : Nat → Nat) (p1_2k : Nat → ClassId) (p1_2n : Nat → Nat) (p1_2w : ST) (sz : Nat) (o : Int32) (hrun : fX5_numberOf p0w p2 p1_2n p1_2w = some o) : Met l yX5_numberOf (wz yX5_numberOf cX5_numberOf 3 (Option.some Jvm.ClassFile.FieldType.int)) ({ frames := 0, cells := 0, slots := 0, locals := 0 } : Room) (va_Pc [.ref (p0a 0), .ref (p1a 0), .int p2] (PRE zs dC dI ((oX5 (p0a 0) p0a p0k p0w p0l) ++ (oX1 (p1a 0) p1a p1k p1n p1w p1l) ++ (oX9 (p1a 3) p1_2a p1_2k p1_2n p1_2w)) ((tX5 p0k) ++ (tX1 p1k) ++ (tX9 p1_2k)) sz)) (va_Qi (fun (r : Int32) (_ : Unit) => r = o) (fun _ t => POST dC dI ((oX5 (p0a 0) p0a p0k p0w p0l) ++ (oX1 (p1a 0) p1a p1k p1n p1w p1l) ++ (oX9 (p1a 3) p1_2a p1_2k p1_2n p1_2w)) ((tX5 p0k) ++ (tX1 p1k) ++ (tX9 p1_2k)) (va_A ((oX5 (p0a 0) p0a p0k p0w p0l) ++ (oX1 (p1a 0) p1a p1k p1n p1w p1l) ++ (oX9 (p1a 3) p1_2a p1_2k p1_2n p1_2w)) sz) t) (va_A ((oX5 (p0a 0) p0a p0k p0w p0l) ++ (oX1 (p1a 0) p1a p1k p1n p1w p1l) ++ (oX9 (p1a 3) p1_2a p1_2k p1_2n p1_2w)) sz)) 0 0 (va_A ((oX5 (p0a 0) p0a p0k p0w p0l) ++ (oX1 (p1a 0) p1a p1k p1n p1w p1l) ++ (oX9 (p1a 3) p1_2a p1_2k p1_2n p1_2w)) sz) := by
  refine Met.ofW (cc := cX5_numberOf) (maxL := 3) (ret := (Option.some Jvm.ClassFile.FieldType.int)) (by decide) rfl ?_
  intro p e s m args below meth c s₁ B hml hv
  obtain ⟨rfl, hsz, hP, hK, hD0, hE⟩ := hv
  have hx := B.exec
  have hb := B.bytes
  have hr := B.returns
  have hts0 := atoms_spec (ws := wz yX5_numberOf cX5_numberOf 3 (Option.some Jvm.ClassFile.FieldType.int)) B.pre
  have hts : ∀ w ∈ gw, w.before _ s = true := fun w h => hts0 w (List.mem_cons_of_mem _ h)
  have hown : s.vm.findClass RX5 = some m.cls := findClass_of_methodNamed B.named
  have hlocks := B.notSynchronized
  subst hsz
  have hD := hD0.self (sz := s.heap.size)
  refine gQ9 ?_
  intro Q hQ
  generalize hAe : va_A ((oX5 (p0a 0) p0a p0k p0w p0l) ++ (oX1 (p1a 0) p1a p1k p1n p1w p1l) ++ (oX9 (p1a 3) p1_2a p1_2k p1_2n p1_2w)) s.heap.size = A at hD hE hQ
  have hA : ∀ q : Nat, s.heap.size ≤ q → A q := fun q h => by rw [← hAe]; exact Or.inr h
  have hS : va_S A s.heap s.heap [] := va_S.rf
  have hP : va_P (dC, dI) cls ((oX5 (p0a 0) p0a p0k p0w p0l) ++ (oX1 (p1a 0) p1a p1k p1n p1w p1l) ++ (oX9 (p1a 3) p1_2a p1_2k p1_2n p1_2w)) s.heap := hP
  have hl := lv_entry ([.ref (p0a 0), .ref (p1a 0), .int p2]) (n := 3) (Nat.le_of_ble_eq_true rfl)
  rw [lg_entry_eq]
  generalize (lg_sl ([.ref (p0a 0), .ref (p1a 0), .int p2]) ++ List.replicate (3 - (lg_sl ([.ref (p0a 0), .ref (p1a 0), .int p2])).length) Slot.unset).toArray = ls at hl ⊢
  have hl : lv_has ls 3 [(0, .ref (p0a 0)), (1, .ref (p1a 0)), (2, .int p2)] := hl
  obtain ⟨H, hHe⟩ : ∃ H, H = s.heap := ⟨_, rfl⟩
  obtain ⟨locs, hle⟩ : ∃ locs : List Loc, locs = [] := ⟨_, rfl⟩
  rw [← hHe] at hP
  have hS : va_S A s.heap H locs := by rw [hHe, hle]; exact hS
  show W p l e ({ frames := 0, cells := 0, slots := 0, locals := 0 } : Room) s m ([.ref (p0a 0), .ref (p1a 0), .int p2] : List Value).toArray below meth c s.heap [] 0 0 Q (F0 m 0 ls [])
  rw [← hle]
  refine wH9 hHe ?_
  unfold fX5_numberOf at hrun
  refine lv_aload_n hx hb dX5_numberOf_0 rfl (lv_at hl 1 rfl) ?_
  refine va_get (D := (dC, dI)) (ci := 4) (v := .ref (p1a 3)) (C := RX1) (T := TX1) (N := 21) hx hb hts i_X1 hown hK hP 10 rfl rfl 2 (by decide) (hts _ qw435) (fun _ h9 => h9) rfl dX5_numberOf_1 ?_
  refine va_get (D := (dC, dI)) (ci := 3) (v := .ref (p1_2a 4)) (C := RX9) (T := TX9) (N := 6) hx hb hts i_X9 hown hK hP 28 rfl rfl 3 (by decide) (hts _ qw421) (fun _ h9 => h9) rfl dX5_numberOf_4 ?_
  refine lv_aload_n hx hb dX5_numberOf_7 rfl (lv_at hl 0 rfl) ?_
  refine va_get (D := (dC, dI)) (ci := 7) (v := .ref (p0a 2)) (C := RX5) (T := TX5) (N := 12) hx hb hts i_X5 hown hK hP 0 rfl rfl 1 (by decide) (hts _ qw427) (fun _ h9 => h9) rfl dX5_numberOf_8 ?_
  refine lv_iload_n hx hb dX5_numberOf_11 rfl (lv_at hl 2 rfl) ?_
  obtain ⟨hq1, hrun⟩ := chk9 hrun
  refine va_iald hx hb hK hP 1 0 rfl rfl (ixb_in hq1) dX5_numberOf_12 ?_
  obtain ⟨hq2, hrun⟩ := chk9 hrun
  refine va_iald hx hb hK hP 31 28 rfl rfl (ixb_in hq2) dX5_numberOf_13 ?_
  have ho9 : (p1_2w 4 (nn (p0w 2 (nn p2)))) = o := Option.some.inj hrun
  have hP9 : va_P (dC, dI) cls ((oX5 (p0a 0) p0a p0k p0w p0l) ++ (oX1 (p1a 0) p1a p1k p1n p1w p1l) ++ (oX9 (p1a 3) p1_2a p1_2k p1_2n p1_2w)) H := by first | exact hP | (rw [← ho9]; exact hP)
  have hD9 : va_D A ((oX5 (p0a 0) p0a p0k p0w p0l) ++ (oX1 (p1a 0) p1a p1k p1n p1w p1l) ++ (oX9 (p1a 3) p1_2a p1_2k p1_2n p1_2w)) := by first | exact hD | (rw [← ho9]; exact hD)
  subst hQ
  exact W.iret (v := (p1_2w 4 (nn (p0w 2 (nn p2))))) hx hb hr (fun t ht hW => ⟨⟨(p1_2w 4 (nn (p0w 2 (nn p2)))), (), rfl, (by rw [← ho9]), ⟨by rw [ht]; exact hP9, va_K.moved hW.alike hK, hD9⟩⟩, hS.F ht⟩) hS.2.2 dX5_numberOf_14
def fX5_mayFail_J58 (y0_58 : Int32) : Option Int32 := (if y0_58 = 0 ∨ y0_58 = 1 then some y0_58 else none)
def fX5_mayFail_J53  : Option Int32 := (fX5_mayFail_J58 1)
def fX5_mayFail_J22 (p0w : ST) (p2 : Int32) (p1_2n : Nat → Nat) (p1_2w : ST) : Option Int32 := (if ixb p2 (p1_2n 5) = true then ((fX5_isNumber p0w (p1_2w 5 (nn p2)) p1_2n p1_2w).bind fun (o_3 : Int32) => (if o_3 = 0 then (fX5_mayFail_J53) else ((fX5_numberOf p0w (p1_2w 5 (nn p2)) p1_2n p1_2w).bind fun (o_6 : Int32) => (if o_6 = 0 then (fX5_mayFail_J53) else (fX5_mayFail_J58 0))))) else none)
def fX5_mayFail (p0w : ST) (p2 : Int32) (p1_2n : Nat → Nat) (p1_2w : ST) : Option Int32 := (if ixb p2 (p1_2n 2) = true then (if (p1_2w 2 (nn p2)) = 4 then (fX5_mayFail_J22 p0w p2 p1_2n p1_2w) else (if (p1_2w 2 (nn p2)) = 5 then (fX5_mayFail_J22 p0w p2 p1_2n p1_2w) else some 0)) else none)
set_option maxHeartbeats 16000000 in
set_option maxRecDepth 100000 in
theorem kX5_mayFail {zs : Nat × Nat} (l : Launch) (dC : Nat → ClassId) (dI : Nat → Nat → Nat) (p0a : Nat → Nat) (p0k : Nat → ClassId) (p0w : ST) (p0l : SL) (p1a : Nat → Nat) (p1k : Nat → ClassId) (p1n : Nat → Nat) (p1w : ST) (p1l : SL) (p2 : Int32) (p1_2a : Nat → Nat) (p1_2k : Nat → ClassId) (p1_2n : Nat → Nat) (p1_2w : ST) (sz : Nat) (o : Int32) (hrun : fX5_mayFail p0w p2 p1_2n p1_2w = some o) : Met l yX5_mayFail (wz yX5_mayFail cX5_mayFail 5 (Option.some Jvm.ClassFile.FieldType.boolean)) ({ frames := 1, cells := 0, slots := 0, locals := 22 } : Room) (va_Pc [.ref (p0a 0), .ref (p1a 0), .int p2] (PRE zs dC dI ((oX5 (p0a 0) p0a p0k p0w p0l) ++ (oX1 (p1a 0) p1a p1k p1n p1w p1l) ++ (oX9 (p1a 3) p1_2a p1_2k p1_2n p1_2w)) ((tX5 p0k) ++ (tX1 p1k) ++ (tX9 p1_2k)) sz)) (va_Qi (fun (r : Int32) (_ : Unit) => r = o) (fun _ t => POST dC dI ((oX5 (p0a 0) p0a p0k p0w p0l) ++ (oX1 (p1a 0) p1a p1k p1n p1w p1l) ++ (oX9 (p1a 3) p1_2a p1_2k p1_2n p1_2w)) ((tX5 p0k) ++ (tX1 p1k) ++ (tX9 p1_2k)) (va_A ((oX5 (p0a 0) p0a p0k p0w p0l) ++ (oX1 (p1a 0) p1a p1k p1n p1w p1l) ++ (oX9 (p1a 3) p1_2a p1_2k p1_2n p1_2w)) sz) t) (va_A ((oX5 (p0a 0) p0a p0k p0w p0l) ++ (oX1 (p1a 0) p1a p1k p1n p1w p1l) ++ (oX9 (p1a 3) p1_2a p1_2k p1_2n p1_2w)) sz)) 0 0 (va_A ((oX5 (p0a 0) p0a p0k p0w p0l) ++ (oX1 (p1a 0) p1a p1k p1n p1w p1l) ++ (oX9 (p1a 3) p1_2a p1_2k p1_2n p1_2w)) sz) := by
  refine Met.ofW (cc := cX5_mayFail) (maxL := 5) (ret := (Option.some Jvm.ClassFile.FieldType.boolean)) (by decide) rfl ?_
  intro p e s m args below meth c s₁ B hml hv
  obtain ⟨rfl, hsz, hP, hK, hD0, hE⟩ := hv
  have hx := B.exec
  have hb := B.bytes
  have hr := B.returns
  have hts0 := atoms_spec (ws := wz yX5_mayFail cX5_mayFail 5 (Option.some Jvm.ClassFile.FieldType.boolean)) B.pre
  have hts : ∀ w ∈ gw, w.before _ s = true := fun w h => hts0 w (List.mem_cons_of_mem _ h)
  have hown : s.vm.findClass RX5 = some m.cls := findClass_of_methodNamed B.named
  have hlocks := B.notSynchronized
  subst hsz
  have hD := hD0.self (sz := s.heap.size)
  refine gQ9 ?_
  intro Q hQ
  generalize hAe : va_A ((oX5 (p0a 0) p0a p0k p0w p0l) ++ (oX1 (p1a 0) p1a p1k p1n p1w p1l) ++ (oX9 (p1a 3) p1_2a p1_2k p1_2n p1_2w)) s.heap.size = A at hD hE hQ
  have hA : ∀ q : Nat, s.heap.size ≤ q → A q := fun q h => by rw [← hAe]; exact Or.inr h
  have hS : va_S A s.heap s.heap [] := va_S.rf
  have hP : va_P (dC, dI) cls ((oX5 (p0a 0) p0a p0k p0w p0l) ++ (oX1 (p1a 0) p1a p1k p1n p1w p1l) ++ (oX9 (p1a 3) p1_2a p1_2k p1_2n p1_2w)) s.heap := hP
  have hl := lv_entry ([.ref (p0a 0), .ref (p1a 0), .int p2]) (n := 5) (Nat.le_of_ble_eq_true rfl)
  rw [lg_entry_eq]
  generalize (lg_sl ([.ref (p0a 0), .ref (p1a 0), .int p2]) ++ List.replicate (5 - (lg_sl ([.ref (p0a 0), .ref (p1a 0), .int p2])).length) Slot.unset).toArray = ls at hl ⊢
  have hl : lv_has ls 5 [(0, .ref (p0a 0)), (1, .ref (p1a 0)), (2, .int p2)] := hl
  obtain ⟨H, hHe⟩ : ∃ H, H = s.heap := ⟨_, rfl⟩
  obtain ⟨locs, hle⟩ : ∃ locs : List Loc, locs = [] := ⟨_, rfl⟩
  rw [← hHe] at hP
  have hS : va_S A s.heap H locs := by rw [hHe, hle]; exact hS
  show W p l e ({ frames := 1, cells := 0, slots := 0, locals := 22 } : Room) s m ([.ref (p0a 0), .ref (p1a 0), .int p2] : List Value).toArray below meth c s.heap [] 0 0 Q (F0 m 0 ls [])
  rw [← hle]
  refine wH9 hHe ?_
  unfold fX5_mayFail at hrun
  refine lv_aload_n hx hb dX5_mayFail_0 rfl (lv_at hl 1 rfl) ?_
  refine va_get (D := (dC, dI)) (ci := 4) (v := .ref (p1a 3)) (C := RX1) (T := TX1) (N := 21) hx hb hts i_X1 hown hK hP 10 rfl rfl 2 (by decide) (hts _ qw435) (fun _ h9 => h9) rfl dX5_mayFail_1 ?_
  refine va_get (D := (dC, dI)) (ci := 3) (v := .ref (p1_2a 2)) (C := RX9) (T := TX9) (N := 6) hx hb hts i_X9 hown hK hP 28 rfl rfl 1 (by decide) (hts _ qw420) (fun _ h9 => h9) rfl dX5_mayFail_4 ?_
  refine lv_iload_n hx hb dX5_mayFail_7 rfl (lv_at hl 2 rfl) ?_
  obtain ⟨hq1, hrun⟩ := chk9 hrun
  refine va_iald hx hb hK hP 29 26 rfl rfl (ixb_in hq1) dX5_mayFail_8 ?_
  refine lv_istore_n (lv' := [(3, .int (p1_2w 2 (nn p2))), (0, .ref (p0a 0)), (1, .ref (p1a 0)), (2, .int p2)]) hx hb dX5_mayFail_9 rfl hl (by decide) rfl (fun ls hl => ?_)
  refine lv_iload_n hx hb dX5_mayFail_10 rfl (lv_at hl 0 rfl) ?_
  refine lv_iconst (v := 4) hx hb dX5_mayFail_11 (by decide) ?_
  have J22 : ∀ (H : Heap) (locs : List Loc) (ls : Array Slot), (fX5_mayFail_J22 p0w p2 p1_2n p1_2w) = some o → va_P (dC, dI) cls ((oX5 (p0a 0) p0a p0k p0w p0l) ++ (oX1 (p1a 0) p1a p1k p1n p1w p1l) ++ (oX9 (p1a 3) p1_2a p1_2k p1_2n p1_2w)) H → va_D A ((oX5 (p0a 0) p0a p0k p0w p0l) ++ (oX1 (p1a 0) p1a p1k p1n p1w p1l) ++ (oX9 (p1a 3) p1_2a p1_2k p1_2n p1_2w)) → va_K (dC, dI) cls ((tX5 p0k) ++ (tX1 p1k) ++ (tX9 p1_2k)) s → va_S A s.heap H locs → lv_has ls 5 [(0, .ref (p0a 0)), (1, .ref (p1a 0)), (2, .int p2)] → W p l e ({ frames := 1, cells := 0, slots := 0, locals := 22 } : Room) s m ([.ref (p0a 0), .ref (p1a 0), .int p2] : List Value).toArray below meth c H locs 0 0 Q (F0 m 22 ls []) := by
    intro  H locs ls hrun hP hD hK hS hl 
    unfold fX5_mayFail_J22 at hrun
    refine lv_aload_n hx hb dX5_mayFail_22 rfl (lv_at hl 1 rfl) ?_
    refine va_get (D := (dC, dI)) (ci := 4) (v := .ref (p1a 3)) (C := RX1) (T := TX1) (N := 21) hx hb hts i_X1 hown hK hP 10 rfl rfl 2 (by decide) (hts _ qw435) (fun _ h9 => h9) rfl dX5_mayFail_23 ?_
    refine va_get (D := (dC, dI)) (ci := 3) (v := .ref (p1_2a 5)) (C := RX9) (T := TX9) (N := 6) hx hb hts i_X9 hown hK hP 28 rfl rfl 4 (by decide) (hts _ qw422) (fun _ h9 => h9) rfl dX5_mayFail_26 ?_
    refine lv_iload_n hx hb dX5_mayFail_29 rfl (lv_at hl 2 rfl) ?_
    obtain ⟨hq2, hrun⟩ := chk9 hrun
    refine va_iald hx hb hK hP 32 29 rfl rfl (ixb_in hq2) dX5_mayFail_30 ?_
    refine lv_istore (lv' := [(4, .int (p1_2w 5 (nn p2))), (0, .ref (p0a 0)), (1, .ref (p1a 0)), (2, .int p2)]) hx hb dX5_mayFail_31 hl (by decide) rfl (fun ls hl => ?_)
    refine lv_aload_n hx hb dX5_mayFail_33 rfl (lv_at hl 1 rfl) ?_
    refine lv_aload_n hx hb dX5_mayFail_34 rfl (lv_at hl 2 rfl) ?_
    refine lv_iload hx hb dX5_mayFail_35 (lv_at hl 0 rfl) ?_
    obtain ⟨o_3, hc_3, hrun⟩ := bnd9 hrun
    have hPc := hP.sub (ws' := ((oX5 (p0a 0) p0a p0k p0w p0l) ++ (oX1 (p1a 0) p1a p1k p1n p1w p1l) ++ (oX9 (p1a 3) p1_2a p1_2k p1_2n p1_2w))) [0, 1, 2, 3, 4, 5, 6, 7, 8, 9, 10, 11, 12, 13, 14, 15, 16, 17, 18, 19, 20, 21, 22, 23, 24, 25, 26, 27, 28, 29, 30, 31, 32, 33] rfl
    have hDc := hD.sub (ws' := ((oX5 (p0a 0) p0a p0k p0w p0l) ++ (oX1 (p1a 0) p1a p1k p1n p1w p1l) ++ (oX9 (p1a 3) p1_2a p1_2k p1_2n p1_2w))) [0, 1, 2, 3, 4, 5, 6, 7, 8, 9, 10, 11, 12, 13, 14, 15, 16, 17, 18, 19, 20, 21, 22, 23, 24, 25, 26, 27, 28, 29, 30, 31, 32, 33] (by decide) rfl
    have hKc := hK.sub (tys' := ((tX5 p0k) ++ (tX1 p1k) ++ (tX9 p1_2k))) [0, 1, 2, 3, 4, 5, 6, 7, 8, 9, 10, 11, 12, 13, 14, 15, 16, 17, 18, 19, 20, 21, 22, 23, 24, 25, 26, 27, 28, 29, 30] rfl
    have hFc := va_free (wc := ((oX5 (p0a 0) p0a p0k p0w p0l) ++ (oX1 (p1a 0) p1a p1k p1n p1w p1l) ++ (oX9 (p1a 3) p1_2a p1_2k p1_2n p1_2w))) hD hS hA [0, 1, 2, 3, 4, 5, 6, 7, 8, 9, 10, 11, 12, 13, 14, 15, 16, 17, 18, 19, 20, 21, 22, 23, 24, 25, 26, 27, 28, 29, 30, 31, 32, 33] rfl
    refine va_calli (va_runV (As := [.ref (p1a 0), .int (p1_2w 5 (nn p2))]) (rest := []) ⟨hx, hb, hml, hown, hts⟩ (kX5_isNumber l dC dI (p0a := (st0 (p0a 0) p0a)) (p0k := p0k) (p0w := p0w) (p0l := p0l) (p1a := (st0 (p1a 0) p1a)) (p1k := p1k) (p1n := p1n) (p1w := p1w) (p1l := p1l) (p2 := (p1_2w 5 (nn p2))) (p1_2a := p1_2a) (p1_2k := p1_2k) (p1_2n := p1_2n) (p1_2w := p1_2w) (sz := _) (o := o_3) (hrun := hc_3)) (cwV 2 hts (gi_V qw457 qw458 qw459 qw442 (gi_z qw456)) rfl rfl rfl (by decide +kernel) ⟨Nat.le_of_ble_eq_true rfl, Nat.le_of_ble_eq_true rfl⟩) ⟨PRE.blind, va_recv hKc hPc (ci := 7) (q0 := 0) rfl rfl, PRE.of hE hS hFc hPc hKc hDc⟩ rfl rfl hl.1 rfl (lv_room (Nat.le_of_ble_eq_true rfl)) dX5_mayFail_37 ⟨(Nat.le_of_ble_eq_true rfl), (Nat.le_of_ble_eq_true rfl)⟩) hS (fun q _ h => hFc q h) hFc (fun r4 u t H locs ht hvm hw hB hz1 hk1 hS => ?_)
    obtain ⟨hP, hD, hK⟩ := JOIN (wr := ([] : va_W)) hP hD hK [0, 1, 2, 3, 4, 5, 6, 7, 8, 9, 10, 11, 12, 13, 14, 15, 16, 17, 18, 19, 20, 21, 22, 23, 24, 25, 26, 27, 28, 29, 30, 31, 32, 33] [] [] rfl rfl (by decide) (by decide) rfl hk1 hFc ht hvm hB
    have hP : va_P (dC, dI) cls ((oX5 (p0a 0) p0a p0k p0w p0l) ++ (oX1 (p1a 0) p1a p1k p1n p1w p1l) ++ (oX9 (p1a 3) p1_2a p1_2k p1_2n p1_2w)) H := hP.sub [0, 1, 2, 3, 4, 5, 6, 7, 8, 9, 10, 11, 12, 13, 14, 15, 16, 17, 18, 19, 20, 21, 22, 23, 24, 25, 26, 27, 28, 29, 30, 31, 32, 33] rfl
    have hD : va_D A ((oX5 (p0a 0) p0a p0k p0w p0l) ++ (oX1 (p1a 0) p1a p1k p1n p1w p1l) ++ (oX9 (p1a 3) p1_2a p1_2k p1_2n p1_2w)) := hD.sub [0, 1, 2, 3, 4, 5, 6, 7, 8, 9, 10, 11, 12, 13, 14, 15, 16, 17, 18, 19, 20, 21, 22, 23, 24, 25, 26, 27, 28, 29, 30, 31, 32, 33] (by decide) rfl
    have hK : va_K (dC, dI) cls ((tX5 p0k) ++ (tX1 p1k) ++ (tX9 p1_2k)) s := hK.sub [0, 1, 2, 3, 4, 5, 6, 7, 8, 9, 10, 11, 12, 13, 14, 15, 16, 17, 18, 19, 20, 21, 22, 23, 24, 25, 26, 27, 28, 29, 30] rfl
    obtain rfl : o_3 = r4 := hw.symm
    have J58 : ∀ (y0_58 : Int32) (H : Heap) (locs : List Loc) (ls : Array Slot), (fX5_mayFail_J58 y0_58) = some o → va_P (dC, dI) cls ((oX5 (p0a 0) p0a p0k p0w p0l) ++ (oX1 (p1a 0) p1a p1k p1n p1w p1l) ++ (oX9 (p1a 3) p1_2a p1_2k p1_2n p1_2w)) H → va_D A ((oX5 (p0a 0) p0a p0k p0w p0l) ++ (oX1 (p1a 0) p1a p1k p1n p1w p1l) ++ (oX9 (p1a 3) p1_2a p1_2k p1_2n p1_2w)) → va_K (dC, dI) cls ((tX5 p0k) ++ (tX1 p1k) ++ (tX9 p1_2k)) s → va_S A s.heap H locs → lv_has ls 5 [] → W p l e ({ frames := 1, cells := 0, slots := 0, locals := 22 } : Room) s m ([.ref (p0a 0), .ref (p1a 0), .int p2] : List Value).toArray below meth c H locs 0 0 Q (F0 m 58 ls [.int y0_58]) := by
      intro y0_58 H locs ls hrun hP hD hK hS hl 
      unfold fX5_mayFail_J58 at hrun
      obtain ⟨hz9, hrun⟩ := chk9 hrun
      have ho9 : y0_58 = o := Option.some.inj hrun
      have hP9 : va_P (dC, dI) cls ((oX5 (p0a 0) p0a p0k p0w p0l) ++ (oX1 (p1a 0) p1a p1k p1n p1w p1l) ++ (oX9 (p1a 3) p1_2a p1_2k p1_2n p1_2w)) H := by first | exact hP | (rw [← ho9]; exact hP)
      have hD9 : va_D A ((oX5 (p0a 0) p0a p0k p0w p0l) ++ (oX1 (p1a 0) p1a p1k p1n p1w p1l) ++ (oX9 (p1a 3) p1_2a p1_2k p1_2n p1_2w)) := by first | exact hD | (rw [← ho9]; exact hD)
      subst hQ
      exact W.zret (v := y0_58) hx hb hr (bz9 hz9) (fun t ht hW => ⟨⟨y0_58, (), rfl, (by rw [← ho9]), ⟨by rw [ht]; exact hP9, va_K.moved hW.alike hK, hD9⟩⟩, hS.F ht⟩) hS.2.2 dX5_mayFail_58
    have J53 : ∀ (H : Heap) (locs : List Loc) (ls : Array Slot), (fX5_mayFail_J53) = some o → va_P (dC, dI) cls ((oX5 (p0a 0) p0a p0k p0w p0l) ++ (oX1 (p1a 0) p1a p1k p1n p1w p1l) ++ (oX9 (p1a 3) p1_2a p1_2k p1_2n p1_2w)) H → va_D A ((oX5 (p0a 0) p0a p0k p0w p0l) ++ (oX1 (p1a 0) p1a p1k p1n p1w p1l) ++ (oX9 (p1a 3) p1_2a p1_2k p1_2n p1_2w)) → va_K (dC, dI) cls ((tX5 p0k) ++ (tX1 p1k) ++ (tX9 p1_2k)) s → va_S A s.heap H locs → lv_has ls 5 [] → W p l e ({ frames := 1, cells := 0, slots := 0, locals := 22 } : Room) s m ([.ref (p0a 0), .ref (p1a 0), .int p2] : List Value).toArray below meth c H locs 0 0 Q (F0 m 53 ls []) := by
      intro  H locs ls hrun hP hD hK hS hl 
      unfold fX5_mayFail_J53 at hrun
      refine lv_iconst (v := 1) hx hb dX5_mayFail_53 (by decide) ?_
      refine lv_goto (tgt := 58) hx hb dX5_mayFail_54 (by decide) ?_
      exact J58 1 _ _ _ hrun hP hD hK hS (lv_sub hl [] rfl)
    rcases br9 hrun with ⟨hc5, hrun⟩ | ⟨hc5, hrun⟩
    · refine lv_if_eq (tgt := 53) hx hb dX5_mayFail_40 (by decide) (fun _ => ?_) (fun c => absurd hc5 c)
      exact J53 _ _ _ hrun hP hD hK hS (lv_sub hl [] rfl)
    · refine lv_if_eq (tgt := 53) hx hb dX5_mayFail_40 (by decide) (fun c => absurd c hc5) (fun _ => ?_)
      refine lv_aload_n hx hb dX5_mayFail_43 rfl (lv_at hl 1 rfl) ?_
      refine lv_aload_n hx hb dX5_mayFail_44 rfl (lv_at hl 2 rfl) ?_
      refine lv_iload hx hb dX5_mayFail_45 (lv_at hl 0 rfl) ?_
      obtain ⟨o_6, hc_6, hrun⟩ := bnd9 hrun
      have hPc := hP.sub (ws' := ((oX5 (p0a 0) p0a p0k p0w p0l) ++ (oX1 (p1a 0) p1a p1k p1n p1w p1l) ++ (oX9 (p1a 3) p1_2a p1_2k p1_2n p1_2w))) [0, 1, 2, 3, 4, 5, 6, 7, 8, 9, 10, 11, 12, 13, 14, 15, 16, 17, 18, 19, 20, 21, 22, 23, 24, 25, 26, 27, 28, 29, 30, 31, 32, 33] rfl
      have hDc := hD.sub (ws' := ((oX5 (p0a 0) p0a p0k p0w p0l) ++ (oX1 (p1a 0) p1a p1k p1n p1w p1l) ++ (oX9 (p1a 3) p1_2a p1_2k p1_2n p1_2w))) [0, 1, 2, 3, 4, 5, 6, 7, 8, 9, 10, 11, 12, 13, 14, 15, 16, 17, 18, 19, 20, 21, 22, 23, 24, 25, 26, 27, 28, 29, 30, 31, 32, 33] (by decide) rfl
      have hKc := hK.sub (tys' := ((tX5 p0k) ++ (tX1 p1k) ++ (tX9 p1_2k))) [0, 1, 2, 3, 4, 5, 6, 7, 8, 9, 10, 11, 12, 13, 14, 15, 16, 17, 18, 19, 20, 21, 22, 23, 24, 25, 26, 27, 28, 29, 30] rfl
      have hFc := va_free (wc := ((oX5 (p0a 0) p0a p0k p0w p0l) ++ (oX1 (p1a 0) p1a p1k p1n p1w p1l) ++ (oX9 (p1a 3) p1_2a p1_2k p1_2n p1_2w))) hD hS hA [0, 1, 2, 3, 4, 5, 6, 7, 8, 9, 10, 11, 12, 13, 14, 15, 16, 17, 18, 19, 20, 21, 22, 23, 24, 25, 26, 27, 28, 29, 30, 31, 32, 33] rfl
      refine va_calli (va_runV (As := [.ref (p1a 0), .int (p1_2w 5 (nn p2))]) (rest := []) ⟨hx, hb, hml, hown, hts⟩ (kX5_numberOf l dC dI (p0a := (st0 (p0a 0) p0a)) (p0k := p0k) (p0w := p0w) (p0l := p0l) (p1a := (st0 (p1a 0) p1a)) (p1k := p1k) (p1n := p1n) (p1w := p1w) (p1l := p1l) (p2 := (p1_2w 5 (nn p2))) (p1_2a := p1_2a) (p1_2k := p1_2k) (p1_2n := p1_2n) (p1_2w := p1_2w) (sz := _) (o := o_6) (hrun := hc_6)) (cwV 2 hts (gi_V qw461 qw462 qw463 qw442 (gi_z qw460)) rfl rfl rfl (by decide +kernel) ⟨Nat.le_of_ble_eq_true rfl, Nat.le_of_ble_eq_true rfl⟩) ⟨PRE.blind, va_recv hKc hPc (ci := 7) (q0 := 0) rfl rfl, PRE.of hE hS hFc hPc hKc hDc⟩ rfl rfl hl.1 rfl (lv_room (Nat.le_of_ble_eq_true rfl)) dX5_mayFail_47 ⟨(Nat.le_of_ble_eq_true rfl), (Nat.le_of_ble_eq_true rfl)⟩) hS (fun q _ h => hFc q h) hFc (fun r7 u t H locs ht hvm hw hB hz1 hk1 hS => ?_)
      obtain ⟨hP, hD, hK⟩ := JOIN (wr := ([] : va_W)) hP hD hK [0, 1, 2, 3, 4, 5, 6, 7, 8, 9, 10, 11, 12, 13, 14, 15, 16, 17, 18, 19, 20, 21, 22, 23, 24, 25, 26, 27, 28, 29, 30, 31, 32, 33] [] [] rfl rfl (by decide) (by decide) rfl hk1 hFc ht hvm hB
      have hP : va_P (dC, dI) cls ((oX5 (p0a 0) p0a p0k p0w p0l) ++ (oX1 (p1a 0) p1a p1k p1n p1w p1l) ++ (oX9 (p1a 3) p1_2a p1_2k p1_2n p1_2w)) H := hP.sub [0, 1, 2, 3, 4, 5, 6, 7, 8, 9, 10, 11, 12, 13, 14, 15, 16, 17, 18, 19, 20, 21, 22, 23, 24, 25, 26, 27, 28, 29, 30, 31, 32, 33] rfl
      have hD : va_D A ((oX5 (p0a 0) p0a p0k p0w p0l) ++ (oX1 (p1a 0) p1a p1k p1n p1w p1l) ++ (oX9 (p1a 3) p1_2a p1_2k p1_2n p1_2w)) := hD.sub [0, 1, 2, 3, 4, 5, 6, 7, 8, 9, 10, 11, 12, 13, 14, 15, 16, 17, 18, 19, 20, 21, 22, 23, 24, 25, 26, 27, 28, 29, 30, 31, 32, 33] (by decide) rfl
      have hK : va_K (dC, dI) cls ((tX5 p0k) ++ (tX1 p1k) ++ (tX9 p1_2k)) s := hK.sub [0, 1, 2, 3, 4, 5, 6, 7, 8, 9, 10, 11, 12, 13, 14, 15, 16, 17, 18, 19, 20, 21, 22, 23, 24, 25, 26, 27, 28, 29, 30] rfl
      obtain rfl : o_6 = r7 := hw.symm
      rcases br9 hrun with ⟨hc8, hrun⟩ | ⟨hc8, hrun⟩
      · refine lv_if_ne (tgt := 57) hx hb dX5_mayFail_50 (by decide) (fun c => absurd hc8 c) (fun _ => ?_)
        exact J53 _ _ _ hrun hP hD hK hS (lv_sub hl [] rfl)
      · refine lv_if_ne (tgt := 57) hx hb dX5_mayFail_50 (by decide) (fun _ => ?_) (fun c => absurd c hc8)
        refine lv_iconst (v := 0) hx hb dX5_mayFail_57 (by decide) ?_
        exact J58 0 _ _ _ hrun hP hD hK hS (lv_sub hl [] rfl)
  rcases br9 hrun with ⟨hc9, hrun⟩ | ⟨hc9, hrun⟩
  · refine lv_icmp_eq (tgt := 22) hx hb dX5_mayFail_12 (by decide) (fun _ => ?_) (fun c => absurd hc9 c)
    exact J22 _ _ _ hrun hP hD hK hS (lv_sub hl [1, 2, 3] rfl)
  · refine lv_icmp_eq (tgt := 22) hx hb dX5_mayFail_12 (by decide) (fun c => absurd c hc9) (fun _ => ?_)
    refine lv_iload_n hx hb dX5_mayFail_15 rfl (lv_at hl 0 rfl) ?_
    refine lv_iconst (v := 5) hx hb dX5_mayFail_16 (by decide) ?_
    rcases br9 hrun with ⟨hc10, hrun⟩ | ⟨hc10, hrun⟩
    · refine lv_icmp_eq (tgt := 22) hx hb dX5_mayFail_17 (by decide) (fun _ => ?_) (fun c => absurd hc10 c)
      exact J22 _ _ _ hrun hP hD hK hS (lv_sub hl [1, 2, 3] rfl)
    · refine lv_icmp_eq (tgt := 22) hx hb dX5_mayFail_17 (by decide) (fun c => absurd c hc10) (fun _ => ?_)
      refine lv_iconst (v := 0) hx hb dX5_mayFail_20 (by decide) ?_
      have ho9 : 0 = o := Option.some.inj hrun
      have hP9 : va_P (dC, dI) cls ((oX5 (p0a 0) p0a p0k p0w p0l) ++ (oX1 (p1a 0) p1a p1k p1n p1w p1l) ++ (oX9 (p1a 3) p1_2a p1_2k p1_2n p1_2w)) H := by first | exact hP | (rw [← ho9]; exact hP)
      have hD9 : va_D A ((oX5 (p0a 0) p0a p0k p0w p0l) ++ (oX1 (p1a 0) p1a p1k p1n p1w p1l) ++ (oX9 (p1a 3) p1_2a p1_2k p1_2n p1_2w)) := by first | exact hD | (rw [← ho9]; exact hD)
      subst hQ
      exact W.zret (v := 0) hx hb hr (by decide) (fun t ht hW => ⟨⟨0, (), rfl, (by rw [← ho9]), ⟨by rw [ht]; exact hP9, va_K.moved hW.alike hK, hD9⟩⟩, hS.F ht⟩) hS.2.2 dX5_mayFail_21
def fX5_wantInBlock_J196 (kk42 : Int32 → Int32 → ST → Option (Int32 × ST)) (p1_2n : Nat → Nat) (p1_2w : ST) (v5_42 : Int32) (v3_196 : Int32) (p0w_196 : ST) : Option (Int32 × ST) := (if ixb v5_42 (p1_2n 6) = true then (kk42 v3_196 (p1_2w 6 (nn v5_42)) p0w_196) else none)
def fX5_wantInBlock_J195 (kk42 : Int32 → Int32 → ST → Option (Int32 × ST)) (p1_2n : Nat → Nat) (p1_2w : ST) (v5_42 : Int32) (o_12 : Int32 × ST) (y0_195 : Int32) : Option (Int32 × ST) := (fX5_wantInBlock_J196 kk42 p1_2n p1_2w v5_42 y0_195 (o_12.2))
def fX5_wantInBlock_J190 (kk42 : Int32 → Int32 → ST → Option (Int32 × ST)) (p1_2n : Nat → Nat) (p1_2w : ST) (v5_42 : Int32) (o_12 : Int32 × ST) : Option (Int32 × ST) := (fX5_wantInBlock_J195 kk42 p1_2n p1_2w v5_42 o_12 1)
def fX5_wantInBlock_J148 (kk42 : Int32 → Int32 → ST → Option (Int32 × ST)) (p1_2n : Nat → Nat) (p1_2w : ST) (v5_42 : Int32) (v3_148 : Int32) (p0w_148 : ST) : Option (Int32 × ST) := (if ixb v5_42 (p1_2n 3) = true then (if (p1_2w 3 (nn v5_42)) < 0 then (fX5_wantInBlock_J196 kk42 p1_2n p1_2w v5_42 v3_148 p0w_148) else (if ixb v5_42 (p1_2n 3) = true then (if ixb (p1_2w 3 (nn v5_42)) 250 = true then (if (p0w_148 7 (nn (p1_2w 3 (nn v5_42)))) = 0 then ((fX5_wantUsed p0w_148 p1_2n p1_2w v5_42).bind fun (o_12 : Int32 × ST) => (if (o_12.1) = 0 then (if v3_148 = 0 then (fX5_wantInBlock_J195 kk42 p1_2n p1_2w v5_42 o_12 0) else (fX5_wantInBlock_J190 kk42 p1_2n p1_2w v5_42 o_12)) else (fX5_wantInBlock_J190 kk42 p1_2n p1_2w v5_42 o_12))) else (fX5_wantInBlock_J196 kk42 p1_2n p1_2w v5_42 v3_148 p0w_148)) else none) else none)) else none)
def fX5_wantInBlock_J147 (kk42 : Int32 → Int32 → ST → Option (Int32 × ST)) (p1_2n : Nat → Nat) (p1_2w : ST) (v5_42 : Int32) (o_21 : Int32 × ST) (y0_147 : Int32) : Option (Int32 × ST) := (fX5_wantInBlock_J148 kk42 p1_2n p1_2w v5_42 y0_147 (o_21.2))
def fX5_wantInBlock_J142 (kk42 : Int32 → Int32 → ST → Option (Int32 × ST)) (p1_2n : Nat → Nat) (p1_2w : ST) (v5_42 : Int32) (o_21 : Int32 × ST) : Option (Int32 × ST) := (fX5_wantInBlock_J147 kk42 p1_2n p1_2w v5_42 o_21 1)
def fX5_wantInBlock_J102 (kk42 : Int32 → Int32 → ST → Option (Int32 × ST)) (p1_2n : Nat → Nat) (p1_2w : ST) (v5_42 : Int32) (v3_102 : Int32) (p0w_102 : ST) : Option (Int32 × ST) := (if ixb v5_42 (p1_2n 3) = true then (if (p1_2w 3 (nn v5_42)) < 0 then (fX5_wantInBlock_J148 kk42 p1_2n p1_2w v5_42 v3_102 p0w_102) else ((fX5_mayFail p0w_102 v5_42 p1_2n p1_2w).bind fun (o_17 : Int32) => (if o_17 = 0 then (fX5_wantInBlock_J148 kk42 p1_2n p1_2w v5_42 v3_102 p0w_102) else (if ixb v5_42 (p1_2n 3) = true then ((fX5_want p0w_102 (p1_2w 3 (nn v5_42))).bind fun (o_21 : Int32 × ST) => (if (o_21.1) = 0 then (if v3_102 = 0 then (fX5_wantInBlock_J147 kk42 p1_2n p1_2w v5_42 o_21 0) else (fX5_wantInBlock_J142 kk42 p1_2n p1_2w v5_42 o_21)) else (fX5_wantInBlock_J142 kk42 p1_2n p1_2w v5_42 o_21))) else none)))) else none)
def fX5_wantInBlock_J101 (kk42 : Int32 → Int32 → ST → Option (Int32 × ST)) (p1_2n : Nat → Nat) (p1_2w : ST) (v5_42 : Int32) (o_25 : Int32 × ST) (y0_101 : Int32) : Option (Int32 × ST) := (fX5_wantInBlock_J102 kk42 p1_2n p1_2w v5_42 y0_101 (o_25.2))
def fX5_wantInBlock_J96 (kk42 : Int32 → Int32 → ST → Option (Int32 × ST)) (p1_2n : Nat → Nat) (p1_2w : ST) (v5_42 : Int32) (o_25 : Int32 × ST) : Option (Int32 × ST) := (fX5_wantInBlock_J101 kk42 p1_2n p1_2w v5_42 o_25 1)
def fX5_wantInBlock_J81 (kk42 : Int32 → Int32 → ST → Option (Int32 × ST)) (p1_2n : Nat → Nat) (p1_2w : ST) (v3_42 : Int32) (v5_42 : Int32) (p0w_42 : ST) : Option (Int32 × ST) := ((fX5_wantUsed p0w_42 p1_2n p1_2w v5_42).bind fun (o_25 : Int32 × ST) => (if (o_25.1) = 0 then (if v3_42 = 0 then (fX5_wantInBlock_J101 kk42 p1_2n p1_2w v5_42 o_25 0) else (fX5_wantInBlock_J96 kk42 p1_2n p1_2w v5_42 o_25)) else (fX5_wantInBlock_J96 kk42 p1_2n p1_2w v5_42 o_25)))
def fX5_wantInBlock_L42 (p1_2n : Nat → Nat) (p1_2w : ST) : Nat → Int32 → Int32 → ST → Option (Int32 × ST)
  | 0 => fun _ _ _ => none
  | n_42 + 1 => fun v3_42 v5_42 p0w_42 => (if v5_42 < 0 then some (v3_42, p0w_42) else (if ixb v5_42 (p1_2n 2) = true then (if (p1_2w 2 (nn v5_42)) = 18 then (fX5_wantInBlock_J81 (fX5_wantInBlock_L42 p1_2n p1_2w n_42) p1_2n p1_2w v3_42 v5_42 p0w_42) else (if (p1_2w 2 (nn v5_42)) = 19 then (fX5_wantInBlock_J81 (fX5_wantInBlock_L42 p1_2n p1_2w n_42) p1_2n p1_2w v3_42 v5_42 p0w_42) else ((fX5_mayFail p0w_42 v5_42 p1_2n p1_2w).bind fun (o_31 : Int32) => (if o_31 = 0 then (fX5_wantInBlock_J102 (fX5_wantInBlock_L42 p1_2n p1_2w n_42) p1_2n p1_2w v5_42 v3_42 p0w_42) else (fX5_wantInBlock_J81 (fX5_wantInBlock_L42 p1_2n p1_2w n_42) p1_2n p1_2w v3_42 v5_42 p0w_42))))) else none))
def fX5_wantInBlock_J286 (kk217 : Int32 → Int32 → ST → Option (Int32 × ST)) (p1n : Nat → Nat) (p1w : ST) (v5_217 : Int32) (v3_286 : Int32) (p0w_286 : ST) : Option (Int32 × ST) := (if ixb v5_217 (p1n 20) = true then (kk217 v3_286 (p1w 20 (nn v5_217)) p0w_286) else none)
def fX5_wantInBlock_J279 (kk240 : Int32 → Int32 → ST → Option (Int32 × ST)) (v6_240 : Int32) (o_47 : Int32 × ST) (y0_279 : Int32) : Option (Int32 × ST) := (kk240 y0_279 (v6_240 + 1) (o_47.2))
def fX5_wantInBlock_J274 (kk240 : Int32 → Int32 → ST → Option (Int32 × ST)) (v6_240 : Int32) (o_47 : Int32 × ST) : Option (Int32 × ST) := (fX5_wantInBlock_J279 kk240 v6_240 o_47 1)
def fX5_wantInBlock_L240 (p1n : Nat → Nat) (p1w : ST) (p2 : Int32) (v5_217 : Int32) : Nat → Int32 → Int32 → ST → Option (Int32 × ST)
  | 0 => fun _ _ _ => none
  | n_240 + 1 => fun v3_240 v6_240 p0w_240 => ((fX1_waysTo p1w p2).bind fun (o_40 : Int32) => (if o_40 ≤ v6_240 then some (v3_240, p0w_240) else ((fX1_wayFrom p1w p2 v6_240).bind fun (o_43 : Int32) => ((fX1_take p1n p1w v5_217 o_43).bind fun (o_45 : Int32) => ((fX5_want p0w_240 o_45).bind fun (o_47 : Int32 × ST) => (if (o_47.1) = 0 then (if v3_240 = 0 then (fX5_wantInBlock_J279 (fX5_wantInBlock_L240 p1n p1w p2 v5_217 n_240) v6_240 o_47 0) else (fX5_wantInBlock_J274 (fX5_wantInBlock_L240 p1n p1w p2 v5_217 n_240) v6_240 o_47)) else (fX5_wantInBlock_J274 (fX5_wantInBlock_L240 p1n p1w p2 v5_217 n_240) v6_240 o_47)))))))
def fX5_wantInBlock_L217 (p1n : Nat → Nat) (p1w : ST) (p2 : Int32) : Nat → Int32 → Int32 → ST → Option (Int32 × ST)
  | 0 => fun _ _ _ => none
  | n_217 + 1 => fun v3_217 v5_217 p0w_217 => (if v5_217 < 0 then some (v3_217, p0w_217) else (if ixb v5_217 (p1n 19) = true then (if ixb (p1w 19 (nn v5_217)) 250 = true then (if (p0w_217 7 (nn (p1w 19 (nn v5_217)))) = 0 then ((fX5_wantInBlock_L240 p1n p1w p2 v5_217 NF v3_217 0 p0w_217).bind fun (o240 : Int32 × ST) => (fX5_wantInBlock_J286 (fX5_wantInBlock_L217 p1n p1w p2 n_217) p1n p1w v5_217 (o240.1) (o240.2))) else (fX5_wantInBlock_J286 (fX5_wantInBlock_L217 p1n p1w p2 n_217) p1n p1w v5_217 v3_217 p0w_217)) else none) else none))
def fX5_wantInBlock_J27 (p1n : Nat → Nat) (p1w : ST) (p2 : Int32) (p1_2n : Nat → Nat) (p1_2w : ST) (y0_27 : Int32) (p0w_27 : ST) : Option (Int32 × ST) := (if ixb p2 60 = true then ((fX5_wantInBlock_L42 p1_2n p1_2w NF y0_27 (p1w 4 (nn p2)) p0w_27).bind fun (o42 : Int32 × ST) => (if ixb p2 60 = true then ((fX5_wantInBlock_L217 p1n p1w p2 NF (o42.1) (p1w 6 (nn p2)) (o42.2)).bind fun (o217 : Int32 × ST) => (if (o217.1) = 0 ∨ (o217.1) = 1 then some ((o217.1), (o217.2)) else none)) else none)) else none)
def fX5_wantInBlock_J26 (p1n : Nat → Nat) (p1w : ST) (p2 : Int32) (p1_2n : Nat → Nat) (p1_2w : ST) (p0w_26 : ST) : Option (Int32 × ST) := (fX5_wantInBlock_J27 p1n p1w p2 p1_2n p1_2w 0 p0w_26)
def fX5_wantInBlock (p0w : ST) (p1n : Nat → Nat) (p1w : ST) (p2 : Int32) (p1_2n : Nat → Nat) (p1_2w : ST) : Option (Int32 × ST) := (if ixb p2 60 = true then (if (p1w 9 (nn p2)) < 0 then (fX5_wantInBlock_J26 p1n p1w p2 p1_2n p1_2w p0w) else (if ixb p2 60 = true then ((fX5_want p0w (p1w 9 (nn p2))).bind fun (o_53 : Int32 × ST) => (if (o_53.1) = 0 then (fX5_wantInBlock_J26 p1n p1w p2 p1_2n p1_2w (o_53.2)) else (fX5_wantInBlock_J27 p1n p1w p2 p1_2n p1_2w 1 (o_53.2)))) else none)) else none)
set_option maxHeartbeats 16000000 in
set_option maxRecDepth 100000 in
theorem kX5_wantInBlock {zs : Nat × Nat} (l : Launch) (dC : Nat → ClassId) (dI : Nat → Nat → Nat) (p0a : Nat → Nat) (p0k : Nat → ClassId) (p0w : ST) (p0l : SL) (p1a : Nat → Nat) (p1k : Nat → ClassId) (p1n : Nat → Nat) (p1w : ST) (p1l : SL) (p2 : Int32) (p1_2a : Nat → Nat) (p1_2k : Nat → ClassId) (p1_2n : Nat → Nat) (p1_2w : ST) (sz : Nat) (o : Int32 × ST) (hrun : fX5_wantInBlock p0w p1n p1w p2 p1_2n p1_2w = some o) : Met l yX5_wantInBlock (wz yX5_wantInBlock cX5_wantInBlock 7 (Option.some Jvm.ClassFile.FieldType.boolean)) ({ frames := 3, cells := 0, slots := 0, locals := 63 } : Room) (va_Pc [.ref (p0a 0), .ref (p1a 0), .int p2] (PRE zs dC dI ((oX5 (p0a 0) p0a p0k p0w p0l) ++ (oX1 (p1a 0) p1a p1k p1n p1w p1l) ++ (oX9 (p1a 3) p1_2a p1_2k p1_2n p1_2w)) ((tX5 p0k) ++ (tX1 p1k) ++ (tX9 p1_2k)) sz)) (va_Qi (fun (r : Int32) (_ : Unit) => r = (o.1)) (fun _ t => POST dC dI ((oX5 (p0a 0) p0a p0k (o.2) p0l) ++ (oX1 (p1a 0) p1a p1k p1n p1w p1l) ++ (oX9 (p1a 3) p1_2a p1_2k p1_2n p1_2w)) ((tX5 p0k) ++ (tX1 p1k) ++ (tX9 p1_2k)) (va_A ((oX5 (p0a 0) p0a p0k p0w p0l) ++ (oX1 (p1a 0) p1a p1k p1n p1w p1l) ++ (oX9 (p1a 3) p1_2a p1_2k p1_2n p1_2w)) sz) t) (va_A ((oX5 (p0a 0) p0a p0k p0w p0l) ++ (oX1 (p1a 0) p1a p1k p1n p1w p1l) ++ (oX9 (p1a 3) p1_2a p1_2k p1_2n p1_2w)) sz)) 0 0 (va_A ((oX5 (p0a 0) p0a p0k p0w p0l) ++ (oX1 (p1a 0) p1a p1k p1n p1w p1l) ++ (oX9 (p1a 3) p1_2a p1_2k p1_2n p1_2w)) sz) := by
  refine Met.ofW (cc := cX5_wantInBlock) (maxL := 7) (ret := (Option.some Jvm.ClassFile.FieldType.boolean)) (by decide) rfl ?_
  intro p e s m args below meth c s₁ B hml hv
  obtain ⟨rfl, hsz, hP, hK, hD0, hE⟩ := hv
  have hx := B.exec
  have hb := B.bytes
  have hr := B.returns
  have hts0 := atoms_spec (ws := wz yX5_wantInBlock cX5_wantInBlock 7 (Option.some Jvm.ClassFile.FieldType.boolean)) B.pre
  have hts : ∀ w ∈ gw, w.before _ s = true := fun w h => hts0 w (List.mem_cons_of_mem _ h)
  have hown : s.vm.findClass RX5 = some m.cls := findClass_of_methodNamed B.named
  have hlocks := B.notSynchronized
  subst hsz
  have hD := hD0.self (sz := s.heap.size)
  refine gQ9 ?_
  intro Q hQ
  generalize hAe : va_A ((oX5 (p0a 0) p0a p0k p0w p0l) ++ (oX1 (p1a 0) p1a p1k p1n p1w p1l) ++ (oX9 (p1a 3) p1_2a p1_2k p1_2n p1_2w)) s.heap.size = A at hD hE hQ
  have hA : ∀ q : Nat, s.heap.size ≤ q → A q := fun q h => by rw [← hAe]; exact Or.inr h
  have hS : va_S A s.heap s.heap [] := va_S.rf
  have hP : va_P (dC, dI) cls ((oX5 (p0a 0) p0a p0k p0w p0l) ++ (oX1 (p1a 0) p1a p1k p1n p1w p1l) ++ (oX9 (p1a 3) p1_2a p1_2k p1_2n p1_2w)) s.heap := hP
  have hl := lv_entry ([.ref (p0a 0), .ref (p1a 0), .int p2]) (n := 7) (Nat.le_of_ble_eq_true rfl)
  rw [lg_entry_eq]
  generalize (lg_sl ([.ref (p0a 0), .ref (p1a 0), .int p2]) ++ List.replicate (7 - (lg_sl ([.ref (p0a 0), .ref (p1a 0), .int p2])).length) Slot.unset).toArray = ls at hl ⊢
  have hl : lv_has ls 7 [(0, .ref (p0a 0)), (1, .ref (p1a 0)), (2, .int p2)] := hl
  obtain ⟨H, hHe⟩ : ∃ H, H = s.heap := ⟨_, rfl⟩
  obtain ⟨locs, hle⟩ : ∃ locs : List Loc, locs = [] := ⟨_, rfl⟩
  rw [← hHe] at hP
  have hS : va_S A s.heap H locs := by rw [hHe, hle]; exact hS
  show W p l e ({ frames := 3, cells := 0, slots := 0, locals := 63 } : Room) s m ([.ref (p0a 0), .ref (p1a 0), .int p2] : List Value).toArray below meth c s.heap [] 0 0 Q (F0 m 0 ls [])
  rw [← hle]
  refine wH9 hHe ?_
  unfold fX5_wantInBlock at hrun
  refine lv_aload_n hx hb dX5_wantInBlock_0 rfl (lv_at hl 1 rfl) ?_
  refine va_get (D := (dC, dI)) (ci := 4) (v := .ref (p1a 9)) (C := RX1) (T := TX1) (N := 21) hx hb hts i_X1 hown hK hP 10 rfl rfl 8 (by decide) (hts _ qw445) (fun _ h9 => h9) rfl dX5_wantInBlock_1 ?_
  refine lv_iload_n hx hb dX5_wantInBlock_4 rfl (lv_at hl 2 rfl) ?_
  obtain ⟨hq1, hrun⟩ := chk9 hrun
  refine va_iald hx hb hK hP 16 14 rfl rfl (ixb_in hq1) dX5_wantInBlock_5 ?_
  have J27 : ∀ (y0_27 : Int32) (p0w_27 : ST) (H : Heap) (locs : List Loc) (ls : Array Slot), (fX5_wantInBlock_J27 p1n p1w p2 p1_2n p1_2w y0_27 p0w_27) = some o → va_P (dC, dI) cls ((oX5 (p0a 0) p0a p0k p0w_27 p0l) ++ (oX1 (p1a 0) p1a p1k p1n p1w p1l) ++ (oX9 (p1a 3) p1_2a p1_2k p1_2n p1_2w)) H → va_D A ((oX5 (p0a 0) p0a p0k p0w_27 p0l) ++ (oX1 (p1a 0) p1a p1k p1n p1w p1l) ++ (oX9 (p1a 3) p1_2a p1_2k p1_2n p1_2w)) → va_K (dC, dI) cls ((tX5 p0k) ++ (tX1 p1k) ++ (tX9 p1_2k)) s → va_S A s.heap H locs → lv_has ls 7 [(0, .ref (p0a 0)), (1, .ref (p1a 0)), (2, .int p2)] → W p l e ({ frames := 3, cells := 0, slots := 0, locals := 63 } : Room) s m ([.ref (p0a 0), .ref (p1a 0), .int p2] : List Value).toArray below meth c H locs 0 0 Q (F0 m 27 ls [.int y0_27]) := by
    intro y0_27 p0w_27 H locs ls hrun hP hD hK hS hl 
    unfold fX5_wantInBlock_J27 at hrun
    refine lv_istore_n (lv' := [(3, .int y0_27), (0, .ref (p0a 0)), (1, .ref (p1a 0)), (2, .int p2)]) hx hb dX5_wantInBlock_27 rfl hl (by decide) rfl (fun ls hl => ?_)
    refine lv_aload_n hx hb dX5_wantInBlock_28 rfl (lv_at hl 2 rfl) ?_
    refine va_get (D := (dC, dI)) (ci := 4) (v := .ref (p1a 3)) (C := RX1) (T := TX1) (N := 21) hx hb hts i_X1 hown hK hP 10 rfl rfl 2 (by decide) (hts _ qw435) (fun _ h9 => h9) rfl dX5_wantInBlock_29 ?_
    refine lv_astore (lv' := [(4, .ref (p1a 3)), (3, .int y0_27), (0, .ref (p0a 0)), (1, .ref (p1a 0)), (2, .int p2)]) hx hb dX5_wantInBlock_32 hl (by decide) rfl (fun ls hl => ?_)
    refine lv_aload_n hx hb dX5_wantInBlock_34 rfl (lv_at hl 3 rfl) ?_
    refine va_get (D := (dC, dI)) (ci := 4) (v := .ref (p1a 4)) (C := RX1) (T := TX1) (N := 21) hx hb hts i_X1 hown hK hP 10 rfl rfl 3 (by decide) (hts _ qw434) (fun _ h9 => h9) rfl dX5_wantInBlock_35 ?_
    refine lv_iload_n hx hb dX5_wantInBlock_38 rfl (lv_at hl 4 rfl) ?_
    obtain ⟨hq2, hrun⟩ := chk9 hrun
    refine va_iald hx hb hK hP 11 9 rfl rfl (ixb_in hq2) dX5_wantInBlock_39 ?_
    refine lv_istore (lv' := [(5, .int (p1w 4 (nn p2))), (4, .ref (p1a 3)), (3, .int y0_27), (0, .ref (p0a 0)), (1, .ref (p1a 0)), (2, .int p2)]) hx hb dX5_wantInBlock_40 hl (by decide) rfl (fun ls hl => ?_)
    have L42 : ∀ (n_42 : Nat) (v3_42 : Int32) (v5_42 : Int32) (p0w_42 : ST) (o42 : Int32 × ST) (H : Heap) (locs : List Loc) (ls : Array Slot), (fX5_wantInBlock_L42 p1_2n p1_2w n_42) v3_42 v5_42 p0w_42 = some o42 → va_P (dC, dI) cls ((oX5 (p0a 0) p0a p0k p0w_42 p0l) ++ (oX1 (p1a 0) p1a p1k p1n p1w p1l) ++ (oX9 (p1a 3) p1_2a p1_2k p1_2n p1_2w)) H → va_D A ((oX5 (p0a 0) p0a p0k p0w_42 p0l) ++ (oX1 (p1a 0) p1a p1k p1n p1w p1l) ++ (oX9 (p1a 3) p1_2a p1_2k p1_2n p1_2w)) → va_K (dC, dI) cls ((tX5 p0k) ++ (tX1 p1k) ++ (tX9 p1_2k)) s → va_S A s.heap H locs → lv_has ls 7 [(0, .ref (p0a 0)), (1, .ref (p1a 0)), (2, .int p2), (3, .int v3_42), (4, .ref (p1a 3)), (5, .int v5_42)] → (∀ (H : Heap) (locs : List Loc) (ls : Array Slot), va_P (dC, dI) cls ((oX5 (p0a 0) p0a p0k (o42.2) p0l) ++ (oX1 (p1a 0) p1a p1k p1n p1w p1l) ++ (oX9 (p1a 3) p1_2a p1_2k p1_2n p1_2w)) H → va_D A ((oX5 (p0a 0) p0a p0k (o42.2) p0l) ++ (oX1 (p1a 0) p1a p1k p1n p1w p1l) ++ (oX9 (p1a 3) p1_2a p1_2k p1_2n p1_2w)) → va_K (dC, dI) cls ((tX5 p0k) ++ (tX1 p1k) ++ (tX9 p1_2k)) s → va_S A s.heap H locs → lv_has ls 7 [(0, .ref (p0a 0)), (1, .ref (p1a 0)), (2, .int p2), (3, .int (o42.1))] → W p l e ({ frames := 3, cells := 0, slots := 0, locals := 63 } : Room) s m ([.ref (p0a 0), .ref (p1a 0), .int p2] : List Value).toArray below meth c H locs 0 0 Q (F0 m 209 ls [])) → W p l e ({ frames := 3, cells := 0, slots := 0, locals := 63 } : Room) s m ([.ref (p0a 0), .ref (p1a 0), .int p2] : List Value).toArray below meth c H locs 0 0 Q (F0 m 42 ls []) := by
      intro n_42
      induction n_42 with
      | zero => intro v3_42 v5_42 p0w_42 o42 H locs ls hrun; exact (no9 rfl hrun).elim
      | succ n_42 IH42 =>
        intro v3_42 v5_42 p0w_42 o42 H locs ls hrun hP hD hK hS hl hk42
        unfold fX5_wantInBlock_L42 at hrun
        refine lv_iload hx hb dX5_wantInBlock_42 (lv_at hl 5 rfl) ?_
        rcases br9 hrun with ⟨hc3, hrun⟩ | ⟨hc3, hrun⟩
        · refine lv_if_lt (tgt := 209) hx hb dX5_wantInBlock_44 (by decide) (fun _ => ?_) (fun c => absurd hc3 c)
          obtain rfl := (Option.some.inj hrun)
          exact hk42 _ _ _ hP hD hK hS (lv_sub hl [0, 1, 2, 3] rfl)
        · refine lv_if_lt (tgt := 209) hx hb dX5_wantInBlock_44 (by decide) (fun c => absurd c hc3) (fun _ => ?_)
          refine lv_aload hx hb dX5_wantInBlock_47 (lv_at hl 4 rfl) ?_
          refine va_get (D := (dC, dI)) (ci := 3) (v := .ref (p1_2a 2)) (C := RX9) (T := TX9) (N := 6) hx hb hts i_X9 hown hK hP 28 rfl rfl 1 (by decide) (hts _ qw420) (fun _ h9 => h9) rfl dX5_wantInBlock_49 ?_
          refine lv_iload hx hb dX5_wantInBlock_52 (lv_at hl 5 rfl) ?_
          obtain ⟨hq4, hrun⟩ := chk9 hrun
          refine va_iald hx hb hK hP 29 26 rfl rfl (ixb_in hq4) dX5_wantInBlock_54 ?_
          refine lv_istore (lv' := [(6, .int (p1_2w 2 (nn v5_42))), (0, .ref (p0a 0)), (1, .ref (p1a 0)), (2, .int p2), (3, .int v3_42), (4, .ref (p1a 3)), (5, .int v5_42)]) hx hb dX5_wantInBlock_55 hl (by decide) rfl (fun ls hl => ?_)
          refine lv_iload hx hb dX5_wantInBlock_57 (lv_at hl 0 rfl) ?_
          refine lv_bipush (v := 18) hx hb dX5_wantInBlock_59 (by decide) ?_
          have J102 : ∀ (v3_102 : Int32) (p0w_102 : ST) (H : Heap) (locs : List Loc) (ls : Array Slot), (fX5_wantInBlock_J102 (fX5_wantInBlock_L42 p1_2n p1_2w n_42) p1_2n p1_2w v5_42 v3_102 p0w_102) = some o42 → va_P (dC, dI) cls ((oX5 (p0a 0) p0a p0k p0w_102 p0l) ++ (oX1 (p1a 0) p1a p1k p1n p1w p1l) ++ (oX9 (p1a 3) p1_2a p1_2k p1_2n p1_2w)) H → va_D A ((oX5 (p0a 0) p0a p0k p0w_102 p0l) ++ (oX1 (p1a 0) p1a p1k p1n p1w p1l) ++ (oX9 (p1a 3) p1_2a p1_2k p1_2n p1_2w)) → va_K (dC, dI) cls ((tX5 p0k) ++ (tX1 p1k) ++ (tX9 p1_2k)) s → va_S A s.heap H locs → lv_has ls 7 [(0, .ref (p0a 0)), (1, .ref (p1a 0)), (2, .int p2), (3, .int v3_102), (4, .ref (p1a 3)), (5, .int v5_42)] → W p l e ({ frames := 3, cells := 0, slots := 0, locals := 63 } : Room) s m ([.ref (p0a 0), .ref (p1a 0), .int p2] : List Value).toArray below meth c H locs 0 0 Q (F0 m 102 ls []) := by
            intro v3_102 p0w_102 H locs ls hrun hP hD hK hS hl 
            unfold fX5_wantInBlock_J102 at hrun
            refine lv_aload hx hb dX5_wantInBlock_102 (lv_at hl 4 rfl) ?_
            refine va_get (D := (dC, dI)) (ci := 3) (v := .ref (p1_2a 3)) (C := RX9) (T := TX9) (N := 6) hx hb hts i_X9 hown hK hP 28 rfl rfl 2 (by decide) (hts _ qw436) (fun _ h9 => h9) rfl dX5_wantInBlock_104 ?_
            refine lv_iload hx hb dX5_wantInBlock_107 (lv_at hl 5 rfl) ?_
            obtain ⟨hq5, hrun⟩ := chk9 hrun
            refine va_iald hx hb hK hP 30 27 rfl rfl (ixb_in hq5) dX5_wantInBlock_109 ?_
            have J148 : ∀ (v3_148 : Int32) (p0w_148 : ST) (H : Heap) (locs : List Loc) (ls : Array Slot), (fX5_wantInBlock_J148 (fX5_wantInBlock_L42 p1_2n p1_2w n_42) p1_2n p1_2w v5_42 v3_148 p0w_148) = some o42 → va_P (dC, dI) cls ((oX5 (p0a 0) p0a p0k p0w_148 p0l) ++ (oX1 (p1a 0) p1a p1k p1n p1w p1l) ++ (oX9 (p1a 3) p1_2a p1_2k p1_2n p1_2w)) H → va_D A ((oX5 (p0a 0) p0a p0k p0w_148 p0l) ++ (oX1 (p1a 0) p1a p1k p1n p1w p1l) ++ (oX9 (p1a 3) p1_2a p1_2k p1_2n p1_2w)) → va_K (dC, dI) cls ((tX5 p0k) ++ (tX1 p1k) ++ (tX9 p1_2k)) s → va_S A s.heap H locs → lv_has ls 7 [(0, .ref (p0a 0)), (1, .ref (p1a 0)), (2, .int p2), (3, .int v3_148), (4, .ref (p1a 3)), (5, .int v5_42)] → W p l e ({ frames := 3, cells := 0, slots := 0, locals := 63 } : Room) s m ([.ref (p0a 0), .ref (p1a 0), .int p2] : List Value).toArray below meth c H locs 0 0 Q (F0 m 148 ls []) := by
              intro v3_148 p0w_148 H locs ls hrun hP hD hK hS hl 
              unfold fX5_wantInBlock_J148 at hrun
              refine lv_aload hx hb dX5_wantInBlock_148 (lv_at hl 4 rfl) ?_
              refine va_get (D := (dC, dI)) (ci := 3) (v := .ref (p1_2a 3)) (C := RX9) (T := TX9) (N := 6) hx hb hts i_X9 hown hK hP 28 rfl rfl 2 (by decide) (hts _ qw436) (fun _ h9 => h9) rfl dX5_wantInBlock_150 ?_
              refine lv_iload hx hb dX5_wantInBlock_153 (lv_at hl 5 rfl) ?_
              obtain ⟨hq6, hrun⟩ := chk9 hrun
              refine va_iald hx hb hK hP 30 27 rfl rfl (ixb_in hq6) dX5_wantInBlock_155 ?_
              have J196 : ∀ (v3_196 : Int32) (p0w_196 : ST) (H : Heap) (locs : List Loc) (ls : Array Slot), (fX5_wantInBlock_J196 (fX5_wantInBlock_L42 p1_2n p1_2w n_42) p1_2n p1_2w v5_42 v3_196 p0w_196) = some o42 → va_P (dC, dI) cls ((oX5 (p0a 0) p0a p0k p0w_196 p0l) ++ (oX1 (p1a 0) p1a p1k p1n p1w p1l) ++ (oX9 (p1a 3) p1_2a p1_2k p1_2n p1_2w)) H → va_D A ((oX5 (p0a 0) p0a p0k p0w_196 p0l) ++ (oX1 (p1a 0) p1a p1k p1n p1w p1l) ++ (oX9 (p1a 3) p1_2a p1_2k p1_2n p1_2w)) → va_K (dC, dI) cls ((tX5 p0k) ++ (tX1 p1k) ++ (tX9 p1_2k)) s → va_S A s.heap H locs → lv_has ls 7 [(0, .ref (p0a 0)), (1, .ref (p1a 0)), (2, .int p2), (3, .int v3_196), (4, .ref (p1a 3)), (5, .int v5_42)] → W p l e ({ frames := 3, cells := 0, slots := 0, locals := 63 } : Room) s m ([.ref (p0a 0), .ref (p1a 0), .int p2] : List Value).toArray below meth c H locs 0 0 Q (F0 m 196 ls []) := by
                intro v3_196 p0w_196 H locs ls hrun hP hD hK hS hl 
                unfold fX5_wantInBlock_J196 at hrun
                refine lv_aload hx hb dX5_wantInBlock_196 (lv_at hl 4 rfl) ?_
                refine va_get (D := (dC, dI)) (ci := 3) (v := .ref (p1_2a 6)) (C := RX9) (T := TX9) (N := 6) hx hb hts i_X9 hown hK hP 28 rfl rfl 5 (by decide) (hts _ qw437) (fun _ h9 => h9) rfl dX5_wantInBlock_198 ?_
                refine lv_iload hx hb dX5_wantInBlock_201 (lv_at hl 5 rfl) ?_
                obtain ⟨hq7, hrun⟩ := chk9 hrun
                refine va_iald hx hb hK hP 33 30 rfl rfl (ixb_in hq7) dX5_wantInBlock_203 ?_
                refine lv_istore (lv' := [(5, .int (p1_2w 6 (nn v5_42))), (0, .ref (p0a 0)), (1, .ref (p1a 0)), (2, .int p2), (3, .int v3_196), (4, .ref (p1a 3))]) hx hb dX5_wantInBlock_204 hl (by decide) rfl (fun ls hl => ?_)
                refine lv_goto (tgt := 42) hx hb dX5_wantInBlock_206 (by decide) ?_
                exact IH42 v3_196 (p1_2w 6 (nn v5_42)) p0w_196 o42 _ _ _ hrun hP hD hK hS (lv_sub hl [1, 2, 3, 4, 5, 0] rfl) hk42
              rcases br9 hrun with ⟨hc8, hrun⟩ | ⟨hc8, hrun⟩
              · refine lv_if_lt (tgt := 196) hx hb dX5_wantInBlock_156 (by decide) (fun _ => ?_) (fun c => absurd hc8 c)
                exact J196 v3_148 p0w_148 _ _ _ hrun hP hD hK hS (lv_sub hl [0, 1, 2, 3, 4, 5] rfl)
              · refine lv_if_lt (tgt := 196) hx hb dX5_wantInBlock_156 (by decide) (fun c => absurd c hc8) (fun _ => ?_)
                refine lv_aload_n hx hb dX5_wantInBlock_159 rfl (lv_at hl 0 rfl) ?_
                refine va_get (D := (dC, dI)) (ci := 7) (v := .ref (p0a 7)) (C := RX5) (T := TX5) (N := 12) hx hb hts i_X5 hown hK hP 0 rfl rfl 6 (by decide) (hts _ qw443) (fun _ h9 => h9) rfl dX5_wantInBlock_160 ?_
                refine lv_aload hx hb dX5_wantInBlock_163 (lv_at hl 4 rfl) ?_
                refine va_get (D := (dC, dI)) (ci := 3) (v := .ref (p1_2a 3)) (C := RX9) (T := TX9) (N := 6) hx hb hts i_X9 hown hK hP 28 rfl rfl 2 (by decide) (hts _ qw436) (fun _ h9 => h9) rfl dX5_wantInBlock_165 ?_
                refine lv_iload hx hb dX5_wantInBlock_168 (lv_at hl 5 rfl) ?_
                obtain ⟨hq9, hrun⟩ := chk9 hrun
                refine va_iald hx hb hK hP 30 27 rfl rfl (ixb_in hq9) dX5_wantInBlock_170 ?_
                obtain ⟨hq10, hrun⟩ := chk9 hrun
                refine va_iald hx hb hK hP 6 5 rfl rfl (ixb_in hq10) dX5_wantInBlock_171 ?_
                rcases br9 hrun with ⟨hc11, hrun⟩ | ⟨hc11, hrun⟩
                · refine lv_if_ne (tgt := 196) hx hb dX5_wantInBlock_172 (by decide) (fun c => absurd hc11 c) (fun _ => ?_)
                  refine lv_aload_n hx hb dX5_wantInBlock_175 rfl (lv_at hl 0 rfl) ?_
                  refine lv_aload hx hb dX5_wantInBlock_176 (lv_at hl 4 rfl) ?_
                  refine lv_iload hx hb dX5_wantInBlock_178 (lv_at hl 5 rfl) ?_
                  obtain ⟨o_12, hc_12, hrun⟩ := bnd9 hrun
                  have hPc := hP.sub (ws' := ((oX5 (p0a 0) p0a p0k p0w_148 p0l) ++ (oX9 (p1a 3) p1_2a p1_2k p1_2n p1_2w))) [0, 1, 2, 3, 4, 5, 6, 7, 8, 9, 28, 29, 30, 31, 32, 33] rfl
                  have hDc := hD.sub (ws' := ((oX5 (p0a 0) p0a p0k p0w_148 p0l) ++ (oX9 (p1a 3) p1_2a p1_2k p1_2n p1_2w))) [0, 1, 2, 3, 4, 5, 6, 7, 8, 9, 28, 29, 30, 31, 32, 33] (by decide) rfl
                  have hKc := hK.sub (tys' := ((tX5 p0k) ++ (tX9 p1_2k))) [0, 1, 2, 3, 4, 5, 6, 7, 8, 26, 27, 28, 29, 30] rfl
                  have hFc := va_free (wc := ((oX5 (p0a 0) p0a p0k p0w_148 p0l) ++ (oX9 (p1a 3) p1_2a p1_2k p1_2n p1_2w))) hD hS hA [0, 1, 2, 3, 4, 5, 6, 7, 8, 9, 28, 29, 30, 31, 32, 33] rfl
                  refine va_calli (va_runV (As := [.ref (p1a 3), .int v5_42]) (rest := []) ⟨hx, hb, hml, hown, hts⟩ (kX5_wantUsed l dC dI (p0a := (st0 (p0a 0) p0a)) (p0k := p0k) (p0w := p0w_148) (p0l := p0l) (p1a := (st0 (p1a 3) p1_2a)) (p1k := p1_2k) (p1n := p1_2n) (p1w := p1_2w) (p2 := v5_42) (sz := _) (o := o_12) (hrun := hc_12)) (cwV 2 hts (gi_V qw453 qw454 qw455 qw442 (gi_z qw452)) rfl rfl rfl (by decide +kernel) ⟨Nat.le_of_ble_eq_true rfl, Nat.le_of_ble_eq_true rfl⟩) ⟨PRE.blind, va_recv hKc hPc (ci := 7) (q0 := 0) rfl rfl, PRE.of hE hS hFc hPc hKc hDc⟩ rfl rfl hl.1 rfl (lv_room (Nat.le_of_ble_eq_true rfl)) dX5_wantInBlock_180 ⟨(Nat.le_of_ble_eq_true rfl), (Nat.le_of_ble_eq_true rfl)⟩) hS (fun q _ h => hFc q h) hFc (fun r13 u t H locs ht hvm hw hB hz1 hk1 hS => ?_)
                  obtain ⟨hP, hD, hK⟩ := JOIN (wr := (oX1 (p1a 0) p1a p1k p1n p1w p1l)) hP hD hK [0, 1, 2, 3, 4, 5, 6, 7, 8, 9, 28, 29, 30, 31, 32, 33] [10, 11, 12, 13, 14, 15, 16, 17, 18, 19, 20, 21, 22, 23, 24, 25, 26, 27] [9, 10, 11, 12, 13, 14, 15, 16, 17, 18, 19, 20, 21, 22, 23, 24, 25] rfl rfl (by decide) (by decide) rfl hk1 hFc ht hvm hB
                  have hP : va_P (dC, dI) cls ((oX5 (p0a 0) p0a p0k (o_12.2) p0l) ++ (oX1 (p1a 0) p1a p1k p1n p1w p1l) ++ (oX9 (p1a 3) p1_2a p1_2k p1_2n p1_2w)) H := hP.sub [18, 19, 20, 21, 22, 23, 24, 25, 26, 27, 0, 1, 2, 3, 4, 5, 6, 7, 8, 9, 10, 11, 12, 13, 14, 15, 16, 17, 28, 29, 30, 31, 32, 33] rfl
                  have hD : va_D A ((oX5 (p0a 0) p0a p0k (o_12.2) p0l) ++ (oX1 (p1a 0) p1a p1k p1n p1w p1l) ++ (oX9 (p1a 3) p1_2a p1_2k p1_2n p1_2w)) := hD.sub [18, 19, 20, 21, 22, 23, 24, 25, 26, 27, 0, 1, 2, 3, 4, 5, 6, 7, 8, 9, 10, 11, 12, 13, 14, 15, 16, 17, 28, 29, 30, 31, 32, 33] (by decide) rfl
                  have hK : va_K (dC, dI) cls ((tX5 p0k) ++ (tX1 p1k) ++ (tX9 p1_2k)) s := hK.sub [17, 18, 19, 20, 21, 22, 23, 24, 25, 0, 1, 2, 3, 4, 5, 6, 7, 8, 9, 10, 11, 12, 13, 14, 15, 16, 26, 27, 28, 29, 30] rfl
                  obtain rfl : r13 = (o_12.1) := hw
                  have J195 : ∀ (y0_195 : Int32) (H : Heap) (locs : List Loc) (ls : Array Slot), (fX5_wantInBlock_J195 (fX5_wantInBlock_L42 p1_2n p1_2w n_42) p1_2n p1_2w v5_42 o_12 y0_195) = some o42 → va_P (dC, dI) cls ((oX5 (p0a 0) p0a p0k (o_12.2) p0l) ++ (oX1 (p1a 0) p1a p1k p1n p1w p1l) ++ (oX9 (p1a 3) p1_2a p1_2k p1_2n p1_2w)) H → va_D A ((oX5 (p0a 0) p0a p0k (o_12.2) p0l) ++ (oX1 (p1a 0) p1a p1k p1n p1w p1l) ++ (oX9 (p1a 3) p1_2a p1_2k p1_2n p1_2w)) → va_K (dC, dI) cls ((tX5 p0k) ++ (tX1 p1k) ++ (tX9 p1_2k)) s → va_S A s.heap H locs → lv_has ls 7 [(0, .ref (p0a 0)), (1, .ref (p1a 0)), (2, .int p2), (4, .ref (p1a 3)), (5, .int v5_42)] → W p l e ({ frames := 3, cells := 0, slots := 0, locals := 63 } : Room) s m ([.ref (p0a 0), .ref (p1a 0), .int p2] : List Value).toArray below meth c H locs 0 0 Q (F0 m 195 ls [.int y0_195]) := by
                    intro y0_195 H locs ls hrun hP hD hK hS hl 
                    unfold fX5_wantInBlock_J195 at hrun
                    refine lv_istore_n (lv' := [(3, .int y0_195), (0, .ref (p0a 0)), (1, .ref (p1a 0)), (2, .int p2), (4, .ref (p1a 3)), (5, .int v5_42)]) hx hb dX5_wantInBlock_195 rfl hl (by decide) rfl (fun ls hl => ?_)
                    exact J196 y0_195 (o_12.2) _ _ _ hrun hP hD hK hS (lv_sub hl [1, 2, 3, 0, 4, 5] rfl)
                  have J190 : ∀ (H : Heap) (locs : List Loc) (ls : Array Slot), (fX5_wantInBlock_J190 (fX5_wantInBlock_L42 p1_2n p1_2w n_42) p1_2n p1_2w v5_42 o_12) = some o42 → va_P (dC, dI) cls ((oX5 (p0a 0) p0a p0k (o_12.2) p0l) ++ (oX1 (p1a 0) p1a p1k p1n p1w p1l) ++ (oX9 (p1a 3) p1_2a p1_2k p1_2n p1_2w)) H → va_D A ((oX5 (p0a 0) p0a p0k (o_12.2) p0l) ++ (oX1 (p1a 0) p1a p1k p1n p1w p1l) ++ (oX9 (p1a 3) p1_2a p1_2k p1_2n p1_2w)) → va_K (dC, dI) cls ((tX5 p0k) ++ (tX1 p1k) ++ (tX9 p1_2k)) s → va_S A s.heap H locs → lv_has ls 7 [(0, .ref (p0a 0)), (1, .ref (p1a 0)), (2, .int p2), (4, .ref (p1a 3)), (5, .int v5_42)] → W p l e ({ frames := 3, cells := 0, slots := 0, locals := 63 } : Room) s m ([.ref (p0a 0), .ref (p1a 0), .int p2] : List Value).toArray below meth c H locs 0 0 Q (F0 m 190 ls []) := by
                    intro  H locs ls hrun hP hD hK hS hl 
                    unfold fX5_wantInBlock_J190 at hrun
                    refine lv_iconst (v := 1) hx hb dX5_wantInBlock_190 (by decide) ?_
                    refine lv_goto (tgt := 195) hx hb dX5_wantInBlock_191 (by decide) ?_
                    exact J195 1 _ _ _ hrun hP hD hK hS (lv_sub hl [0, 1, 2, 3, 4] rfl)
                  rcases br9 hrun with ⟨hc14, hrun⟩ | ⟨hc14, hrun⟩
                  · refine lv_if_ne (tgt := 190) hx hb dX5_wantInBlock_183 (by decide) (fun c => absurd hc14 c) (fun _ => ?_)
                    refine lv_iload_n hx hb dX5_wantInBlock_186 rfl (lv_at hl 3 rfl) ?_
                    rcases br9 hrun with ⟨hc15, hrun⟩ | ⟨hc15, hrun⟩
                    · refine lv_if_eq (tgt := 194) hx hb dX5_wantInBlock_187 (by decide) (fun _ => ?_) (fun c => absurd hc15 c)
                      refine lv_iconst (v := 0) hx hb dX5_wantInBlock_194 (by decide) ?_
                      exact J195 0 _ _ _ hrun hP hD hK hS (lv_sub hl [0, 1, 2, 4, 5] rfl)
                    · refine lv_if_eq (tgt := 194) hx hb dX5_wantInBlock_187 (by decide) (fun c => absurd c hc15) (fun _ => ?_)
                      exact J190 _ _ _ hrun hP hD hK hS (lv_sub hl [0, 1, 2, 4, 5] rfl)
                  · refine lv_if_ne (tgt := 190) hx hb dX5_wantInBlock_183 (by decide) (fun _ => ?_) (fun c => absurd c hc14)
                    exact J190 _ _ _ hrun hP hD hK hS (lv_sub hl [0, 1, 2, 4, 5] rfl)
                · refine lv_if_ne (tgt := 196) hx hb dX5_wantInBlock_172 (by decide) (fun _ => ?_) (fun c => absurd c hc11)
                  exact J196 v3_148 p0w_148 _ _ _ hrun hP hD hK hS (lv_sub hl [0, 1, 2, 3, 4, 5] rfl)
            rcases br9 hrun with ⟨hc16, hrun⟩ | ⟨hc16, hrun⟩
            · refine lv_if_lt (tgt := 148) hx hb dX5_wantInBlock_110 (by decide) (fun _ => ?_) (fun c => absurd hc16 c)
              exact J148 v3_102 p0w_102 _ _ _ hrun hP hD hK hS (lv_sub hl [0, 1, 2, 3, 4, 5] rfl)
            · refine lv_if_lt (tgt := 148) hx hb dX5_wantInBlock_110 (by decide) (fun c => absurd c hc16) (fun _ => ?_)
              refine lv_aload_n hx hb dX5_wantInBlock_113 rfl (lv_at hl 0 rfl) ?_
              refine lv_aload_n hx hb dX5_wantInBlock_114 rfl (lv_at hl 1 rfl) ?_
              refine lv_iload hx hb dX5_wantInBlock_115 (lv_at hl 5 rfl) ?_
              obtain ⟨o_17, hc_17, hrun⟩ := bnd9 hrun
              have hPc := hP.sub (ws' := ((oX5 (p0a 0) p0a p0k p0w_102 p0l) ++ (oX1 (p1a 0) p1a p1k p1n p1w p1l) ++ (oX9 (p1a 3) p1_2a p1_2k p1_2n p1_2w))) [0, 1, 2, 3, 4, 5, 6, 7, 8, 9, 10, 11, 12, 13, 14, 15, 16, 17, 18, 19, 20, 21, 22, 23, 24, 25, 26, 27, 28, 29, 30, 31, 32, 33] rfl
              have hDc := hD.sub (ws' := ((oX5 (p0a 0) p0a p0k p0w_102 p0l) ++ (oX1 (p1a 0) p1a p1k p1n p1w p1l) ++ (oX9 (p1a 3) p1_2a p1_2k p1_2n p1_2w))) [0, 1, 2, 3, 4, 5, 6, 7, 8, 9, 10, 11, 12, 13, 14, 15, 16, 17, 18, 19, 20, 21, 22, 23, 24, 25, 26, 27, 28, 29, 30, 31, 32, 33] (by decide) rfl
              have hKc := hK.sub (tys' := ((tX5 p0k) ++ (tX1 p1k) ++ (tX9 p1_2k))) [0, 1, 2, 3, 4, 5, 6, 7, 8, 9, 10, 11, 12, 13, 14, 15, 16, 17, 18, 19, 20, 21, 22, 23, 24, 25, 26, 27, 28, 29, 30] rfl
              have hFc := va_free (wc := ((oX5 (p0a 0) p0a p0k p0w_102 p0l) ++ (oX1 (p1a 0) p1a p1k p1n p1w p1l) ++ (oX9 (p1a 3) p1_2a p1_2k p1_2n p1_2w))) hD hS hA [0, 1, 2, 3, 4, 5, 6, 7, 8, 9, 10, 11, 12, 13, 14, 15, 16, 17, 18, 19, 20, 21, 22, 23, 24, 25, 26, 27, 28, 29, 30, 31, 32, 33] rfl
              refine va_calli (va_runV (As := [.ref (p1a 0), .int v5_42]) (rest := []) ⟨hx, hb, hml, hown, hts⟩ (kX5_mayFail l dC dI (p0a := (st0 (p0a 0) p0a)) (p0k := p0k) (p0w := p0w_102) (p0l := p0l) (p1a := (st0 (p1a 0) p1a)) (p1k := p1k) (p1n := p1n) (p1w := p1w) (p1l := p1l) (p2 := v5_42) (p1_2a := p1_2a) (p1_2k := p1_2k) (p1_2n := p1_2n) (p1_2w := p1_2w) (sz := _) (o := o_17) (hrun := hc_17)) (cwV 2 hts (gi_V qw465 qw466 qw467 qw442 (gi_z qw464)) rfl rfl rfl (by decide +kernel) ⟨Nat.le_of_ble_eq_true rfl, Nat.le_of_ble_eq_true rfl⟩) ⟨PRE.blind, va_recv hKc hPc (ci := 7) (q0 := 0) rfl rfl, PRE.of hE hS hFc hPc hKc hDc⟩ rfl rfl hl.1 rfl (lv_room (Nat.le_of_ble_eq_true rfl)) dX5_wantInBlock_117 ⟨(Nat.le_of_ble_eq_true rfl), (Nat.le_of_ble_eq_true rfl)⟩) hS (fun q _ h => hFc q h) hFc (fun r18 u t H locs ht hvm hw hB hz1 hk1 hS => ?_)
              obtain ⟨hP, hD, hK⟩ := JOIN (wr := ([] : va_W)) hP hD hK [0, 1, 2, 3, 4, 5, 6, 7, 8, 9, 10, 11, 12, 13, 14, 15, 16, 17, 18, 19, 20, 21, 22, 23, 24, 25, 26, 27, 28, 29, 30, 31, 32, 33] [] [] rfl rfl (by decide) (by decide) rfl hk1 hFc ht hvm hB
              have hP : va_P (dC, dI) cls ((oX5 (p0a 0) p0a p0k p0w_102 p0l) ++ (oX1 (p1a 0) p1a p1k p1n p1w p1l) ++ (oX9 (p1a 3) p1_2a p1_2k p1_2n p1_2w)) H := hP.sub [0, 1, 2, 3, 4, 5, 6, 7, 8, 9, 10, 11, 12, 13, 14, 15, 16, 17, 18, 19, 20, 21, 22, 23, 24, 25, 26, 27, 28, 29, 30, 31, 32, 33] rfl
              have hD : va_D A ((oX5 (p0a 0) p0a p0k p0w_102 p0l) ++ (oX1 (p1a 0) p1a p1k p1n p1w p1l) ++ (oX9 (p1a 3) p1_2a p1_2k p1_2n p1_2w)) := hD.sub [0, 1, 2, 3, 4, 5, 6, 7, 8, 9, 10, 11, 12, 13, 14, 15, 16, 17, 18, 19, 20, 21, 22, 23, 24, 25, 26, 27, 28, 29, 30, 31, 32, 33] (by decide) rfl
              have hK : va_K (dC, dI) cls ((tX5 p0k) ++ (tX1 p1k) ++ (tX9 p1_2k)) s := hK.sub [0, 1, 2, 3, 4, 5, 6, 7, 8, 9, 10, 11, 12, 13, 14, 15, 16, 17, 18, 19, 20, 21, 22, 23, 24, 25, 26, 27, 28, 29, 30] rfl
              obtain rfl : o_17 = r18 := hw.symm
              rcases br9 hrun with ⟨hc19, hrun⟩ | ⟨hc19, hrun⟩
              · refine lv_if_eq (tgt := 148) hx hb dX5_wantInBlock_120 (by decide) (fun _ => ?_) (fun c => absurd hc19 c)
                exact J148 v3_102 p0w_102 _ _ _ hrun hP hD hK hS (lv_sub hl [0, 1, 2, 3, 4, 5] rfl)
              · refine lv_if_eq (tgt := 148) hx hb dX5_wantInBlock_120 (by decide) (fun c => absurd c hc19) (fun _ => ?_)
                refine lv_aload_n hx hb dX5_wantInBlock_123 rfl (lv_at hl 0 rfl) ?_
                refine lv_aload hx hb dX5_wantInBlock_124 (lv_at hl 4 rfl) ?_
                refine va_get (D := (dC, dI)) (ci := 3) (v := .ref (p1_2a 3)) (C := RX9) (T := TX9) (N := 6) hx hb hts i_X9 hown hK hP 28 rfl rfl 2 (by decide) (hts _ qw436) (fun _ h9 => h9) rfl dX5_wantInBlock_126 ?_
                refine lv_iload hx hb dX5_wantInBlock_129 (lv_at hl 5 rfl) ?_
                obtain ⟨hq20, hrun⟩ := chk9 hrun
                refine va_iald hx hb hK hP 30 27 rfl rfl (ixb_in hq20) dX5_wantInBlock_131 ?_
                obtain ⟨o_21, hc_21, hrun⟩ := bnd9 hrun
                have hPc := hP.sub (ws' := (oX5 (p0a 0) p0a p0k p0w_102 p0l)) [0, 1, 2, 3, 4, 5, 6, 7, 8, 9] rfl
                have hDc := hD.sub (ws' := (oX5 (p0a 0) p0a p0k p0w_102 p0l)) [0, 1, 2, 3, 4, 5, 6, 7, 8, 9] (by decide) rfl
                have hKc := hK.sub (tys' := (tX5 p0k)) [0, 1, 2, 3, 4, 5, 6, 7, 8] rfl
                have hFc := va_free (wc := (oX5 (p0a 0) p0a p0k p0w_102 p0l)) hD hS hA [0, 1, 2, 3, 4, 5, 6, 7, 8, 9] rfl
                refine va_calli (va_runV (As := [.int (p1_2w 3 (nn v5_42))]) (rest := []) ⟨hx, hb, hml, hown, hts⟩ (kX5_want l dC dI (p0a := (st0 (p0a 0) p0a)) (p0k := p0k) (p0w := p0w_102) (p0l := p0l) (p1 := (p1_2w 3 (nn v5_42))) (sz := _) (o := o_21) (hrun := hc_21)) (cwV 1 hts (gi_V qw449 qw450 qw451 qw442 (gi_z qw448)) rfl rfl rfl (by decide +kernel) ⟨Nat.le_of_ble_eq_true rfl, Nat.le_of_ble_eq_true rfl⟩) ⟨PRE.blind, va_recv hKc hPc (ci := 7) (q0 := 0) rfl rfl, PRE.of hE hS hFc hPc hKc hDc⟩ rfl rfl hl.1 rfl (lv_room (Nat.le_of_ble_eq_true rfl)) dX5_wantInBlock_132 ⟨(Nat.le_of_ble_eq_true rfl), (Nat.le_of_ble_eq_true rfl)⟩) hS (fun q _ h => hFc q h) hFc (fun r22 u t H locs ht hvm hw hB hz1 hk1 hS => ?_)
                obtain ⟨hP, hD, hK⟩ := JOIN (wr := ((oX1 (p1a 0) p1a p1k p1n p1w p1l) ++ (oX9 (p1a 3) p1_2a p1_2k p1_2n p1_2w))) hP hD hK [0, 1, 2, 3, 4, 5, 6, 7, 8, 9] [10, 11, 12, 13, 14, 15, 16, 17, 18, 19, 20, 21, 22, 23, 24, 25, 26, 27, 28, 29, 30, 31, 32, 33] [9, 10, 11, 12, 13, 14, 15, 16, 17, 18, 19, 20, 21, 22, 23, 24, 25, 26, 27, 28, 29, 30] rfl rfl (by decide) (by decide) rfl hk1 hFc ht hvm hB
                have hP : va_P (dC, dI) cls ((oX5 (p0a 0) p0a p0k (o_21.2) p0l) ++ (oX1 (p1a 0) p1a p1k p1n p1w p1l) ++ (oX9 (p1a 3) p1_2a p1_2k p1_2n p1_2w)) H := hP.sub [24, 25, 26, 27, 28, 29, 30, 31, 32, 33, 0, 1, 2, 3, 4, 5, 6, 7, 8, 9, 10, 11, 12, 13, 14, 15, 16, 17, 18, 19, 20, 21, 22, 23] rfl
                have hD : va_D A ((oX5 (p0a 0) p0a p0k (o_21.2) p0l) ++ (oX1 (p1a 0) p1a p1k p1n p1w p1l) ++ (oX9 (p1a 3) p1_2a p1_2k p1_2n p1_2w)) := hD.sub [24, 25, 26, 27, 28, 29, 30, 31, 32, 33, 0, 1, 2, 3, 4, 5, 6, 7, 8, 9, 10, 11, 12, 13, 14, 15, 16, 17, 18, 19, 20, 21, 22, 23] (by decide) rfl
                have hK : va_K (dC, dI) cls ((tX5 p0k) ++ (tX1 p1k) ++ (tX9 p1_2k)) s := hK.sub [22, 23, 24, 25, 26, 27, 28, 29, 30, 0, 1, 2, 3, 4, 5, 6, 7, 8, 9, 10, 11, 12, 13, 14, 15, 16, 17, 18, 19, 20, 21] rfl
                obtain rfl : r22 = (o_21.1) := hw
                have J147 : ∀ (y0_147 : Int32) (H : Heap) (locs : List Loc) (ls : Array Slot), (fX5_wantInBlock_J147 (fX5_wantInBlock_L42 p1_2n p1_2w n_42) p1_2n p1_2w v5_42 o_21 y0_147) = some o42 → va_P (dC, dI) cls ((oX5 (p0a 0) p0a p0k (o_21.2) p0l) ++ (oX1 (p1a 0) p1a p1k p1n p1w p1l) ++ (oX9 (p1a 3) p1_2a p1_2k p1_2n p1_2w)) H → va_D A ((oX5 (p0a 0) p0a p0k (o_21.2) p0l) ++ (oX1 (p1a 0) p1a p1k p1n p1w p1l) ++ (oX9 (p1a 3) p1_2a p1_2k p1_2n p1_2w)) → va_K (dC, dI) cls ((tX5 p0k) ++ (tX1 p1k) ++ (tX9 p1_2k)) s → va_S A s.heap H locs → lv_has ls 7 [(0, .ref (p0a 0)), (1, .ref (p1a 0)), (2, .int p2), (4, .ref (p1a 3)), (5, .int v5_42)] → W p l e ({ frames := 3, cells := 0, slots := 0, locals := 63 } : Room) s m ([.ref (p0a 0), .ref (p1a 0), .int p2] : List Value).toArray below meth c H locs 0 0 Q (F0 m 147 ls [.int y0_147]) := by
                  intro y0_147 H locs ls hrun hP hD hK hS hl 
                  unfold fX5_wantInBlock_J147 at hrun
                  refine lv_istore_n (lv' := [(3, .int y0_147), (0, .ref (p0a 0)), (1, .ref (p1a 0)), (2, .int p2), (4, .ref (p1a 3)), (5, .int v5_42)]) hx hb dX5_wantInBlock_147 rfl hl (by decide) rfl (fun ls hl => ?_)
                  exact J148 y0_147 (o_21.2) _ _ _ hrun hP hD hK hS (lv_sub hl [1, 2, 3, 0, 4, 5] rfl)
                have J142 : ∀ (H : Heap) (locs : List Loc) (ls : Array Slot), (fX5_wantInBlock_J142 (fX5_wantInBlock_L42 p1_2n p1_2w n_42) p1_2n p1_2w v5_42 o_21) = some o42 → va_P (dC, dI) cls ((oX5 (p0a 0) p0a p0k (o_21.2) p0l) ++ (oX1 (p1a 0) p1a p1k p1n p1w p1l) ++ (oX9 (p1a 3) p1_2a p1_2k p1_2n p1_2w)) H → va_D A ((oX5 (p0a 0) p0a p0k (o_21.2) p0l) ++ (oX1 (p1a 0) p1a p1k p1n p1w p1l) ++ (oX9 (p1a 3) p1_2a p1_2k p1_2n p1_2w)) → va_K (dC, dI) cls ((tX5 p0k) ++ (tX1 p1k) ++ (tX9 p1_2k)) s → va_S A s.heap H locs → lv_has ls 7 [(0, .ref (p0a 0)), (1, .ref (p1a 0)), (2, .int p2), (4, .ref (p1a 3)), (5, .int v5_42)] → W p l e ({ frames := 3, cells := 0, slots := 0, locals := 63 } : Room) s m ([.ref (p0a 0), .ref (p1a 0), .int p2] : List Value).toArray below meth c H locs 0 0 Q (F0 m 142 ls []) := by
                  intro  H locs ls hrun hP hD hK hS hl 
                  unfold fX5_wantInBlock_J142 at hrun
                  refine lv_iconst (v := 1) hx hb dX5_wantInBlock_142 (by decide) ?_
                  refine lv_goto (tgt := 147) hx hb dX5_wantInBlock_143 (by decide) ?_
                  exact J147 1 _ _ _ hrun hP hD hK hS (lv_sub hl [0, 1, 2, 3, 4] rfl)
                rcases br9 hrun with ⟨hc23, hrun⟩ | ⟨hc23, hrun⟩
                · refine lv_if_ne (tgt := 142) hx hb dX5_wantInBlock_135 (by decide) (fun c => absurd hc23 c) (fun _ => ?_)
                  refine lv_iload_n hx hb dX5_wantInBlock_138 rfl (lv_at hl 3 rfl) ?_
                  rcases br9 hrun with ⟨hc24, hrun⟩ | ⟨hc24, hrun⟩
                  · refine lv_if_eq (tgt := 146) hx hb dX5_wantInBlock_139 (by decide) (fun _ => ?_) (fun c => absurd hc24 c)
                    refine lv_iconst (v := 0) hx hb dX5_wantInBlock_146 (by decide) ?_
                    exact J147 0 _ _ _ hrun hP hD hK hS (lv_sub hl [0, 1, 2, 4, 5] rfl)
                  · refine lv_if_eq (tgt := 146) hx hb dX5_wantInBlock_139 (by decide) (fun c => absurd c hc24) (fun _ => ?_)
                    exact J142 _ _ _ hrun hP hD hK hS (lv_sub hl [0, 1, 2, 4, 5] rfl)
                · refine lv_if_ne (tgt := 142) hx hb dX5_wantInBlock_135 (by decide) (fun _ => ?_) (fun c => absurd c hc23)
                  exact J142 _ _ _ hrun hP hD hK hS (lv_sub hl [0, 1, 2, 4, 5] rfl)
          have J81 : ∀ (H : Heap) (locs : List Loc) (ls : Array Slot), (fX5_wantInBlock_J81 (fX5_wantInBlock_L42 p1_2n p1_2w n_42) p1_2n p1_2w v3_42 v5_42 p0w_42) = some o42 → va_P (dC, dI) cls ((oX5 (p0a 0) p0a p0k p0w_42 p0l) ++ (oX1 (p1a 0) p1a p1k p1n p1w p1l) ++ (oX9 (p1a 3) p1_2a p1_2k p1_2n p1_2w)) H → va_D A ((oX5 (p0a 0) p0a p0k p0w_42 p0l) ++ (oX1 (p1a 0) p1a p1k p1n p1w p1l) ++ (oX9 (p1a 3) p1_2a p1_2k p1_2n p1_2w)) → va_K (dC, dI) cls ((tX5 p0k) ++ (tX1 p1k) ++ (tX9 p1_2k)) s → va_S A s.heap H locs → lv_has ls 7 [(0, .ref (p0a 0)), (1, .ref (p1a 0)), (2, .int p2), (3, .int v3_42), (4, .ref (p1a 3)), (5, .int v5_42)] → W p l e ({ frames := 3, cells := 0, slots := 0, locals := 63 } : Room) s m ([.ref (p0a 0), .ref (p1a 0), .int p2] : List Value).toArray below meth c H locs 0 0 Q (F0 m 81 ls []) := by
            intro  H locs ls hrun hP hD hK hS hl 
            unfold fX5_wantInBlock_J81 at hrun
            refine lv_aload_n hx hb dX5_wantInBlock_81 rfl (lv_at hl 0 rfl) ?_
            refine lv_aload hx hb dX5_wantInBlock_82 (lv_at hl 4 rfl) ?_
            refine lv_iload hx hb dX5_wantInBlock_84 (lv_at hl 5 rfl) ?_
            obtain ⟨o_25, hc_25, hrun⟩ := bnd9 hrun
            have hPc := hP.sub (ws' := ((oX5 (p0a 0) p0a p0k p0w_42 p0l) ++ (oX9 (p1a 3) p1_2a p1_2k p1_2n p1_2w))) [0, 1, 2, 3, 4, 5, 6, 7, 8, 9, 28, 29, 30, 31, 32, 33] rfl
            have hDc := hD.sub (ws' := ((oX5 (p0a 0) p0a p0k p0w_42 p0l) ++ (oX9 (p1a 3) p1_2a p1_2k p1_2n p1_2w))) [0, 1, 2, 3, 4, 5, 6, 7, 8, 9, 28, 29, 30, 31, 32, 33] (by decide) rfl
            have hKc := hK.sub (tys' := ((tX5 p0k) ++ (tX9 p1_2k))) [0, 1, 2, 3, 4, 5, 6, 7, 8, 26, 27, 28, 29, 30] rfl
            have hFc := va_free (wc := ((oX5 (p0a 0) p0a p0k p0w_42 p0l) ++ (oX9 (p1a 3) p1_2a p1_2k p1_2n p1_2w))) hD hS hA [0, 1, 2, 3, 4, 5, 6, 7, 8, 9, 28, 29, 30, 31, 32, 33] rfl
            refine va_calli (va_runV (As := [.ref (p1a 3), .int v5_42]) (rest := []) ⟨hx, hb, hml, hown, hts⟩ (kX5_wantUsed l dC dI (p0a := (st0 (p0a 0) p0a)) (p0k := p0k) (p0w := p0w_42) (p0l := p0l) (p1a := (st0 (p1a 3) p1_2a)) (p1k := p1_2k) (p1n := p1_2n) (p1w := p1_2w) (p2 := v5_42) (sz := _) (o := o_25) (hrun := hc_25)) (cwV 2 hts (gi_V qw453 qw454 qw455 qw442 (gi_z qw452)) rfl rfl rfl (by decide +kernel) ⟨Nat.le_of_ble_eq_true rfl, Nat.le_of_ble_eq_true rfl⟩) ⟨PRE.blind, va_recv hKc hPc (ci := 7) (q0 := 0) rfl rfl, PRE.of hE hS hFc hPc hKc hDc⟩ rfl rfl hl.1 rfl (lv_room (Nat.le_of_ble_eq_true rfl)) dX5_wantInBlock_86 ⟨(Nat.le_of_ble_eq_true rfl), (Nat.le_of_ble_eq_true rfl)⟩) hS (fun q _ h => hFc q h) hFc (fun r26 u t H locs ht hvm hw hB hz1 hk1 hS => ?_)
            obtain ⟨hP, hD, hK⟩ := JOIN (wr := (oX1 (p1a 0) p1a p1k p1n p1w p1l)) hP hD hK [0, 1, 2, 3, 4, 5, 6, 7, 8, 9, 28, 29, 30, 31, 32, 33] [10, 11, 12, 13, 14, 15, 16, 17, 18, 19, 20, 21, 22, 23, 24, 25, 26, 27] [9, 10, 11, 12, 13, 14, 15, 16, 17, 18, 19, 20, 21, 22, 23, 24, 25] rfl rfl (by decide) (by decide) rfl hk1 hFc ht hvm hB
            have hP : va_P (dC, dI) cls ((oX5 (p0a 0) p0a p0k (o_25.2) p0l) ++ (oX1 (p1a 0) p1a p1k p1n p1w p1l) ++ (oX9 (p1a 3) p1_2a p1_2k p1_2n p1_2w)) H := hP.sub [18, 19, 20, 21, 22, 23, 24, 25, 26, 27, 0, 1, 2, 3, 4, 5, 6, 7, 8, 9, 10, 11, 12, 13, 14, 15, 16, 17, 28, 29, 30, 31, 32, 33] rfl
            have hD : va_D A ((oX5 (p0a 0) p0a p0k (o_25.2) p0l) ++ (oX1 (p1a 0) p1a p1k p1n p1w p1l) ++ (oX9 (p1a 3) p1_2a p1_2k p1_2n p1_2w)) := hD.sub [18, 19, 20, 21, 22, 23, 24, 25, 26, 27, 0, 1, 2, 3, 4, 5, 6, 7, 8, 9, 10, 11, 12, 13, 14, 15, 16, 17, 28, 29, 30, 31, 32, 33] (by decide) rfl
            have hK : va_K (dC, dI) cls ((tX5 p0k) ++ (tX1 p1k) ++ (tX9 p1_2k)) s := hK.sub [17, 18, 19, 20, 21, 22, 23, 24, 25, 0, 1, 2, 3, 4, 5, 6, 7, 8, 9, 10, 11, 12, 13, 14, 15, 16, 26, 27, 28, 29, 30] rfl
            obtain rfl : r26 = (o_25.1) := hw
            have J101 : ∀ (y0_101 : Int32) (H : Heap) (locs : List Loc) (ls : Array Slot), (fX5_wantInBlock_J101 (fX5_wantInBlock_L42 p1_2n p1_2w n_42) p1_2n p1_2w v5_42 o_25 y0_101) = some o42 → va_P (dC, dI) cls ((oX5 (p0a 0) p0a p0k (o_25.2) p0l) ++ (oX1 (p1a 0) p1a p1k p1n p1w p1l) ++ (oX9 (p1a 3) p1_2a p1_2k p1_2n p1_2w)) H → va_D A ((oX5 (p0a 0) p0a p0k (o_25.2) p0l) ++ (oX1 (p1a 0) p1a p1k p1n p1w p1l) ++ (oX9 (p1a 3) p1_2a p1_2k p1_2n p1_2w)) → va_K (dC, dI) cls ((tX5 p0k) ++ (tX1 p1k) ++ (tX9 p1_2k)) s → va_S A s.heap H locs → lv_has ls 7 [(0, .ref (p0a 0)), (1, .ref (p1a 0)), (2, .int p2), (4, .ref (p1a 3)), (5, .int v5_42)] → W p l e ({ frames := 3, cells := 0, slots := 0, locals := 63 } : Room) s m ([.ref (p0a 0), .ref (p1a 0), .int p2] : List Value).toArray below meth c H locs 0 0 Q (F0 m 101 ls [.int y0_101]) := by
              intro y0_101 H locs ls hrun hP hD hK hS hl 
              unfold fX5_wantInBlock_J101 at hrun
              refine lv_istore_n (lv' := [(3, .int y0_101), (0, .ref (p0a 0)), (1, .ref (p1a 0)), (2, .int p2), (4, .ref (p1a 3)), (5, .int v5_42)]) hx hb dX5_wantInBlock_101 rfl hl (by decide) rfl (fun ls hl => ?_)
              exact J102 y0_101 (o_25.2) _ _ _ hrun hP hD hK hS (lv_sub hl [1, 2, 3, 0, 4, 5] rfl)
            have J96 : ∀ (H : Heap) (locs : List Loc) (ls : Array Slot), (fX5_wantInBlock_J96 (fX5_wantInBlock_L42 p1_2n p1_2w n_42) p1_2n p1_2w v5_42 o_25) = some o42 → va_P (dC, dI) cls ((oX5 (p0a 0) p0a p0k (o_25.2) p0l) ++ (oX1 (p1a 0) p1a p1k p1n p1w p1l) ++ (oX9 (p1a 3) p1_2a p1_2k p1_2n p1_2w)) H → va_D A ((oX5 (p0a 0) p0a p0k (o_25.2) p0l) ++ (oX1 (p1a 0) p1a p1k p1n p1w p1l) ++ (oX9 (p1a 3) p1_2a p1_2k p1_2n p1_2w)) → va_K (dC, dI) cls ((tX5 p0k) ++ (tX1 p1k) ++ (tX9 p1_2k)) s → va_S A s.heap H locs → lv_has ls 7 [(0, .ref (p0a 0)), (1, .ref (p1a 0)), (2, .int p2), (4, .ref (p1a 3)), (5, .int v5_42)] → W p l e ({ frames := 3, cells := 0, slots := 0, locals := 63 } : Room) s m ([.ref (p0a 0), .ref (p1a 0), .int p2] : List Value).toArray below meth c H locs 0 0 Q (F0 m 96 ls []) := by
              intro  H locs ls hrun hP hD hK hS hl 
              unfold fX5_wantInBlock_J96 at hrun
              refine lv_iconst (v := 1) hx hb dX5_wantInBlock_96 (by decide) ?_
              refine lv_goto (tgt := 101) hx hb dX5_wantInBlock_97 (by decide) ?_
              exact J101 1 _ _ _ hrun hP hD hK hS (lv_sub hl [0, 1, 2, 3, 4] rfl)
            rcases br9 hrun with ⟨hc27, hrun⟩ | ⟨hc27, hrun⟩
            · refine lv_if_ne (tgt := 96) hx hb dX5_wantInBlock_89 (by decide) (fun c => absurd hc27 c) (fun _ => ?_)
              refine lv_iload_n hx hb dX5_wantInBlock_92 rfl (lv_at hl 3 rfl) ?_
              rcases br9 hrun with ⟨hc28, hrun⟩ | ⟨hc28, hrun⟩
              · refine lv_if_eq (tgt := 100) hx hb dX5_wantInBlock_93 (by decide) (fun _ => ?_) (fun c => absurd hc28 c)
                refine lv_iconst (v := 0) hx hb dX5_wantInBlock_100 (by decide) ?_
                exact J101 0 _ _ _ hrun hP hD hK hS (lv_sub hl [0, 1, 2, 4, 5] rfl)
              · refine lv_if_eq (tgt := 100) hx hb dX5_wantInBlock_93 (by decide) (fun c => absurd c hc28) (fun _ => ?_)
                exact J96 _ _ _ hrun hP hD hK hS (lv_sub hl [0, 1, 2, 4, 5] rfl)
            · refine lv_if_ne (tgt := 96) hx hb dX5_wantInBlock_89 (by decide) (fun _ => ?_) (fun c => absurd c hc27)
              exact J96 _ _ _ hrun hP hD hK hS (lv_sub hl [0, 1, 2, 4, 5] rfl)
          rcases br9 hrun with ⟨hc29, hrun⟩ | ⟨hc29, hrun⟩
          · refine lv_icmp_eq (tgt := 81) hx hb dX5_wantInBlock_61 (by decide) (fun _ => ?_) (fun c => absurd hc29 c)
            exact J81 _ _ _ hrun hP hD hK hS (lv_sub hl [1, 2, 3, 4, 5, 6] rfl)
          · refine lv_icmp_eq (tgt := 81) hx hb dX5_wantInBlock_61 (by decide) (fun c => absurd c hc29) (fun _ => ?_)
            refine lv_iload hx hb dX5_wantInBlock_64 (lv_at hl 0 rfl) ?_
            refine lv_bipush (v := 19) hx hb dX5_wantInBlock_66 (by decide) ?_
            rcases br9 hrun with ⟨hc30, hrun⟩ | ⟨hc30, hrun⟩
            · refine lv_icmp_eq (tgt := 81) hx hb dX5_wantInBlock_68 (by decide) (fun _ => ?_) (fun c => absurd hc30 c)
              exact J81 _ _ _ hrun hP hD hK hS (lv_sub hl [1, 2, 3, 4, 5, 6] rfl)
            · refine lv_icmp_eq (tgt := 81) hx hb dX5_wantInBlock_68 (by decide) (fun c => absurd c hc30) (fun _ => ?_)
              refine lv_aload_n hx hb dX5_wantInBlock_71 rfl (lv_at hl 1 rfl) ?_
              refine lv_aload_n hx hb dX5_wantInBlock_72 rfl (lv_at hl 2 rfl) ?_
              refine lv_iload hx hb dX5_wantInBlock_73 (lv_at hl 6 rfl) ?_
              obtain ⟨o_31, hc_31, hrun⟩ := bnd9 hrun
              have hPc := hP.sub (ws' := ((oX5 (p0a 0) p0a p0k p0w_42 p0l) ++ (oX1 (p1a 0) p1a p1k p1n p1w p1l) ++ (oX9 (p1a 3) p1_2a p1_2k p1_2n p1_2w))) [0, 1, 2, 3, 4, 5, 6, 7, 8, 9, 10, 11, 12, 13, 14, 15, 16, 17, 18, 19, 20, 21, 22, 23, 24, 25, 26, 27, 28, 29, 30, 31, 32, 33] rfl
              have hDc := hD.sub (ws' := ((oX5 (p0a 0) p0a p0k p0w_42 p0l) ++ (oX1 (p1a 0) p1a p1k p1n p1w p1l) ++ (oX9 (p1a 3) p1_2a p1_2k p1_2n p1_2w))) [0, 1, 2, 3, 4, 5, 6, 7, 8, 9, 10, 11, 12, 13, 14, 15, 16, 17, 18, 19, 20, 21, 22, 23, 24, 25, 26, 27, 28, 29, 30, 31, 32, 33] (by decide) rfl
              have hKc := hK.sub (tys' := ((tX5 p0k) ++ (tX1 p1k) ++ (tX9 p1_2k))) [0, 1, 2, 3, 4, 5, 6, 7, 8, 9, 10, 11, 12, 13, 14, 15, 16, 17, 18, 19, 20, 21, 22, 23, 24, 25, 26, 27, 28, 29, 30] rfl
              have hFc := va_free (wc := ((oX5 (p0a 0) p0a p0k p0w_42 p0l) ++ (oX1 (p1a 0) p1a p1k p1n p1w p1l) ++ (oX9 (p1a 3) p1_2a p1_2k p1_2n p1_2w))) hD hS hA [0, 1, 2, 3, 4, 5, 6, 7, 8, 9, 10, 11, 12, 13, 14, 15, 16, 17, 18, 19, 20, 21, 22, 23, 24, 25, 26, 27, 28, 29, 30, 31, 32, 33] rfl
              refine va_calli (va_runV (As := [.ref (p1a 0), .int v5_42]) (rest := []) ⟨hx, hb, hml, hown, hts⟩ (kX5_mayFail l dC dI (p0a := (st0 (p0a 0) p0a)) (p0k := p0k) (p0w := p0w_42) (p0l := p0l) (p1a := (st0 (p1a 0) p1a)) (p1k := p1k) (p1n := p1n) (p1w := p1w) (p1l := p1l) (p2 := v5_42) (p1_2a := p1_2a) (p1_2k := p1_2k) (p1_2n := p1_2n) (p1_2w := p1_2w) (sz := _) (o := o_31) (hrun := hc_31)) (cwV 2 hts (gi_V qw465 qw466 qw467 qw442 (gi_z qw464)) rfl rfl rfl (by decide +kernel) ⟨Nat.le_of_ble_eq_true rfl, Nat.le_of_ble_eq_true rfl⟩) ⟨PRE.blind, va_recv hKc hPc (ci := 7) (q0 := 0) rfl rfl, PRE.of hE hS hFc hPc hKc hDc⟩ rfl rfl hl.1 rfl (lv_room (Nat.le_of_ble_eq_true rfl)) dX5_wantInBlock_75 ⟨(Nat.le_of_ble_eq_true rfl), (Nat.le_of_ble_eq_true rfl)⟩) hS (fun q _ h => hFc q h) hFc (fun r32 u t H locs ht hvm hw hB hz1 hk1 hS => ?_)
              obtain ⟨hP, hD, hK⟩ := JOIN (wr := ([] : va_W)) hP hD hK [0, 1, 2, 3, 4, 5, 6, 7, 8, 9, 10, 11, 12, 13, 14, 15, 16, 17, 18, 19, 20, 21, 22, 23, 24, 25, 26, 27, 28, 29, 30, 31, 32, 33] [] [] rfl rfl (by decide) (by decide) rfl hk1 hFc ht hvm hB
              have hP : va_P (dC, dI) cls ((oX5 (p0a 0) p0a p0k p0w_42 p0l) ++ (oX1 (p1a 0) p1a p1k p1n p1w p1l) ++ (oX9 (p1a 3) p1_2a p1_2k p1_2n p1_2w)) H := hP.sub [0, 1, 2, 3, 4, 5, 6, 7, 8, 9, 10, 11, 12, 13, 14, 15, 16, 17, 18, 19, 20, 21, 22, 23, 24, 25, 26, 27, 28, 29, 30, 31, 32, 33] rfl
              have hD : va_D A ((oX5 (p0a 0) p0a p0k p0w_42 p0l) ++ (oX1 (p1a 0) p1a p1k p1n p1w p1l) ++ (oX9 (p1a 3) p1_2a p1_2k p1_2n p1_2w)) := hD.sub [0, 1, 2, 3, 4, 5, 6, 7, 8, 9, 10, 11, 12, 13, 14, 15, 16, 17, 18, 19, 20, 21, 22, 23, 24, 25, 26, 27, 28, 29, 30, 31, 32, 33] (by decide) rfl
              have hK : va_K (dC, dI) cls ((tX5 p0k) ++ (tX1 p1k) ++ (tX9 p1_2k)) s := hK.sub [0, 1, 2, 3, 4, 5, 6, 7, 8, 9, 10, 11, 12, 13, 14, 15, 16, 17, 18, 19, 20, 21, 22, 23, 24, 25, 26, 27, 28, 29, 30] rfl
              obtain rfl : o_31 = r32 := hw.symm
              rcases br9 hrun with ⟨hc33, hrun⟩ | ⟨hc33, hrun⟩
              · refine lv_if_eq (tgt := 102) hx hb dX5_wantInBlock_78 (by decide) (fun _ => ?_) (fun c => absurd hc33 c)
                exact J102 v3_42 p0w_42 _ _ _ hrun hP hD hK hS (lv_sub hl [1, 2, 3, 4, 5, 6] rfl)
              · refine lv_if_eq (tgt := 102) hx hb dX5_wantInBlock_78 (by decide) (fun c => absurd c hc33) (fun _ => ?_)
                exact J81 _ _ _ hrun hP hD hK hS (lv_sub hl [1, 2, 3, 4, 5, 6] rfl)
    obtain ⟨o42, hc42, hrun⟩ := bnd9 hrun
    refine L42 NF y0_27 (p1w 4 (nn p2)) p0w_27 o42 _ _ _ hc42 hP hD hK hS (lv_sub hl [3, 4, 5, 2, 1, 0] rfl) ?_
    intro H locs ls hP hD hK hS hl
    have hl := hl
    refine lv_aload_n hx hb dX5_wantInBlock_209 rfl (lv_at hl 1 rfl) ?_
    refine va_get (D := (dC, dI)) (ci := 4) (v := .ref (p1a 6)) (C := RX1) (T := TX1) (N := 21) hx hb hts i_X1 hown hK hP 10 rfl rfl 5 (by decide) (hts _ qw431) (fun _ h9 => h9) rfl dX5_wantInBlock_210 ?_
    refine lv_iload_n hx hb dX5_wantInBlock_213 rfl (lv_at hl 2 rfl) ?_
    obtain ⟨hq34, hrun⟩ := chk9 hrun
    refine va_iald hx hb hK hP 13 11 rfl rfl (ixb_in hq34) dX5_wantInBlock_214 ?_
    refine lv_istore (lv' := [(5, .int (p1w 6 (nn p2))), (0, .ref (p0a 0)), (1, .ref (p1a 0)), (2, .int p2), (3, .int (o42.1))]) hx hb dX5_wantInBlock_215 hl (by decide) rfl (fun ls hl => ?_)
    have L217 : ∀ (n_217 : Nat) (v3_217 : Int32) (v5_217 : Int32) (p0w_217 : ST) (o217 : Int32 × ST) (H : Heap) (locs : List Loc) (ls : Array Slot), (fX5_wantInBlock_L217 p1n p1w p2 n_217) v3_217 v5_217 p0w_217 = some o217 → va_P (dC, dI) cls ((oX5 (p0a 0) p0a p0k p0w_217 p0l) ++ (oX1 (p1a 0) p1a p1k p1n p1w p1l) ++ (oX9 (p1a 3) p1_2a p1_2k p1_2n p1_2w)) H → va_D A ((oX5 (p0a 0) p0a p0k p0w_217 p0l) ++ (oX1 (p1a 0) p1a p1k p1n p1w p1l) ++ (oX9 (p1a 3) p1_2a p1_2k p1_2n p1_2w)) → va_K (dC, dI) cls ((tX5 p0k) ++ (tX1 p1k) ++ (tX9 p1_2k)) s → va_S A s.heap H locs → lv_has ls 7 [(0, .ref (p0a 0)), (1, .ref (p1a 0)), (2, .int p2), (3, .int v3_217), (5, .int v5_217)] → (∀ (H : Heap) (locs : List Loc) (ls : Array Slot), va_P (dC, dI) cls ((oX5 (p0a 0) p0a p0k (o217.2) p0l) ++ (oX1 (p1a 0) p1a p1k p1n p1w p1l) ++ (oX9 (p1a 3) p1_2a p1_2k p1_2n p1_2w)) H → va_D A ((oX5 (p0a 0) p0a p0k (o217.2) p0l) ++ (oX1 (p1a 0) p1a p1k p1n p1w p1l) ++ (oX9 (p1a 3) p1_2a p1_2k p1_2n p1_2w)) → va_K (dC, dI) cls ((tX5 p0k) ++ (tX1 p1k) ++ (tX9 p1_2k)) s → va_S A s.heap H locs → lv_has ls 7 [(3, .int (o217.1))] → W p l e ({ frames := 3, cells := 0, slots := 0, locals := 63 } : Room) s m ([.ref (p0a 0), .ref (p1a 0), .int p2] : List Value).toArray below meth c H locs 0 0 Q (F0 m 298 ls [])) → W p l e ({ frames := 3, cells := 0, slots := 0, locals := 63 } : Room) s m ([.ref (p0a 0), .ref (p1a 0), .int p2] : List Value).toArray below meth c H locs 0 0 Q (F0 m 217 ls []) := by
      intro n_217
      induction n_217 with
      | zero => intro v3_217 v5_217 p0w_217 o217 H locs ls hrun; exact (no9 rfl hrun).elim
      | succ n_217 IH217 =>
        intro v3_217 v5_217 p0w_217 o217 H locs ls hrun hP hD hK hS hl hk217
        unfold fX5_wantInBlock_L217 at hrun
        refine lv_iload hx hb dX5_wantInBlock_217 (lv_at hl 4 rfl) ?_
        rcases br9 hrun with ⟨hc35, hrun⟩ | ⟨hc35, hrun⟩
        · refine lv_if_lt (tgt := 298) hx hb dX5_wantInBlock_219 (by decide) (fun _ => ?_) (fun c => absurd hc35 c)
          obtain rfl := (Option.some.inj hrun)
          exact hk217 _ _ _ hP hD hK hS (lv_sub hl [3] rfl)
        · refine lv_if_lt (tgt := 298) hx hb dX5_wantInBlock_219 (by decide) (fun c => absurd c hc35) (fun _ => ?_)
          refine lv_aload_n hx hb dX5_wantInBlock_222 rfl (lv_at hl 0 rfl) ?_
          refine va_get (D := (dC, dI)) (ci := 7) (v := .ref (p0a 7)) (C := RX5) (T := TX5) (N := 12) hx hb hts i_X5 hown hK hP 0 rfl rfl 6 (by decide) (hts _ qw443) (fun _ h9 => h9) rfl dX5_wantInBlock_223 ?_
          refine lv_aload_n hx hb dX5_wantInBlock_226 rfl (lv_at hl 1 rfl) ?_
          refine va_get (D := (dC, dI)) (ci := 4) (v := .ref (p1a 19)) (C := RX1) (T := TX1) (N := 21) hx hb hts i_X1 hown hK hP 10 rfl rfl 18 (by decide) (hts _ qw432) (fun _ h9 => h9) rfl dX5_wantInBlock_227 ?_
          refine lv_iload hx hb dX5_wantInBlock_230 (lv_at hl 4 rfl) ?_
          obtain ⟨hq36, hrun⟩ := chk9 hrun
          refine va_iald hx hb hK hP 25 23 rfl rfl (ixb_in hq36) dX5_wantInBlock_232 ?_
          obtain ⟨hq37, hrun⟩ := chk9 hrun
          refine va_iald hx hb hK hP 6 5 rfl rfl (ixb_in hq37) dX5_wantInBlock_233 ?_
          have J286 : ∀ (v3_286 : Int32) (p0w_286 : ST) (H : Heap) (locs : List Loc) (ls : Array Slot), (fX5_wantInBlock_J286 (fX5_wantInBlock_L217 p1n p1w p2 n_217) p1n p1w v5_217 v3_286 p0w_286) = some o217 → va_P (dC, dI) cls ((oX5 (p0a 0) p0a p0k p0w_286 p0l) ++ (oX1 (p1a 0) p1a p1k p1n p1w p1l) ++ (oX9 (p1a 3) p1_2a p1_2k p1_2n p1_2w)) H → va_D A ((oX5 (p0a 0) p0a p0k p0w_286 p0l) ++ (oX1 (p1a 0) p1a p1k p1n p1w p1l) ++ (oX9 (p1a 3) p1_2a p1_2k p1_2n p1_2w)) → va_K (dC, dI) cls ((tX5 p0k) ++ (tX1 p1k) ++ (tX9 p1_2k)) s → va_S A s.heap H locs → lv_has ls 7 [(0, .ref (p0a 0)), (1, .ref (p1a 0)), (2, .int p2), (3, .int v3_286), (5, .int v5_217)] → W p l e ({ frames := 3, cells := 0, slots := 0, locals := 63 } : Room) s m ([.ref (p0a 0), .ref (p1a 0), .int p2] : List Value).toArray below meth c H locs 0 0 Q (F0 m 286 ls []) := by
            intro v3_286 p0w_286 H locs ls hrun hP hD hK hS hl 
            unfold fX5_wantInBlock_J286 at hrun
            refine lv_aload_n hx hb dX5_wantInBlock_286 rfl (lv_at hl 1 rfl) ?_
            refine va_get (D := (dC, dI)) (ci := 4) (v := .ref (p1a 20)) (C := RX1) (T := TX1) (N := 21) hx hb hts i_X1 hown hK hP 10 rfl rfl 19 (by decide) (hts _ qw433) (fun _ h9 => h9) rfl dX5_wantInBlock_287 ?_
            refine lv_iload hx hb dX5_wantInBlock_290 (lv_at hl 4 rfl) ?_
            obtain ⟨hq38, hrun⟩ := chk9 hrun
            refine va_iald hx hb hK hP 26 24 rfl rfl (ixb_in hq38) dX5_wantInBlock_292 ?_
            refine lv_istore (lv' := [(5, .int (p1w 20 (nn v5_217))), (0, .ref (p0a 0)), (1, .ref (p1a 0)), (2, .int p2), (3, .int v3_286)]) hx hb dX5_wantInBlock_293 hl (by decide) rfl (fun ls hl => ?_)
            refine lv_goto (tgt := 217) hx hb dX5_wantInBlock_295 (by decide) ?_
            exact IH217 v3_286 (p1w 20 (nn v5_217)) p0w_286 o217 _ _ _ hrun hP hD hK hS (lv_sub hl [1, 2, 3, 4, 0] rfl) hk217
          rcases br9 hrun with ⟨hc39, hrun⟩ | ⟨hc39, hrun⟩
          · refine lv_if_ne (tgt := 286) hx hb dX5_wantInBlock_234 (by decide) (fun c => absurd hc39 c) (fun _ => ?_)
            refine lv_iconst (v := 0) hx hb dX5_wantInBlock_237 (by decide) ?_
            refine lv_istore (lv' := [(6, .int 0), (0, .ref (p0a 0)), (1, .ref (p1a 0)), (2, .int p2), (3, .int v3_217), (5, .int v5_217)]) hx hb dX5_wantInBlock_238 hl (by decide) rfl (fun ls hl => ?_)
            have L240 : ∀ (n_240 : Nat) (v3_240 : Int32) (v6_240 : Int32) (p0w_240 : ST) (o240 : Int32 × ST) (H : Heap) (locs : List Loc) (ls : Array Slot), (fX5_wantInBlock_L240 p1n p1w p2 v5_217 n_240) v3_240 v6_240 p0w_240 = some o240 → va_P (dC, dI) cls ((oX5 (p0a 0) p0a p0k p0w_240 p0l) ++ (oX1 (p1a 0) p1a p1k p1n p1w p1l) ++ (oX9 (p1a 3) p1_2a p1_2k p1_2n p1_2w)) H → va_D A ((oX5 (p0a 0) p0a p0k p0w_240 p0l) ++ (oX1 (p1a 0) p1a p1k p1n p1w p1l) ++ (oX9 (p1a 3) p1_2a p1_2k p1_2n p1_2w)) → va_K (dC, dI) cls ((tX5 p0k) ++ (tX1 p1k) ++ (tX9 p1_2k)) s → va_S A s.heap H locs → lv_has ls 7 [(0, .ref (p0a 0)), (1, .ref (p1a 0)), (2, .int p2), (3, .int v3_240), (5, .int v5_217), (6, .int v6_240)] → (∀ (H : Heap) (locs : List Loc) (ls : Array Slot), va_P (dC, dI) cls ((oX5 (p0a 0) p0a p0k (o240.2) p0l) ++ (oX1 (p1a 0) p1a p1k p1n p1w p1l) ++ (oX9 (p1a 3) p1_2a p1_2k p1_2n p1_2w)) H → va_D A ((oX5 (p0a 0) p0a p0k (o240.2) p0l) ++ (oX1 (p1a 0) p1a p1k p1n p1w p1l) ++ (oX9 (p1a 3) p1_2a p1_2k p1_2n p1_2w)) → va_K (dC, dI) cls ((tX5 p0k) ++ (tX1 p1k) ++ (tX9 p1_2k)) s → va_S A s.heap H locs → lv_has ls 7 [(0, .ref (p0a 0)), (1, .ref (p1a 0)), (2, .int p2), (3, .int (o240.1)), (5, .int v5_217)] → W p l e ({ frames := 3, cells := 0, slots := 0, locals := 63 } : Room) s m ([.ref (p0a 0), .ref (p1a 0), .int p2] : List Value).toArray below meth c H locs 0 0 Q (F0 m 286 ls [])) → W p l e ({ frames := 3, cells := 0, slots := 0, locals := 63 } : Room) s m ([.ref (p0a 0), .ref (p1a 0), .int p2] : List Value).toArray below meth c H locs 0 0 Q (F0 m 240 ls []) := by
              intro n_240
              induction n_240 with
              | zero => intro v3_240 v6_240 p0w_240 o240 H locs ls hrun; exact (no9 rfl hrun).elim
              | succ n_240 IH240 =>
                intro v3_240 v6_240 p0w_240 o240 H locs ls hrun hP hD hK hS hl hk240
                unfold fX5_wantInBlock_L240 at hrun
                refine lv_iload hx hb dX5_wantInBlock_240 (lv_at hl 5 rfl) ?_
                refine lv_aload_n hx hb dX5_wantInBlock_242 rfl (lv_at hl 1 rfl) ?_
                refine lv_iload_n hx hb dX5_wantInBlock_243 rfl (lv_at hl 2 rfl) ?_
                obtain ⟨o_40, hc_40, hrun⟩ := bnd9 hrun
                have hPc := hP.sub (ws' := (oX1 (p1a 0) p1a p1k p1n p1w p1l)) [10, 11, 12, 13, 14, 15, 16, 17, 18, 19, 20, 21, 22, 23, 24, 25, 26, 27] rfl
                have hDc := hD.sub (ws' := (oX1 (p1a 0) p1a p1k p1n p1w p1l)) [10, 11, 12, 13, 14, 15, 16, 17, 18, 19, 20, 21, 22, 23, 24, 25, 26, 27] (by decide) rfl
                have hKc := hK.sub (tys' := (tX1 p1k)) [9, 10, 11, 12, 13, 14, 15, 16, 17, 18, 19, 20, 21, 22, 23, 24, 25] rfl
                have hFc := va_free (wc := (oX1 (p1a 0) p1a p1k p1n p1w p1l)) hD hS hA [10, 11, 12, 13, 14, 15, 16, 17, 18, 19, 20, 21, 22, 23, 24, 25, 26, 27] rfl
                refine va_calli (va_runV (As := [.int p2]) (rest := [.int v6_240]) ⟨hx, hb, hml, hown, hts⟩ (kX1_waysTo l dC dI (p0a := (st0 (p1a 0) p1a)) (p0k := p1k) (p0n := p1n) (p0w := p1w) (p0l := p1l) (p1 := p2) (sz := _) (o := o_40) (hrun := hc_40)) (cwV 1 hts (gi_V qw423 qw185 qw186 qw126 (gi_z qw183)) rfl rfl rfl (by decide +kernel) ⟨Nat.le_of_ble_eq_true rfl, Nat.le_of_ble_eq_true rfl⟩) ⟨PRE.blind, va_recv hKc hPc (ci := 4) (q0 := 0) rfl rfl, PRE.of hE hS hFc hPc hKc hDc⟩ rfl rfl hl.1 rfl (lv_room (Nat.le_of_ble_eq_true rfl)) dX5_wantInBlock_244 ⟨(Nat.le_of_ble_eq_true rfl), (Nat.le_of_ble_eq_true rfl)⟩) hS (fun q _ h => hFc q h) hFc (fun r41 u t H locs ht hvm hw hB hz1 hk1 hS => ?_)
                obtain ⟨hP, hD, hK⟩ := JOIN (wr := ((oX5 (p0a 0) p0a p0k p0w_240 p0l) ++ (oX9 (p1a 3) p1_2a p1_2k p1_2n p1_2w))) hP hD hK [10, 11, 12, 13, 14, 15, 16, 17, 18, 19, 20, 21, 22, 23, 24, 25, 26, 27] [0, 1, 2, 3, 4, 5, 6, 7, 8, 9, 28, 29, 30, 31, 32, 33] [0, 1, 2, 3, 4, 5, 6, 7, 8, 26, 27, 28, 29, 30] rfl rfl (by decide) (by decide) rfl hk1 hFc ht hvm hB
                have hP : va_P (dC, dI) cls ((oX5 (p0a 0) p0a p0k p0w_240 p0l) ++ (oX1 (p1a 0) p1a p1k p1n p1w p1l) ++ (oX9 (p1a 3) p1_2a p1_2k p1_2n p1_2w)) H := hP.sub [0, 1, 2, 3, 4, 5, 6, 7, 8, 9, 16, 17, 18, 19, 20, 21, 22, 23, 24, 25, 26, 27, 28, 29, 30, 31, 32, 33, 10, 11, 12, 13, 14, 15] rfl
                have hD : va_D A ((oX5 (p0a 0) p0a p0k p0w_240 p0l) ++ (oX1 (p1a 0) p1a p1k p1n p1w p1l) ++ (oX9 (p1a 3) p1_2a p1_2k p1_2n p1_2w)) := hD.sub [0, 1, 2, 3, 4, 5, 6, 7, 8, 9, 16, 17, 18, 19, 20, 21, 22, 23, 24, 25, 26, 27, 28, 29, 30, 31, 32, 33, 10, 11, 12, 13, 14, 15] (by decide) rfl
                have hK : va_K (dC, dI) cls ((tX5 p0k) ++ (tX1 p1k) ++ (tX9 p1_2k)) s := hK.sub [0, 1, 2, 3, 4, 5, 6, 7, 8, 14, 15, 16, 17, 18, 19, 20, 21, 22, 23, 24, 25, 26, 27, 28, 29, 30, 9, 10, 11, 12, 13] rfl
                obtain rfl : o_40 = r41 := hw.symm
                rcases br9 hrun with ⟨hc42, hrun⟩ | ⟨hc42, hrun⟩
                · refine lv_icmp_ge (tgt := 286) hx hb dX5_wantInBlock_247 (by decide) (fun _ => ?_) (fun c => absurd hc42 c)
                  obtain rfl := (Option.some.inj hrun)
                  exact hk240 _ _ _ hP hD hK hS (lv_sub hl [0, 1, 2, 3, 4] rfl)
                · refine lv_icmp_ge (tgt := 286) hx hb dX5_wantInBlock_247 (by decide) (fun c => absurd c hc42) (fun _ => ?_)
                  refine lv_aload_n hx hb dX5_wantInBlock_250 rfl (lv_at hl 0 rfl) ?_
                  refine lv_aload_n hx hb dX5_wantInBlock_251 rfl (lv_at hl 1 rfl) ?_
                  refine lv_iload hx hb dX5_wantInBlock_252 (lv_at hl 4 rfl) ?_
                  refine lv_aload_n hx hb dX5_wantInBlock_254 rfl (lv_at hl 1 rfl) ?_
                  refine lv_iload_n hx hb dX5_wantInBlock_255 rfl (lv_at hl 2 rfl) ?_
                  refine lv_iload hx hb dX5_wantInBlock_256 (lv_at hl 5 rfl) ?_
                  obtain ⟨o_43, hc_43, hrun⟩ := bnd9 hrun
                  have hPc := hP.sub (ws' := (oX1 (p1a 0) p1a p1k p1n p1w p1l)) [10, 11, 12, 13, 14, 15, 16, 17, 18, 19, 20, 21, 22, 23, 24, 25, 26, 27] rfl
                  have hDc := hD.sub (ws' := (oX1 (p1a 0) p1a p1k p1n p1w p1l)) [10, 11, 12, 13, 14, 15, 16, 17, 18, 19, 20, 21, 22, 23, 24, 25, 26, 27] (by decide) rfl
                  have hKc := hK.sub (tys' := (tX1 p1k)) [9, 10, 11, 12, 13, 14, 15, 16, 17, 18, 19, 20, 21, 22, 23, 24, 25] rfl
                  have hFc := va_free (wc := (oX1 (p1a 0) p1a p1k p1n p1w p1l)) hD hS hA [10, 11, 12, 13, 14, 15, 16, 17, 18, 19, 20, 21, 22, 23, 24, 25, 26, 27] rfl
                  refine va_calli (va_runV (As := [.int p2, .int v6_240]) (rest := [.int v5_217, .ref (p1a 0), .ref (p0a 0)]) ⟨hx, hb, hml, hown, hts⟩ (kX1_wayFrom l dC dI (p0a := (st0 (p1a 0) p1a)) (p0k := p1k) (p0n := p1n) (p0w := p1w) (p0l := p1l) (p1 := p2) (p2 := v6_240) (sz := _) (o := o_43) (hrun := hc_43)) (cwV 2 hts (gi_V qw424 qw189 qw190 qw126 (gi_z qw187)) rfl rfl rfl (by decide +kernel) ⟨Nat.le_of_ble_eq_true rfl, Nat.le_of_ble_eq_true rfl⟩) ⟨PRE.blind, va_recv hKc hPc (ci := 4) (q0 := 0) rfl rfl, PRE.of hE hS hFc hPc hKc hDc⟩ rfl rfl hl.1 rfl (lv_room (Nat.le_of_ble_eq_true rfl)) dX5_wantInBlock_258 ⟨(Nat.le_of_ble_eq_true rfl), (Nat.le_of_ble_eq_true rfl)⟩) hS (fun q _ h => hFc q h) hFc (fun r44 u t H locs ht hvm hw hB hz1 hk1 hS => ?_)
                  obtain ⟨hP, hD, hK⟩ := JOIN (wr := ((oX5 (p0a 0) p0a p0k p0w_240 p0l) ++ (oX9 (p1a 3) p1_2a p1_2k p1_2n p1_2w))) hP hD hK [10, 11, 12, 13, 14, 15, 16, 17, 18, 19, 20, 21, 22, 23, 24, 25, 26, 27] [0, 1, 2, 3, 4, 5, 6, 7, 8, 9, 28, 29, 30, 31, 32, 33] [0, 1, 2, 3, 4, 5, 6, 7, 8, 26, 27, 28, 29, 30] rfl rfl (by decide) (by decide) rfl hk1 hFc ht hvm hB
                  have hP : va_P (dC, dI) cls ((oX5 (p0a 0) p0a p0k p0w_240 p0l) ++ (oX1 (p1a 0) p1a p1k p1n p1w p1l) ++ (oX9 (p1a 3) p1_2a p1_2k p1_2n p1_2w)) H := hP.sub [0, 1, 2, 3, 4, 5, 6, 7, 8, 9, 16, 17, 18, 19, 20, 21, 22, 23, 24, 25, 26, 27, 28, 29, 30, 31, 32, 33, 10, 11, 12, 13, 14, 15] rfl
                  have hD : va_D A ((oX5 (p0a 0) p0a p0k p0w_240 p0l) ++ (oX1 (p1a 0) p1a p1k p1n p1w p1l) ++ (oX9 (p1a 3) p1_2a p1_2k p1_2n p1_2w)) := hD.sub [0, 1, 2, 3, 4, 5, 6, 7, 8, 9, 16, 17, 18, 19, 20, 21, 22, 23, 24, 25, 26, 27, 28, 29, 30, 31, 32, 33, 10, 11, 12, 13, 14, 15] (by decide) rfl
                  have hK : va_K (dC, dI) cls ((tX5 p0k) ++ (tX1 p1k) ++ (tX9 p1_2k)) s := hK.sub [0, 1, 2, 3, 4, 5, 6, 7, 8, 14, 15, 16, 17, 18, 19, 20, 21, 22, 23, 24, 25, 26, 27, 28, 29, 30, 9, 10, 11, 12, 13] rfl
                  obtain rfl : o_43 = r44 := hw.symm
                  obtain ⟨o_45, hc_45, hrun⟩ := bnd9 hrun
                  have hPc := hP.sub (ws' := (oX1 (p1a 0) p1a p1k p1n p1w p1l)) [10, 11, 12, 13, 14, 15, 16, 17, 18, 19, 20, 21, 22, 23, 24, 25, 26, 27] rfl
                  have hDc := hD.sub (ws' := (oX1 (p1a 0) p1a p1k p1n p1w p1l)) [10, 11, 12, 13, 14, 15, 16, 17, 18, 19, 20, 21, 22, 23, 24, 25, 26, 27] (by decide) rfl
                  have hKc := hK.sub (tys' := (tX1 p1k)) [9, 10, 11, 12, 13, 14, 15, 16, 17, 18, 19, 20, 21, 22, 23, 24, 25] rfl
                  have hFc := va_free (wc := (oX1 (p1a 0) p1a p1k p1n p1w p1l)) hD hS hA [10, 11, 12, 13, 14, 15, 16, 17, 18, 19, 20, 21, 22, 23, 24, 25, 26, 27] rfl
                  refine va_calli (va_runV (As := [.int v5_217, .int o_43]) (rest := [.ref (p0a 0)]) ⟨hx, hb, hml, hown, hts⟩ (kX1_take l dC dI (p0a := (st0 (p1a 0) p1a)) (p0k := p1k) (p0n := p1n) (p0w := p1w) (p0l := p1l) (p1 := v5_217) (p2 := o_43) (sz := _) (o := o_45) (hrun := hc_45)) (cwV 2 hts (gi_V qw469 qw470 qw471 qw126 (gi_z qw468)) rfl rfl rfl (by decide +kernel) ⟨Nat.le_of_ble_eq_true rfl, Nat.le_of_ble_eq_true rfl⟩) ⟨PRE.blind, va_recv hKc hPc (ci := 4) (q0 := 0) rfl rfl, PRE.of hE hS hFc hPc hKc hDc⟩ rfl rfl hl.1 rfl (lv_room (Nat.le_of_ble_eq_true rfl)) dX5_wantInBlock_261 ⟨(Nat.le_of_ble_eq_true rfl), (Nat.le_of_ble_eq_true rfl)⟩) hS (fun q _ h => hFc q h) hFc (fun r46 u t H locs ht hvm hw hB hz1 hk1 hS => ?_)
                  obtain ⟨hP, hD, hK⟩ := JOIN (wr := ((oX5 (p0a 0) p0a p0k p0w_240 p0l) ++ (oX9 (p1a 3) p1_2a p1_2k p1_2n p1_2w))) hP hD hK [10, 11, 12, 13, 14, 15, 16, 17, 18, 19, 20, 21, 22, 23, 24, 25, 26, 27] [0, 1, 2, 3, 4, 5, 6, 7, 8, 9, 28, 29, 30, 31, 32, 33] [0, 1, 2, 3, 4, 5, 6, 7, 8, 26, 27, 28, 29, 30] rfl rfl (by decide) (by decide) rfl hk1 hFc ht hvm hB
                  have hP : va_P (dC, dI) cls ((oX5 (p0a 0) p0a p0k p0w_240 p0l) ++ (oX1 (p1a 0) p1a p1k p1n p1w p1l) ++ (oX9 (p1a 3) p1_2a p1_2k p1_2n p1_2w)) H := hP.sub [0, 1, 2, 3, 4, 5, 6, 7, 8, 9, 16, 17, 18, 19, 20, 21, 22, 23, 24, 25, 26, 27, 28, 29, 30, 31, 32, 33, 10, 11, 12, 13, 14, 15] rfl
                  have hD : va_D A ((oX5 (p0a 0) p0a p0k p0w_240 p0l) ++ (oX1 (p1a 0) p1a p1k p1n p1w p1l) ++ (oX9 (p1a 3) p1_2a p1_2k p1_2n p1_2w)) := hD.sub [0, 1, 2, 3, 4, 5, 6, 7, 8, 9, 16, 17, 18, 19, 20, 21, 22, 23, 24, 25, 26, 27, 28, 29, 30, 31, 32, 33, 10, 11, 12, 13, 14, 15] (by decide) rfl
                  have hK : va_K (dC, dI) cls ((tX5 p0k) ++ (tX1 p1k) ++ (tX9 p1_2k)) s := hK.sub [0, 1, 2, 3, 4, 5, 6, 7, 8, 14, 15, 16, 17, 18, 19, 20, 21, 22, 23, 24, 25, 26, 27, 28, 29, 30, 9, 10, 11, 12, 13] rfl
                  obtain rfl : o_45 = r46 := hw.symm
                  obtain ⟨o_47, hc_47, hrun⟩ := bnd9 hrun
                  have hPc := hP.sub (ws' := (oX5 (p0a 0) p0a p0k p0w_240 p0l)) [0, 1, 2, 3, 4, 5, 6, 7, 8, 9] rfl
                  have hDc := hD.sub (ws' := (oX5 (p0a 0) p0a p0k p0w_240 p0l)) [0, 1, 2, 3, 4, 5, 6, 7, 8, 9] (by decide) rfl
                  have hKc := hK.sub (tys' := (tX5 p0k)) [0, 1, 2, 3, 4, 5, 6, 7, 8] rfl
                  have hFc := va_free (wc := (oX5 (p0a 0) p0a p0k p0w_240 p0l)) hD hS hA [0, 1, 2, 3, 4, 5, 6, 7, 8, 9] rfl
                  refine va_calli (va_runV (As := [.int o_45]) (rest := []) ⟨hx, hb, hml, hown, hts⟩ (kX5_want l dC dI (p0a := (st0 (p0a 0) p0a)) (p0k := p0k) (p0w := p0w_240) (p0l := p0l) (p1 := o_45) (sz := _) (o := o_47) (hrun := hc_47)) (cwV 1 hts (gi_V qw449 qw450 qw451 qw442 (gi_z qw448)) rfl rfl rfl (by decide +kernel) ⟨Nat.le_of_ble_eq_true rfl, Nat.le_of_ble_eq_true rfl⟩) ⟨PRE.blind, va_recv hKc hPc (ci := 7) (q0 := 0) rfl rfl, PRE.of hE hS hFc hPc hKc hDc⟩ rfl rfl hl.1 rfl (lv_room (Nat.le_of_ble_eq_true rfl)) dX5_wantInBlock_264 ⟨(Nat.le_of_ble_eq_true rfl), (Nat.le_of_ble_eq_true rfl)⟩) hS (fun q _ h => hFc q h) hFc (fun r48 u t H locs ht hvm hw hB hz1 hk1 hS => ?_)
                  obtain ⟨hP, hD, hK⟩ := JOIN (wr := ((oX1 (p1a 0) p1a p1k p1n p1w p1l) ++ (oX9 (p1a 3) p1_2a p1_2k p1_2n p1_2w))) hP hD hK [0, 1, 2, 3, 4, 5, 6, 7, 8, 9] [10, 11, 12, 13, 14, 15, 16, 17, 18, 19, 20, 21, 22, 23, 24, 25, 26, 27, 28, 29, 30, 31, 32, 33] [9, 10, 11, 12, 13, 14, 15, 16, 17, 18, 19, 20, 21, 22, 23, 24, 25, 26, 27, 28, 29, 30] rfl rfl (by decide) (by decide) rfl hk1 hFc ht hvm hB
                  have hP : va_P (dC, dI) cls ((oX5 (p0a 0) p0a p0k (o_47.2) p0l) ++ (oX1 (p1a 0) p1a p1k p1n p1w p1l) ++ (oX9 (p1a 3) p1_2a p1_2k p1_2n p1_2w)) H := hP.sub [24, 25, 26, 27, 28, 29, 30, 31, 32, 33, 0, 1, 2, 3, 4, 5, 6, 7, 8, 9, 10, 11, 12, 13, 14, 15, 16, 17, 18, 19, 20, 21, 22, 23] rfl
                  have hD : va_D A ((oX5 (p0a 0) p0a p0k (o_47.2) p0l) ++ (oX1 (p1a 0) p1a p1k p1n p1w p1l) ++ (oX9 (p1a 3) p1_2a p1_2k p1_2n p1_2w)) := hD.sub [24, 25, 26, 27, 28, 29, 30, 31, 32, 33, 0, 1, 2, 3, 4, 5, 6, 7, 8, 9, 10, 11, 12, 13, 14, 15, 16, 17, 18, 19, 20, 21, 22, 23] (by decide) rfl
                  have hK : va_K (dC, dI) cls ((tX5 p0k) ++ (tX1 p1k) ++ (tX9 p1_2k)) s := hK.sub [22, 23, 24, 25, 26, 27, 28, 29, 30, 0, 1, 2, 3, 4, 5, 6, 7, 8, 9, 10, 11, 12, 13, 14, 15, 16, 17, 18, 19, 20, 21] rfl
                  obtain rfl : r48 = (o_47.1) := hw
                  have J279 : ∀ (y0_279 : Int32) (H : Heap) (locs : List Loc) (ls : Array Slot), (fX5_wantInBlock_J279 (fX5_wantInBlock_L240 p1n p1w p2 v5_217 n_240) v6_240 o_47 y0_279) = some o240 → va_P (dC, dI) cls ((oX5 (p0a 0) p0a p0k (o_47.2) p0l) ++ (oX1 (p1a 0) p1a p1k p1n p1w p1l) ++ (oX9 (p1a 3) p1_2a p1_2k p1_2n p1_2w)) H → va_D A ((oX5 (p0a 0) p0a p0k (o_47.2) p0l) ++ (oX1 (p1a 0) p1a p1k p1n p1w p1l) ++ (oX9 (p1a 3) p1_2a p1_2k p1_2n p1_2w)) → va_K (dC, dI) cls ((tX5 p0k) ++ (tX1 p1k) ++ (tX9 p1_2k)) s → va_S A s.heap H locs → lv_has ls 7 [(0, .ref (p0a 0)), (1, .ref (p1a 0)), (2, .int p2), (5, .int v5_217), (6, .int v6_240)] → W p l e ({ frames := 3, cells := 0, slots := 0, locals := 63 } : Room) s m ([.ref (p0a 0), .ref (p1a 0), .int p2] : List Value).toArray below meth c H locs 0 0 Q (F0 m 279 ls [.int y0_279]) := by
                    intro y0_279 H locs ls hrun hP hD hK hS hl 
                    unfold fX5_wantInBlock_J279 at hrun
                    refine lv_istore_n (lv' := [(3, .int y0_279), (0, .ref (p0a 0)), (1, .ref (p1a 0)), (2, .int p2), (5, .int v5_217), (6, .int v6_240)]) hx hb dX5_wantInBlock_279 rfl hl (by decide) rfl (fun ls hl => ?_)
                    refine lv_iinc (v := (v6_240 + 1)) (lv' := [(6, .int (v6_240 + 1)), (3, .int y0_279), (0, .ref (p0a 0)), (1, .ref (p1a 0)), (2, .int p2), (5, .int v5_217)]) hx hb dX5_wantInBlock_280 hl (k := 5) rfl rfl (by decide) rfl (fun ls hl => ?_)
                    refine lv_goto (tgt := 240) hx hb dX5_wantInBlock_283 (by decide) ?_
                    exact IH240 y0_279 (v6_240 + 1) (o_47.2) o240 _ _ _ hrun hP hD hK hS (lv_sub hl [2, 3, 4, 1, 5, 0] rfl) hk240
                  have J274 : ∀ (H : Heap) (locs : List Loc) (ls : Array Slot), (fX5_wantInBlock_J274 (fX5_wantInBlock_L240 p1n p1w p2 v5_217 n_240) v6_240 o_47) = some o240 → va_P (dC, dI) cls ((oX5 (p0a 0) p0a p0k (o_47.2) p0l) ++ (oX1 (p1a 0) p1a p1k p1n p1w p1l) ++ (oX9 (p1a 3) p1_2a p1_2k p1_2n p1_2w)) H → va_D A ((oX5 (p0a 0) p0a p0k (o_47.2) p0l) ++ (oX1 (p1a 0) p1a p1k p1n p1w p1l) ++ (oX9 (p1a 3) p1_2a p1_2k p1_2n p1_2w)) → va_K (dC, dI) cls ((tX5 p0k) ++ (tX1 p1k) ++ (tX9 p1_2k)) s → va_S A s.heap H locs → lv_has ls 7 [(0, .ref (p0a 0)), (1, .ref (p1a 0)), (2, .int p2), (5, .int v5_217), (6, .int v6_240)] → W p l e ({ frames := 3, cells := 0, slots := 0, locals := 63 } : Room) s m ([.ref (p0a 0), .ref (p1a 0), .int p2] : List Value).toArray below meth c H locs 0 0 Q (F0 m 274 ls []) := by
                    intro  H locs ls hrun hP hD hK hS hl 
                    unfold fX5_wantInBlock_J274 at hrun
                    refine lv_iconst (v := 1) hx hb dX5_wantInBlock_274 (by decide) ?_
                    refine lv_goto (tgt := 279) hx hb dX5_wantInBlock_275 (by decide) ?_
                    exact J279 1 _ _ _ hrun hP hD hK hS (lv_sub hl [0, 1, 2, 3, 4] rfl)
                  rcases br9 hrun with ⟨hc49, hrun⟩ | ⟨hc49, hrun⟩
                  · refine lv_if_ne (tgt := 274) hx hb dX5_wantInBlock_267 (by decide) (fun c => absurd hc49 c) (fun _ => ?_)
                    refine lv_iload_n hx hb dX5_wantInBlock_270 rfl (lv_at hl 3 rfl) ?_
                    rcases br9 hrun with ⟨hc50, hrun⟩ | ⟨hc50, hrun⟩
                    · refine lv_if_eq (tgt := 278) hx hb dX5_wantInBlock_271 (by decide) (fun _ => ?_) (fun c => absurd hc50 c)
                      refine lv_iconst (v := 0) hx hb dX5_wantInBlock_278 (by decide) ?_
                      exact J279 0 _ _ _ hrun hP hD hK hS (lv_sub hl [0, 1, 2, 4, 5] rfl)
                    · refine lv_if_eq (tgt := 278) hx hb dX5_wantInBlock_271 (by decide) (fun c => absurd c hc50) (fun _ => ?_)
                      exact J274 _ _ _ hrun hP hD hK hS (lv_sub hl [0, 1, 2, 4, 5] rfl)
                  · refine lv_if_ne (tgt := 274) hx hb dX5_wantInBlock_267 (by decide) (fun _ => ?_) (fun c => absurd c hc49)
                    exact J274 _ _ _ hrun hP hD hK hS (lv_sub hl [0, 1, 2, 4, 5] rfl)
            obtain ⟨o240, hc240, hrun⟩ := bnd9 hrun
            refine L240 NF v3_217 0 p0w_217 o240 _ _ _ hc240 hP hD hK hS (lv_sub hl [1, 2, 3, 4, 5, 0] rfl) ?_
            intro H locs ls hP hD hK hS hl
            have hl := hl
            exact J286 (o240.1) (o240.2) _ _ _ hrun hP hD hK hS (lv_sub hl [0, 1, 2, 3, 4] rfl)
          · refine lv_if_ne (tgt := 286) hx hb dX5_wantInBlock_234 (by decide) (fun _ => ?_) (fun c => absurd c hc39)
            exact J286 v3_217 p0w_217 _ _ _ hrun hP hD hK hS (lv_sub hl [0, 1, 2, 3, 4] rfl)
    obtain ⟨o217, hc217, hrun⟩ := bnd9 hrun
    refine L217 NF (o42.1) (p1w 6 (nn p2)) (o42.2) o217 _ _ _ hc217 hP hD hK hS (lv_sub hl [1, 2, 3, 4, 0] rfl) ?_
    intro H locs ls hP hD hK hS hl
    have hl := hl
    refine lv_iload_n hx hb dX5_wantInBlock_298 rfl (lv_at hl 0 rfl) ?_
    obtain ⟨hz9, hrun⟩ := chk9 hrun
    have ho9 : ((o217.1), (o217.2)) = o := Option.some.inj hrun
    have hP9 : va_P (dC, dI) cls ((oX5 (p0a 0) p0a p0k (o.2) p0l) ++ (oX1 (p1a 0) p1a p1k p1n p1w p1l) ++ (oX9 (p1a 3) p1_2a p1_2k p1_2n p1_2w)) H := by first | exact hP | (rw [← ho9]; exact hP)
    have hD9 : va_D A ((oX5 (p0a 0) p0a p0k (o.2) p0l) ++ (oX1 (p1a 0) p1a p1k p1n p1w p1l) ++ (oX9 (p1a 3) p1_2a p1_2k p1_2n p1_2w)) := by first | exact hD | (rw [← ho9]; exact hD)
    subst hQ
    exact W.zret (v := (o217.1)) hx hb hr (bz9 hz9) (fun t ht hW => ⟨⟨(o217.1), (), rfl, (by rw [← ho9]), ⟨by rw [ht]; exact hP9, va_K.moved hW.alike hK, hD9⟩⟩, hS.F ht⟩) hS.2.2 dX5_wantInBlock_299
  have J26 : ∀ (p0w_26 : ST) (H : Heap) (locs : List Loc) (ls : Array Slot), (fX5_wantInBlock_J26 p1n p1w p2 p1_2n p1_2w p0w_26) = some o → va_P (dC, dI) cls ((oX5 (p0a 0) p0a p0k p0w_26 p0l) ++ (oX1 (p1a 0) p1a p1k p1n p1w p1l) ++ (oX9 (p1a 3) p1_2a p1_2k p1_2n p1_2w)) H → va_D A ((oX5 (p0a 0) p0a p0k p0w_26 p0l) ++ (oX1 (p1a 0) p1a p1k p1n p1w p1l) ++ (oX9 (p1a 3) p1_2a p1_2k p1_2n p1_2w)) → va_K (dC, dI) cls ((tX5 p0k) ++ (tX1 p1k) ++ (tX9 p1_2k)) s → va_S A s.heap H locs → lv_has ls 7 [(0, .ref (p0a 0)), (1, .ref (p1a 0)), (2, .int p2)] → W p l e ({ frames := 3, cells := 0, slots := 0, locals := 63 } : Room) s m ([.ref (p0a 0), .ref (p1a 0), .int p2] : List Value).toArray below meth c H locs 0 0 Q (F0 m 26 ls []) := by
    intro p0w_26 H locs ls hrun hP hD hK hS hl 
    unfold fX5_wantInBlock_J26 at hrun
    refine lv_iconst (v := 0) hx hb dX5_wantInBlock_26 (by decide) ?_
    exact J27 0 p0w_26 _ _ _ hrun hP hD hK hS (lv_sub hl [0, 1, 2] rfl)
  rcases br9 hrun with ⟨hc51, hrun⟩ | ⟨hc51, hrun⟩
  · refine lv_if_lt (tgt := 26) hx hb dX5_wantInBlock_6 (by decide) (fun _ => ?_) (fun c => absurd hc51 c)
    exact J26 p0w _ _ _ hrun hP hD hK hS (lv_sub hl [0, 1, 2] rfl)
  · refine lv_if_lt (tgt := 26) hx hb dX5_wantInBlock_6 (by decide) (fun c => absurd c hc51) (fun _ => ?_)
    refine lv_aload_n hx hb dX5_wantInBlock_9 rfl (lv_at hl 0 rfl) ?_
    refine lv_aload_n hx hb dX5_wantInBlock_10 rfl (lv_at hl 1 rfl) ?_
    refine va_get (D := (dC, dI)) (ci := 4) (v := .ref (p1a 9)) (C := RX1) (T := TX1) (N := 21) hx hb hts i_X1 hown hK hP 10 rfl rfl 8 (by decide) (hts _ qw445) (fun _ h9 => h9) rfl dX5_wantInBlock_11 ?_
    refine lv_iload_n hx hb dX5_wantInBlock_14 rfl (lv_at hl 2 rfl) ?_
    obtain ⟨hq52, hrun⟩ := chk9 hrun
    refine va_iald hx hb hK hP 16 14 rfl rfl (ixb_in hq52) dX5_wantInBlock_15 ?_
    obtain ⟨o_53, hc_53, hrun⟩ := bnd9 hrun
    have hPc := hP.sub (ws' := (oX5 (p0a 0) p0a p0k p0w p0l)) [0, 1, 2, 3, 4, 5, 6, 7, 8, 9] rfl
    have hDc := hD.sub (ws' := (oX5 (p0a 0) p0a p0k p0w p0l)) [0, 1, 2, 3, 4, 5, 6, 7, 8, 9] (by decide) rfl
    have hKc := hK.sub (tys' := (tX5 p0k)) [0, 1, 2, 3, 4, 5, 6, 7, 8] rfl
    have hFc := va_free (wc := (oX5 (p0a 0) p0a p0k p0w p0l)) hD hS hA [0, 1, 2, 3, 4, 5, 6, 7, 8, 9] rfl
    refine va_calli (va_runV (As := [.int (p1w 9 (nn p2))]) (rest := []) ⟨hx, hb, hml, hown, hts⟩ (kX5_want l dC dI (p0a := (st0 (p0a 0) p0a)) (p0k := p0k) (p0w := p0w) (p0l := p0l) (p1 := (p1w 9 (nn p2))) (sz := _) (o := o_53) (hrun := hc_53)) (cwV 1 hts (gi_V qw449 qw450 qw451 qw442 (gi_z qw448)) rfl rfl rfl (by decide +kernel) ⟨Nat.le_of_ble_eq_true rfl, Nat.le_of_ble_eq_true rfl⟩) ⟨PRE.blind, va_recv hKc hPc (ci := 7) (q0 := 0) rfl rfl, PRE.of hE hS hFc hPc hKc hDc⟩ rfl rfl hl.1 rfl (lv_room (Nat.le_of_ble_eq_true rfl)) dX5_wantInBlock_16 ⟨(Nat.le_of_ble_eq_true rfl), (Nat.le_of_ble_eq_true rfl)⟩) hS (fun q _ h => hFc q h) hFc (fun r54 u t H locs ht hvm hw hB hz1 hk1 hS => ?_)
    obtain ⟨hP, hD, hK⟩ := JOIN (wr := ((oX1 (p1a 0) p1a p1k p1n p1w p1l) ++ (oX9 (p1a 3) p1_2a p1_2k p1_2n p1_2w))) hP hD hK [0, 1, 2, 3, 4, 5, 6, 7, 8, 9] [10, 11, 12, 13, 14, 15, 16, 17, 18, 19, 20, 21, 22, 23, 24, 25, 26, 27, 28, 29, 30, 31, 32, 33] [9, 10, 11, 12, 13, 14, 15, 16, 17, 18, 19, 20, 21, 22, 23, 24, 25, 26, 27, 28, 29, 30] rfl rfl (by decide) (by decide) rfl hk1 hFc ht hvm hB
    have hP : va_P (dC, dI) cls ((oX5 (p0a 0) p0a p0k (o_53.2) p0l) ++ (oX1 (p1a 0) p1a p1k p1n p1w p1l) ++ (oX9 (p1a 3) p1_2a p1_2k p1_2n p1_2w)) H := hP.sub [24, 25, 26, 27, 28, 29, 30, 31, 32, 33, 0, 1, 2, 3, 4, 5, 6, 7, 8, 9, 10, 11, 12, 13, 14, 15, 16, 17, 18, 19, 20, 21, 22, 23] rfl
    have hD : va_D A ((oX5 (p0a 0) p0a p0k (o_53.2) p0l) ++ (oX1 (p1a 0) p1a p1k p1n p1w p1l) ++ (oX9 (p1a 3) p1_2a p1_2k p1_2n p1_2w)) := hD.sub [24, 25, 26, 27, 28, 29, 30, 31, 32, 33, 0, 1, 2, 3, 4, 5, 6, 7, 8, 9, 10, 11, 12, 13, 14, 15, 16, 17, 18, 19, 20, 21, 22, 23] (by decide) rfl
    have hK : va_K (dC, dI) cls ((tX5 p0k) ++ (tX1 p1k) ++ (tX9 p1_2k)) s := hK.sub [22, 23, 24, 25, 26, 27, 28, 29, 30, 0, 1, 2, 3, 4, 5, 6, 7, 8, 9, 10, 11, 12, 13, 14, 15, 16, 17, 18, 19, 20, 21] rfl
    obtain rfl : r54 = (o_53.1) := hw
    rcases br9 hrun with ⟨hc55, hrun⟩ | ⟨hc55, hrun⟩
    · refine lv_if_eq (tgt := 26) hx hb dX5_wantInBlock_19 (by decide) (fun _ => ?_) (fun c => absurd hc55 c)
      exact J26 (o_53.2) _ _ _ hrun hP hD hK hS (lv_sub hl [0, 1, 2] rfl)
    · refine lv_if_eq (tgt := 26) hx hb dX5_wantInBlock_19 (by decide) (fun c => absurd c hc55) (fun _ => ?_)
      refine lv_iconst (v := 1) hx hb dX5_wantInBlock_22 (by decide) ?_
      refine lv_goto (tgt := 27) hx hb dX5_wantInBlock_23 (by decide) ?_
      exact J27 1 (o_53.2) _ _ _ hrun hP hD hK hS (lv_sub hl [0, 1, 2] rfl)
def fX5_keepUndroppable_J49 (kk17 : Int32 → ST → Option ST) (p1_2n : Nat → Nat) (p1_2w : ST) (v3_17 : Int32) (p0w_49 : ST) : Option ST := (if ixb v3_17 (p1_2n 6) = true then (kk17 (p1_2w 6 (nn v3_17)) p0w_49) else none)
def fX5_keepUndroppable_L17 (p1_2n : Nat → Nat) (p1_2w : ST) : Nat → Int32 → ST → Option ST
  | 0 => fun _ _ => none
  | n_17 + 1 => fun v3_17 p0w_17 => (if v3_17 < 0 then some p0w_17 else (if ixb v3_17 (p1_2n 2) = true then (if (p1_2w 2 (nn v3_17)) = 20 then (if ixb v3_17 (p1_2n 3) = true then ((fX5_want p0w_17 (p1_2w 3 (nn v3_17))).bind fun (o_8 : Int32 × ST) => (fX5_keepUndroppable_J49 (fX5_keepUndroppable_L17 p1_2n p1_2w n_17) p1_2n p1_2w v3_17 (o_8.2))) else none) else (fX5_keepUndroppable_J49 (fX5_keepUndroppable_L17 p1_2n p1_2w n_17) p1_2n p1_2w v3_17 p0w_17)) else none))
def fX5_keepUndroppable_L2 (p1w : ST) (p1_2n : Nat → Nat) (p1_2w : ST) : Nat → Int32 → ST → Option ST
  | 0 => fun _ _ => none
  | n_2 + 1 => fun v2_2 p0w_2 => (if (p1w 0 0) ≤ v2_2 then some p0w_2 else (if ixb v2_2 60 = true then ((fX5_keepUndroppable_L17 p1_2n p1_2w NF (p1w 4 (nn v2_2)) p0w_2).bind fun (o17 : ST) => ((fX5_keepUndroppable_L2 p1w p1_2n p1_2w n_2) (v2_2 + 1) o17)) else none))
def fX5_keepUndroppable (p0w : ST) (p1w : ST) (p1_2n : Nat → Nat) (p1_2w : ST) : Option ST := ((fX5_keepUndroppable_L2 p1w p1_2n p1_2w NF 0 p0w).bind fun (o2 : ST) => some o2)
set_option maxHeartbeats 16000000 in
set_option maxRecDepth 100000 in
theorem kX5_keepUndroppable {zs : Nat × Nat} (l : Launch) (dC : Nat → ClassId) (dI : Nat → Nat → Nat) (p0a : Nat → Nat) (p0k : Nat → ClassId) (p0w : ST) (p0l : SL) (p1a : Nat → Nat) (p1k : Nat → ClassId) (p1n : Nat → Nat) (p1w : ST) (p1l : SL) (p1_2a : Nat → Nat) (p1_2k : Nat → ClassId) (p1_2n : Nat → Nat) (p1_2w : ST) (sz : Nat) (o : ST) (hrun : fX5_keepUndroppable p0w p1w p1_2n p1_2w = some o) : Met l yX5_keepUndroppable (wz yX5_keepUndroppable cX5_keepUndroppable 4 (Option.none : Option Jvm.ClassFile.FieldType)) ({ frames := 1, cells := 0, slots := 0, locals := 22 } : Room) (va_Pc [.ref (p0a 0), .ref (p1a 0)] (PRE zs dC dI ((oX5 (p0a 0) p0a p0k p0w p0l) ++ (oX1 (p1a 0) p1a p1k p1n p1w p1l) ++ (oX9 (p1a 3) p1_2a p1_2k p1_2n p1_2w)) ((tX5 p0k) ++ (tX1 p1k) ++ (tX9 p1_2k)) sz)) (va_Qv (fun (_ : Unit) => True) (fun _ t => POST dC dI ((oX5 (p0a 0) p0a p0k o p0l) ++ (oX1 (p1a 0) p1a p1k p1n p1w p1l) ++ (oX9 (p1a 3) p1_2a p1_2k p1_2n p1_2w)) ((tX5 p0k) ++ (tX1 p1k) ++ (tX9 p1_2k)) (va_A ((oX5 (p0a 0) p0a p0k p0w p0l) ++ (oX1 (p1a 0) p1a p1k p1n p1w p1l) ++ (oX9 (p1a 3) p1_2a p1_2k p1_2n p1_2w)) sz) t) (va_A ((oX5 (p0a 0) p0a p0k p0w p0l) ++ (oX1 (p1a 0) p1a p1k p1n p1w p1l) ++ (oX9 (p1a 3) p1_2a p1_2k p1_2n p1_2w)) sz)) 0 0 (va_A ((oX5 (p0a 0) p0a p0k p0w p0l) ++ (oX1 (p1a 0) p1a p1k p1n p1w p1l) ++ (oX9 (p1a 3) p1_2a p1_2k p1_2n p1_2w)) sz) := by
  refine Met.ofW (cc := cX5_keepUndroppable) (maxL := 4) (ret := (Option.none : Option Jvm.ClassFile.FieldType)) (by decide) rfl ?_
  intro p e s m args below meth c s₁ B hml hv
  obtain ⟨rfl, hsz, hP, hK, hD0, hE⟩ := hv
  have hx := B.exec
  have hb := B.bytes
  have hr := B.returns
  have hts0 := atoms_spec (ws := wz yX5_keepUndroppable cX5_keepUndroppable 4 (Option.none : Option Jvm.ClassFile.FieldType)) B.pre
  have hts : ∀ w ∈ gw, w.before _ s = true := fun w h => hts0 w (List.mem_cons_of_mem _ h)
  have hown : s.vm.findClass RX5 = some m.cls := findClass_of_methodNamed B.named
  have hlocks := B.notSynchronized
  subst hsz
  have hD := hD0.self (sz := s.heap.size)
  refine gQ9 ?_
  intro Q hQ
  generalize hAe : va_A ((oX5 (p0a 0) p0a p0k p0w p0l) ++ (oX1 (p1a 0) p1a p1k p1n p1w p1l) ++ (oX9 (p1a 3) p1_2a p1_2k p1_2n p1_2w)) s.heap.size = A at hD hE hQ
  have hA : ∀ q : Nat, s.heap.size ≤ q → A q := fun q h => by rw [← hAe]; exact Or.inr h
  have hS : va_S A s.heap s.heap [] := va_S.rf
  have hP : va_P (dC, dI) cls ((oX5 (p0a 0) p0a p0k p0w p0l) ++ (oX1 (p1a 0) p1a p1k p1n p1w p1l) ++ (oX9 (p1a 3) p1_2a p1_2k p1_2n p1_2w)) s.heap := hP
  have hl := lv_entry ([.ref (p0a 0), .ref (p1a 0)]) (n := 4) (Nat.le_of_ble_eq_true rfl)
  rw [lg_entry_eq]
  generalize (lg_sl ([.ref (p0a 0), .ref (p1a 0)]) ++ List.replicate (4 - (lg_sl ([.ref (p0a 0), .ref (p1a 0)])).length) Slot.unset).toArray = ls at hl ⊢
  have hl : lv_has ls 4 [(0, .ref (p0a 0)), (1, .ref (p1a 0))] := hl
  obtain ⟨H, hHe⟩ : ∃ H, H = s.heap := ⟨_, rfl⟩
  obtain ⟨locs, hle⟩ : ∃ locs : List Loc, locs = [] := ⟨_, rfl⟩
  rw [← hHe] at hP
  have hS : va_S A s.heap H locs := by rw [hHe, hle]; exact hS
  show W p l e ({ frames := 1, cells := 0, slots := 0, locals := 22 } : Room) s m ([.ref (p0a 0), .ref (p1a 0)] : List Value).toArray below meth c s.heap [] 0 0 Q (F0 m 0 ls [])
  rw [← hle]
  refine wH9 hHe ?_
  unfold fX5_keepUndroppable at hrun
  refine lv_iconst (v := 0) hx hb dX5_keepUndroppable_0 (by decide) ?_
  refine lv_istore_n (lv' := [(2, .int 0), (0, .ref (p0a 0)), (1, .ref (p1a 0))]) hx hb dX5_keepUndroppable_1 rfl hl (by decide) rfl (fun ls hl => ?_)
  have L2 : ∀ (n_2 : Nat) (v2_2 : Int32) (p0w_2 : ST) (o2 : ST) (H : Heap) (locs : List Loc) (ls : Array Slot), (fX5_keepUndroppable_L2 p1w p1_2n p1_2w n_2) v2_2 p0w_2 = some o2 → va_P (dC, dI) cls ((oX5 (p0a 0) p0a p0k p0w_2 p0l) ++ (oX1 (p1a 0) p1a p1k p1n p1w p1l) ++ (oX9 (p1a 3) p1_2a p1_2k p1_2n p1_2w)) H → va_D A ((oX5 (p0a 0) p0a p0k p0w_2 p0l) ++ (oX1 (p1a 0) p1a p1k p1n p1w p1l) ++ (oX9 (p1a 3) p1_2a p1_2k p1_2n p1_2w)) → va_K (dC, dI) cls ((tX5 p0k) ++ (tX1 p1k) ++ (tX9 p1_2k)) s → va_S A s.heap H locs → lv_has ls 4 [(0, .ref (p0a 0)), (1, .ref (p1a 0)), (2, .int v2_2)] → (∀ (H : Heap) (locs : List Loc) (ls : Array Slot), va_P (dC, dI) cls ((oX5 (p0a 0) p0a p0k o2 p0l) ++ (oX1 (p1a 0) p1a p1k p1n p1w p1l) ++ (oX9 (p1a 3) p1_2a p1_2k p1_2n p1_2w)) H → va_D A ((oX5 (p0a 0) p0a p0k o2 p0l) ++ (oX1 (p1a 0) p1a p1k p1n p1w p1l) ++ (oX9 (p1a 3) p1_2a p1_2k p1_2n p1_2w)) → va_K (dC, dI) cls ((tX5 p0k) ++ (tX1 p1k) ++ (tX9 p1_2k)) s → va_S A s.heap H locs → lv_has ls 4 [] → W p l e ({ frames := 1, cells := 0, slots := 0, locals := 22 } : Room) s m ([.ref (p0a 0), .ref (p1a 0)] : List Value).toArray below meth c H locs 0 0 Q (F0 m 68 ls [])) → W p l e ({ frames := 1, cells := 0, slots := 0, locals := 22 } : Room) s m ([.ref (p0a 0), .ref (p1a 0)] : List Value).toArray below meth c H locs 0 0 Q (F0 m 2 ls []) := by
    intro n_2
    induction n_2 with
    | zero => intro v2_2 p0w_2 o2 H locs ls hrun; exact (no9 rfl hrun).elim
    | succ n_2 IH2 =>
      intro v2_2 p0w_2 o2 H locs ls hrun hP hD hK hS hl hk2
      unfold fX5_keepUndroppable_L2 at hrun
      refine lv_iload_n hx hb dX5_keepUndroppable_2 rfl (lv_at hl 2 rfl) ?_
      refine lv_aload_n hx hb dX5_keepUndroppable_3 rfl (lv_at hl 1 rfl) ?_
      refine va_get (D := (dC, dI)) (ci := 4) (v := .int (p1w 0 0)) (C := RX1) (T := TX1) (N := 21) hx hb hts i_X1 hown hK hP 10 rfl rfl 0 (by decide) (hts _ qw430) (fun _ h9 => h9) rfl dX5_keepUndroppable_4 ?_
      rcases br9 hrun with ⟨hc1, hrun⟩ | ⟨hc1, hrun⟩
      · refine lv_icmp_ge (tgt := 68) hx hb dX5_keepUndroppable_7 (by decide) (fun _ => ?_) (fun c => absurd hc1 c)
        obtain rfl := (Option.some.inj hrun)
        exact hk2 _ _ _ hP hD hK hS (lv_sub hl [] rfl)
      · refine lv_icmp_ge (tgt := 68) hx hb dX5_keepUndroppable_7 (by decide) (fun c => absurd c hc1) (fun _ => ?_)
        refine lv_aload_n hx hb dX5_keepUndroppable_10 rfl (lv_at hl 1 rfl) ?_
        refine va_get (D := (dC, dI)) (ci := 4) (v := .ref (p1a 4)) (C := RX1) (T := TX1) (N := 21) hx hb hts i_X1 hown hK hP 10 rfl rfl 3 (by decide) (hts _ qw434) (fun _ h9 => h9) rfl dX5_keepUndroppable_11 ?_
        refine lv_iload_n hx hb dX5_keepUndroppable_14 rfl (lv_at hl 2 rfl) ?_
        obtain ⟨hq2, hrun⟩ := chk9 hrun
        refine va_iald hx hb hK hP 11 9 rfl rfl (ixb_in hq2) dX5_keepUndroppable_15 ?_
        refine lv_istore_n (lv' := [(3, .int (p1w 4 (nn v2_2))), (0, .ref (p0a 0)), (1, .ref (p1a 0)), (2, .int v2_2)]) hx hb dX5_keepUndroppable_16 rfl hl (by decide) rfl (fun ls hl => ?_)
        have L17 : ∀ (n_17 : Nat) (v3_17 : Int32) (p0w_17 : ST) (o17 : ST) (H : Heap) (locs : List Loc) (ls : Array Slot), (fX5_keepUndroppable_L17 p1_2n p1_2w n_17) v3_17 p0w_17 = some o17 → va_P (dC, dI) cls ((oX5 (p0a 0) p0a p0k p0w_17 p0l) ++ (oX1 (p1a 0) p1a p1k p1n p1w p1l) ++ (oX9 (p1a 3) p1_2a p1_2k p1_2n p1_2w)) H → va_D A ((oX5 (p0a 0) p0a p0k p0w_17 p0l) ++ (oX1 (p1a 0) p1a p1k p1n p1w p1l) ++ (oX9 (p1a 3) p1_2a p1_2k p1_2n p1_2w)) → va_K (dC, dI) cls ((tX5 p0k) ++ (tX1 p1k) ++ (tX9 p1_2k)) s → va_S A s.heap H locs → lv_has ls 4 [(0, .ref (p0a 0)), (1, .ref (p1a 0)), (2, .int v2_2), (3, .int v3_17)] → (∀ (H : Heap) (locs : List Loc) (ls : Array Slot), va_P (dC, dI) cls ((oX5 (p0a 0) p0a p0k o17 p0l) ++ (oX1 (p1a 0) p1a p1k p1n p1w p1l) ++ (oX9 (p1a 3) p1_2a p1_2k p1_2n p1_2w)) H → va_D A ((oX5 (p0a 0) p0a p0k o17 p0l) ++ (oX1 (p1a 0) p1a p1k p1n p1w p1l) ++ (oX9 (p1a 3) p1_2a p1_2k p1_2n p1_2w)) → va_K (dC, dI) cls ((tX5 p0k) ++ (tX1 p1k) ++ (tX9 p1_2k)) s → va_S A s.heap H locs → lv_has ls 4 [(0, .ref (p0a 0)), (1, .ref (p1a 0)), (2, .int v2_2)] → W p l e ({ frames := 1, cells := 0, slots := 0, locals := 22 } : Room) s m ([.ref (p0a 0), .ref (p1a 0)] : List Value).toArray below meth c H locs 0 0 Q (F0 m 62 ls [])) → W p l e ({ frames := 1, cells := 0, slots := 0, locals := 22 } : Room) s m ([.ref (p0a 0), .ref (p1a 0)] : List Value).toArray below meth c H locs 0 0 Q (F0 m 17 ls []) := by
          intro n_17
          induction n_17 with
          | zero => intro v3_17 p0w_17 o17 H locs ls hrun; exact (no9 rfl hrun).elim
          | succ n_17 IH17 =>
            intro v3_17 p0w_17 o17 H locs ls hrun hP hD hK hS hl hk17
            unfold fX5_keepUndroppable_L17 at hrun
            refine lv_iload_n hx hb dX5_keepUndroppable_17 rfl (lv_at hl 3 rfl) ?_
            rcases br9 hrun with ⟨hc3, hrun⟩ | ⟨hc3, hrun⟩
            · refine lv_if_lt (tgt := 62) hx hb dX5_keepUndroppable_18 (by decide) (fun _ => ?_) (fun c => absurd hc3 c)
              obtain rfl := (Option.some.inj hrun)
              exact hk17 _ _ _ hP hD hK hS (lv_sub hl [0, 1, 2] rfl)
            · refine lv_if_lt (tgt := 62) hx hb dX5_keepUndroppable_18 (by decide) (fun c => absurd c hc3) (fun _ => ?_)
              refine lv_aload_n hx hb dX5_keepUndroppable_21 rfl (lv_at hl 1 rfl) ?_
              refine va_get (D := (dC, dI)) (ci := 4) (v := .ref (p1a 3)) (C := RX1) (T := TX1) (N := 21) hx hb hts i_X1 hown hK hP 10 rfl rfl 2 (by decide) (hts _ qw435) (fun _ h9 => h9) rfl dX5_keepUndroppable_22 ?_
              refine va_get (D := (dC, dI)) (ci := 3) (v := .ref (p1_2a 2)) (C := RX9) (T := TX9) (N := 6) hx hb hts i_X9 hown hK hP 28 rfl rfl 1 (by decide) (hts _ qw420) (fun _ h9 => h9) rfl dX5_keepUndroppable_25 ?_
              refine lv_iload_n hx hb dX5_keepUndroppable_28 rfl (lv_at hl 3 rfl) ?_
              obtain ⟨hq4, hrun⟩ := chk9 hrun
              refine va_iald hx hb hK hP 29 26 rfl rfl (ixb_in hq4) dX5_keepUndroppable_29 ?_
              refine lv_bipush (v := 20) hx hb dX5_keepUndroppable_30 (by decide) ?_
              have J49 : ∀ (p0w_49 : ST) (H : Heap) (locs : List Loc) (ls : Array Slot), (fX5_keepUndroppable_J49 (fX5_keepUndroppable_L17 p1_2n p1_2w n_17) p1_2n p1_2w v3_17 p0w_49) = some o17 → va_P (dC, dI) cls ((oX5 (p0a 0) p0a p0k p0w_49 p0l) ++ (oX1 (p1a 0) p1a p1k p1n p1w p1l) ++ (oX9 (p1a 3) p1_2a p1_2k p1_2n p1_2w)) H → va_D A ((oX5 (p0a 0) p0a p0k p0w_49 p0l) ++ (oX1 (p1a 0) p1a p1k p1n p1w p1l) ++ (oX9 (p1a 3) p1_2a p1_2k p1_2n p1_2w)) → va_K (dC, dI) cls ((tX5 p0k) ++ (tX1 p1k) ++ (tX9 p1_2k)) s → va_S A s.heap H locs → lv_has ls 4 [(0, .ref (p0a 0)), (1, .ref (p1a 0)), (2, .int v2_2), (3, .int v3_17)] → W p l e ({ frames := 1, cells := 0, slots := 0, locals := 22 } : Room) s m ([.ref (p0a 0), .ref (p1a 0)] : List Value).toArray below meth c H locs 0 0 Q (F0 m 49 ls []) := by
                intro p0w_49 H locs ls hrun hP hD hK hS hl 
                unfold fX5_keepUndroppable_J49 at hrun
                refine lv_aload_n hx hb dX5_keepUndroppable_49 rfl (lv_at hl 1 rfl) ?_
                refine va_get (D := (dC, dI)) (ci := 4) (v := .ref (p1a 3)) (C := RX1) (T := TX1) (N := 21) hx hb hts i_X1 hown hK hP 10 rfl rfl 2 (by decide) (hts _ qw435) (fun _ h9 => h9) rfl dX5_keepUndroppable_50 ?_
                refine va_get (D := (dC, dI)) (ci := 3) (v := .ref (p1_2a 6)) (C := RX9) (T := TX9) (N := 6) hx hb hts i_X9 hown hK hP 28 rfl rfl 5 (by decide) (hts _ qw437) (fun _ h9 => h9) rfl dX5_keepUndroppable_53 ?_
                refine lv_iload_n hx hb dX5_keepUndroppable_56 rfl (lv_at hl 3 rfl) ?_
                obtain ⟨hq5, hrun⟩ := chk9 hrun
                refine va_iald hx hb hK hP 33 30 rfl rfl (ixb_in hq5) dX5_keepUndroppable_57 ?_
                refine lv_istore_n (lv' := [(3, .int (p1_2w 6 (nn v3_17))), (0, .ref (p0a 0)), (1, .ref (p1a 0)), (2, .int v2_2)]) hx hb dX5_keepUndroppable_58 rfl hl (by decide) rfl (fun ls hl => ?_)
                refine lv_goto (tgt := 17) hx hb dX5_keepUndroppable_59 (by decide) ?_
                exact IH17 (p1_2w 6 (nn v3_17)) p0w_49 o17 _ _ _ hrun hP hD hK hS (lv_sub hl [1, 2, 3, 0] rfl) hk17
              rcases br9 hrun with ⟨hc6, hrun⟩ | ⟨hc6, hrun⟩
              · refine lv_icmp_ne (tgt := 49) hx hb dX5_keepUndroppable_32 (by decide) (fun c => absurd hc6 c) (fun _ => ?_)
                refine lv_aload_n hx hb dX5_keepUndroppable_35 rfl (lv_at hl 0 rfl) ?_
                refine lv_aload_n hx hb dX5_keepUndroppable_36 rfl (lv_at hl 1 rfl) ?_
                refine va_get (D := (dC, dI)) (ci := 4) (v := .ref (p1a 3)) (C := RX1) (T := TX1) (N := 21) hx hb hts i_X1 hown hK hP 10 rfl rfl 2 (by decide) (hts _ qw435) (fun _ h9 => h9) rfl dX5_keepUndroppable_37 ?_
                refine va_get (D := (dC, dI)) (ci := 3) (v := .ref (p1_2a 3)) (C := RX9) (T := TX9) (N := 6) hx hb hts i_X9 hown hK hP 28 rfl rfl 2 (by decide) (hts _ qw436) (fun _ h9 => h9) rfl dX5_keepUndroppable_40 ?_
                refine lv_iload_n hx hb dX5_keepUndroppable_43 rfl (lv_at hl 3 rfl) ?_
                obtain ⟨hq7, hrun⟩ := chk9 hrun
                refine va_iald hx hb hK hP 30 27 rfl rfl (ixb_in hq7) dX5_keepUndroppable_44 ?_
                obtain ⟨o_8, hc_8, hrun⟩ := bnd9 hrun
                have hPc := hP.sub (ws' := (oX5 (p0a 0) p0a p0k p0w_17 p0l)) [0, 1, 2, 3, 4, 5, 6, 7, 8, 9] rfl
                have hDc := hD.sub (ws' := (oX5 (p0a 0) p0a p0k p0w_17 p0l)) [0, 1, 2, 3, 4, 5, 6, 7, 8, 9] (by decide) rfl
                have hKc := hK.sub (tys' := (tX5 p0k)) [0, 1, 2, 3, 4, 5, 6, 7, 8] rfl
                have hFc := va_free (wc := (oX5 (p0a 0) p0a p0k p0w_17 p0l)) hD hS hA [0, 1, 2, 3, 4, 5, 6, 7, 8, 9] rfl
                refine va_calli (va_runV (As := [.int (p1_2w 3 (nn v3_17))]) (rest := []) ⟨hx, hb, hml, hown, hts⟩ (kX5_want l dC dI (p0a := (st0 (p0a 0) p0a)) (p0k := p0k) (p0w := p0w_17) (p0l := p0l) (p1 := (p1_2w 3 (nn v3_17))) (sz := _) (o := o_8) (hrun := hc_8)) (cwV 1 hts (gi_V qw449 qw450 qw451 qw442 (gi_z qw448)) rfl rfl rfl (by decide +kernel) ⟨Nat.le_of_ble_eq_true rfl, Nat.le_of_ble_eq_true rfl⟩) ⟨PRE.blind, va_recv hKc hPc (ci := 7) (q0 := 0) rfl rfl, PRE.of hE hS hFc hPc hKc hDc⟩ rfl rfl hl.1 rfl (lv_room (Nat.le_of_ble_eq_true rfl)) dX5_keepUndroppable_45 ⟨(Nat.le_of_ble_eq_true rfl), (Nat.le_of_ble_eq_true rfl)⟩) hS (fun q _ h => hFc q h) hFc (fun r9 u t H locs ht hvm hw hB hz1 hk1 hS => ?_)
                obtain ⟨hP, hD, hK⟩ := JOIN (wr := ((oX1 (p1a 0) p1a p1k p1n p1w p1l) ++ (oX9 (p1a 3) p1_2a p1_2k p1_2n p1_2w))) hP hD hK [0, 1, 2, 3, 4, 5, 6, 7, 8, 9] [10, 11, 12, 13, 14, 15, 16, 17, 18, 19, 20, 21, 22, 23, 24, 25, 26, 27, 28, 29, 30, 31, 32, 33] [9, 10, 11, 12, 13, 14, 15, 16, 17, 18, 19, 20, 21, 22, 23, 24, 25, 26, 27, 28, 29, 30] rfl rfl (by decide) (by decide) rfl hk1 hFc ht hvm hB
                have hP : va_P (dC, dI) cls ((oX5 (p0a 0) p0a p0k (o_8.2) p0l) ++ (oX1 (p1a 0) p1a p1k p1n p1w p1l) ++ (oX9 (p1a 3) p1_2a p1_2k p1_2n p1_2w)) H := hP.sub [24, 25, 26, 27, 28, 29, 30, 31, 32, 33, 0, 1, 2, 3, 4, 5, 6, 7, 8, 9, 10, 11, 12, 13, 14, 15, 16, 17, 18, 19, 20, 21, 22, 23] rfl
                have hD : va_D A ((oX5 (p0a 0) p0a p0k (o_8.2) p0l) ++ (oX1 (p1a 0) p1a p1k p1n p1w p1l) ++ (oX9 (p1a 3) p1_2a p1_2k p1_2n p1_2w)) := hD.sub [24, 25, 26, 27, 28, 29, 30, 31, 32, 33, 0, 1, 2, 3, 4, 5, 6, 7, 8, 9, 10, 11, 12, 13, 14, 15, 16, 17, 18, 19, 20, 21, 22, 23] (by decide) rfl
                have hK : va_K (dC, dI) cls ((tX5 p0k) ++ (tX1 p1k) ++ (tX9 p1_2k)) s := hK.sub [22, 23, 24, 25, 26, 27, 28, 29, 30, 0, 1, 2, 3, 4, 5, 6, 7, 8, 9, 10, 11, 12, 13, 14, 15, 16, 17, 18, 19, 20, 21] rfl
                obtain rfl : r9 = (o_8.1) := hw
                refine lv_pop hx hb dX5_keepUndroppable_48 rfl ?_
                exact J49 (o_8.2) _ _ _ hrun hP hD hK hS (lv_sub hl [0, 1, 2, 3] rfl)
              · refine lv_icmp_ne (tgt := 49) hx hb dX5_keepUndroppable_32 (by decide) (fun _ => ?_) (fun c => absurd c hc6)
                exact J49 p0w_17 _ _ _ hrun hP hD hK hS (lv_sub hl [0, 1, 2, 3] rfl)
        obtain ⟨o17, hc17, hrun⟩ := bnd9 hrun
        refine L17 NF (p1w 4 (nn v2_2)) p0w_2 o17 _ _ _ hc17 hP hD hK hS (lv_sub hl [1, 2, 3, 0] rfl) ?_
        intro H locs ls hP hD hK hS hl
        have hl := hl
        refine lv_iinc (v := (v2_2 + 1)) (lv' := [(2, .int (v2_2 + 1)), (0, .ref (p0a 0)), (1, .ref (p1a 0))]) hx hb dX5_keepUndroppable_62 hl (k := 2) rfl rfl (by decide) rfl (fun ls hl => ?_)
        refine lv_goto (tgt := 2) hx hb dX5_keepUndroppable_65 (by decide) ?_
        exact IH2 (v2_2 + 1) o17 o2 _ _ _ hrun hP hD hK hS (lv_sub hl [1, 2, 0] rfl) hk2
  obtain ⟨o2, hc2, hrun⟩ := bnd9 hrun
  refine L2 NF 0 p0w o2 _ _ _ hc2 hP hD hK hS (lv_sub hl [1, 2, 0] rfl) ?_
  intro H locs ls hP hD hK hS hl
  have hl := hl
  have ho9 : o2 = o := Option.some.inj hrun
  have hP9 : va_P (dC, dI) cls ((oX5 (p0a 0) p0a p0k o p0l) ++ (oX1 (p1a 0) p1a p1k p1n p1w p1l) ++ (oX9 (p1a 3) p1_2a p1_2k p1_2n p1_2w)) H := by first | exact hP | (rw [← ho9]; exact hP)
  have hD9 : va_D A ((oX5 (p0a 0) p0a p0k o p0l) ++ (oX1 (p1a 0) p1a p1k p1n p1w p1l) ++ (oX9 (p1a 3) p1_2a p1_2k p1_2n p1_2w)) := by first | exact hD | (rw [← ho9]; exact hD)
  subst hQ
  exact W.vret hx hb hr (fun t ht hW => ⟨⟨(), rfl, trivial, ⟨by rw [ht]; exact hP9, va_K.moved hW.alike hK, hD9⟩⟩, hS.F ht⟩) hS.2.2 dX5_keepUndroppable_68
def fX5_dropUnwanted_J54 (kk37 : Int32 → Int32 → ST → Option (Int32 × ST)) (v4_37 : Int32) (o_6 : Int32 × ST) (v2_54 : Int32) : Option (Int32 × ST) := (kk37 v2_54 (v4_37 + (-1)) (o_6.2))
def fX5_dropUnwanted_L37 (p1n : Nat → Nat) (p1w : ST) (p1_2n : Nat → Nat) (p1_2w : ST) : Nat → Int32 → Int32 → ST → Option (Int32 × ST)
  | 0 => fun _ _ _ => none
  | n_37 + 1 => fun v2_37 v4_37 p0w_37 => (if v4_37 < 0 then some (v2_37, p0w_37) else ((fX5_wantInBlock p0w_37 p1n p1w v4_37 p1_2n p1_2w).bind fun (o_6 : Int32 × ST) => (if (o_6.1) = 0 then (fX5_dropUnwanted_J54 (fX5_dropUnwanted_L37 p1n p1w p1_2n p1_2w n_37) v4_37 o_6 v2_37) else (fX5_dropUnwanted_J54 (fX5_dropUnwanted_L37 p1n p1w p1_2n p1_2w n_37) v4_37 o_6 1))))
def fX5_dropUnwanted_L17 (p1n : Nat → Nat) (p1w : ST) (p1_2n : Nat → Nat) (p1_2w : ST) : Nat → Int32 → Int32 → ST → Option ST
  | 0 => fun _ _ _ => none
  | n_17 + 1 => fun v2_17 v3_17 p0w_17 => (if v2_17 = 0 then some p0w_17 else (if 1000000 ≤ v3_17 then some p0w_17 else ((fX5_dropUnwanted_L37 p1n p1w p1_2n p1_2w NF 0 ((p1w 0 0) - 1) p0w_17).bind fun (o37 : Int32 × ST) => ((fX5_dropUnwanted_L17 p1n p1w p1_2n p1_2w n_17) (o37.1) (v3_17 + 1) (o37.2)))))
def fX5_dropUnwanted (p0w : ST) (p1n : Nat → Nat) (p1w : ST) (p1_2n : Nat → Nat) (p1_2w : ST) : Option (Int32 × ST × ST × ST) := ((fX5_findGivers p0w p1n p1w p1_2n p1_2w).bind fun (o_1 : ST) => ((fJ7_fill_53178 250 (o_1 7) 1).bind fun (o_2 : RI) => ((fX5_dropUnwanted_L17 p1n p1w p1_2n p1_2w NF 1 0 (srw o_1 7 o_2)).bind fun (o17 : ST) => ((fX5_keepUndroppable o17 p1w p1_2n p1_2w).bind fun (o_9 : ST) => ((fX1_countValues p1n p1w p1_2n p1_2w).bind fun (o_10 : Int32) => ((fX1_leaveOut p1n p1w 250 (o_9 7) p1_2n p1_2w).bind fun (o_12 : ST × ST) => ((fX1_countValues p1n (o_12.1) p1_2n (o_12.2)).bind fun (o_13 : Int32) => some ((o_10 - o_13), o_9, (o_12.1), (o_12.2)))))))))
set_option maxHeartbeats 16000000 in
set_option maxRecDepth 100000 in
theorem kX5_dropUnwanted {zs : Nat × Nat} (l : Launch) (dC : Nat → ClassId) (dI : Nat → Nat → Nat) (p0a : Nat → Nat) (p0k : Nat → ClassId) (p0w : ST) (p0l : SL) (p1a : Nat → Nat) (p1k : Nat → ClassId) (p1n : Nat → Nat) (p1w : ST) (p1l : SL) (p1_2a : Nat → Nat) (p1_2k : Nat → ClassId) (p1_2n : Nat → Nat) (p1_2w : ST) (sz : Nat) (o : Int32 × ST × ST × ST) (hrun : fX5_dropUnwanted p0w p1n p1w p1_2n p1_2w = some o) : Met l yX5_dropUnwanted (wz yX5_dropUnwanted cX5_dropUnwanted 5 (Option.some Jvm.ClassFile.FieldType.int)) ({ frames := 4, cells := 0, slots := 0, locals := 89 } : Room) (va_Pc [.ref (p0a 0), .ref (p1a 0)] (PRE zs dC dI ((oX5 (p0a 0) p0a p0k p0w p0l) ++ (oX1 (p1a 0) p1a p1k p1n p1w p1l) ++ (oX9 (p1a 3) p1_2a p1_2k p1_2n p1_2w)) ((tX5 p0k) ++ (tX1 p1k) ++ (tX9 p1_2k)) sz)) (va_Qi (fun (r : Int32) (_ : Unit) => r = (o.1)) (fun _ t => POST dC dI ((oX5 (p0a 0) p0a p0k (o.2.1) p0l) ++ (oX1 (p1a 0) p1a p1k p1n (o.2.2.1) p1l) ++ (oX9 (p1a 3) p1_2a p1_2k p1_2n (o.2.2.2))) ((tX5 p0k) ++ (tX1 p1k) ++ (tX9 p1_2k)) (va_A ((oX5 (p0a 0) p0a p0k p0w p0l) ++ (oX1 (p1a 0) p1a p1k p1n p1w p1l) ++ (oX9 (p1a 3) p1_2a p1_2k p1_2n p1_2w)) sz) t) (va_A ((oX5 (p0a 0) p0a p0k p0w p0l) ++ (oX1 (p1a 0) p1a p1k p1n p1w p1l) ++ (oX9 (p1a 3) p1_2a p1_2k p1_2n p1_2w)) sz)) 0 0 (va_A ((oX5 (p0a 0) p0a p0k p0w p0l) ++ (oX1 (p1a 0) p1a p1k p1n p1w p1l) ++ (oX9 (p1a 3) p1_2a p1_2k p1_2n p1_2w)) sz) := by
  refine Met.ofW (cc := cX5_dropUnwanted) (maxL := 5) (ret := (Option.some Jvm.ClassFile.FieldType.int)) (by decide) rfl ?_
  intro p e s m args below meth c s₁ B hml hv
  obtain ⟨rfl, hsz, hP, hK, hD0, hE⟩ := hv
  have hx := B.exec
  have hb := B.bytes
  have hr := B.returns
  have hts0 := atoms_spec (ws := wz yX5_dropUnwanted cX5_dropUnwanted 5 (Option.some Jvm.ClassFile.FieldType.int)) B.pre
  have hts : ∀ w ∈ gw, w.before _ s = true := fun w h => hts0 w (List.mem_cons_of_mem _ h)
  have hown : s.vm.findClass RX5 = some m.cls := findClass_of_methodNamed B.named
  have hlocks := B.notSynchronized
  subst hsz
  have hD := hD0.self (sz := s.heap.size)
  refine gQ9 ?_
  intro Q hQ
  generalize hAe : va_A ((oX5 (p0a 0) p0a p0k p0w p0l) ++ (oX1 (p1a 0) p1a p1k p1n p1w p1l) ++ (oX9 (p1a 3) p1_2a p1_2k p1_2n p1_2w)) s.heap.size = A at hD hE hQ
  have hA : ∀ q : Nat, s.heap.size ≤ q → A q := fun q h => by rw [← hAe]; exact Or.inr h
  have hS : va_S A s.heap s.heap [] := va_S.rf
  have hP : va_P (dC, dI) cls ((oX5 (p0a 0) p0a p0k p0w p0l) ++ (oX1 (p1a 0) p1a p1k p1n p1w p1l) ++ (oX9 (p1a 3) p1_2a p1_2k p1_2n p1_2w)) s.heap := hP
  have hl := lv_entry ([.ref (p0a 0), .ref (p1a 0)]) (n := 5) (Nat.le_of_ble_eq_true rfl)
  rw [lg_entry_eq]
  generalize (lg_sl ([.ref (p0a 0), .ref (p1a 0)]) ++ List.replicate (5 - (lg_sl ([.ref (p0a 0), .ref (p1a 0)])).length) Slot.unset).toArray = ls at hl ⊢
  have hl : lv_has ls 5 [(0, .ref (p0a 0)), (1, .ref (p1a 0))] := hl
  obtain ⟨H, hHe⟩ : ∃ H, H = s.heap := ⟨_, rfl⟩
  obtain ⟨locs, hle⟩ : ∃ locs : List Loc, locs = [] := ⟨_, rfl⟩
  rw [← hHe] at hP
  have hS : va_S A s.heap H locs := by rw [hHe, hle]; exact hS
  show W p l e ({ frames := 4, cells := 0, slots := 0, locals := 89 } : Room) s m ([.ref (p0a 0), .ref (p1a 0)] : List Value).toArray below meth c s.heap [] 0 0 Q (F0 m 0 ls [])
  rw [← hle]
  refine wH9 hHe ?_
  unfold fX5_dropUnwanted at hrun
  refine lv_aload_n hx hb dX5_dropUnwanted_0 rfl (lv_at hl 0 rfl) ?_
  refine lv_aload_n hx hb dX5_dropUnwanted_1 rfl (lv_at hl 1 rfl) ?_
  obtain ⟨o_1, hc_1, hrun⟩ := bnd9 hrun
  have hPc := hP.sub (ws' := ((oX5 (p0a 0) p0a p0k p0w p0l) ++ (oX1 (p1a 0) p1a p1k p1n p1w p1l) ++ (oX9 (p1a 3) p1_2a p1_2k p1_2n p1_2w))) [0, 1, 2, 3, 4, 5, 6, 7, 8, 9, 10, 11, 12, 13, 14, 15, 16, 17, 18, 19, 20, 21, 22, 23, 24, 25, 26, 27, 28, 29, 30, 31, 32, 33] rfl
  have hDc := hD.sub (ws' := ((oX5 (p0a 0) p0a p0k p0w p0l) ++ (oX1 (p1a 0) p1a p1k p1n p1w p1l) ++ (oX9 (p1a 3) p1_2a p1_2k p1_2n p1_2w))) [0, 1, 2, 3, 4, 5, 6, 7, 8, 9, 10, 11, 12, 13, 14, 15, 16, 17, 18, 19, 20, 21, 22, 23, 24, 25, 26, 27, 28, 29, 30, 31, 32, 33] (by decide) rfl
  have hKc := hK.sub (tys' := ((tX5 p0k) ++ (tX1 p1k) ++ (tX9 p1_2k))) [0, 1, 2, 3, 4, 5, 6, 7, 8, 9, 10, 11, 12, 13, 14, 15, 16, 17, 18, 19, 20, 21, 22, 23, 24, 25, 26, 27, 28, 29, 30] rfl
  have hFc := va_free (wc := ((oX5 (p0a 0) p0a p0k p0w p0l) ++ (oX1 (p1a 0) p1a p1k p1n p1w p1l) ++ (oX9 (p1a 3) p1_2a p1_2k p1_2n p1_2w))) hD hS hA [0, 1, 2, 3, 4, 5, 6, 7, 8, 9, 10, 11, 12, 13, 14, 15, 16, 17, 18, 19, 20, 21, 22, 23, 24, 25, 26, 27, 28, 29, 30, 31, 32, 33] rfl
  refine va_callv (va_runV (As := [.ref (p1a 0)]) (rest := []) ⟨hx, hb, hml, hown, hts⟩ (kX5_findGivers l dC dI (p0a := (st0 (p0a 0) p0a)) (p0k := p0k) (p0w := p0w) (p0l := p0l) (p1a := (st0 (p1a 0) p1a)) (p1k := p1k) (p1n := p1n) (p1w := p1w) (p1l := p1l) (p1_2a := p1_2a) (p1_2k := p1_2k) (p1_2n := p1_2n) (p1_2w := p1_2w) (sz := _) (o := o_1) (hrun := hc_1)) (cwV 1 hts (gi_V qw439 qw440 qw441 qw442 (gi_z qw438)) rfl rfl rfl (by decide +kernel) ⟨Nat.le_of_ble_eq_true rfl, Nat.le_of_ble_eq_true rfl⟩) ⟨PRE.blind, va_recv hKc hPc (ci := 7) (q0 := 0) rfl rfl, PRE.of hE hS hFc hPc hKc hDc⟩ rfl rfl hl.1 rfl (lv_room (Nat.le_of_ble_eq_true rfl)) dX5_dropUnwanted_2 ⟨(Nat.le_of_ble_eq_true rfl), (Nat.le_of_ble_eq_true rfl)⟩) hS (fun q _ h => hFc q h) hFc (fun u t H locs ht hvm hw hB hz1 hk1 hS => ?_)
  obtain ⟨hP, hD, hK⟩ := JOIN (wr := ([] : va_W)) hP hD hK [0, 1, 2, 3, 4, 5, 6, 7, 8, 9, 10, 11, 12, 13, 14, 15, 16, 17, 18, 19, 20, 21, 22, 23, 24, 25, 26, 27, 28, 29, 30, 31, 32, 33] [] [] rfl rfl (by decide) (by decide) rfl hk1 hFc ht hvm hB
  have hP : va_P (dC, dI) cls ((oX5 (p0a 0) p0a p0k o_1 p0l) ++ (oX1 (p1a 0) p1a p1k p1n p1w p1l) ++ (oX9 (p1a 3) p1_2a p1_2k p1_2n p1_2w)) H := hP.sub [0, 1, 2, 3, 4, 5, 6, 7, 8, 9, 10, 11, 12, 13, 14, 15, 16, 17, 18, 19, 20, 21, 22, 23, 24, 25, 26, 27, 28, 29, 30, 31, 32, 33] rfl
  have hD : va_D A ((oX5 (p0a 0) p0a p0k o_1 p0l) ++ (oX1 (p1a 0) p1a p1k p1n p1w p1l) ++ (oX9 (p1a 3) p1_2a p1_2k p1_2n p1_2w)) := hD.sub [0, 1, 2, 3, 4, 5, 6, 7, 8, 9, 10, 11, 12, 13, 14, 15, 16, 17, 18, 19, 20, 21, 22, 23, 24, 25, 26, 27, 28, 29, 30, 31, 32, 33] (by decide) rfl
  have hK : va_K (dC, dI) cls ((tX5 p0k) ++ (tX1 p1k) ++ (tX9 p1_2k)) s := hK.sub [0, 1, 2, 3, 4, 5, 6, 7, 8, 9, 10, 11, 12, 13, 14, 15, 16, 17, 18, 19, 20, 21, 22, 23, 24, 25, 26, 27, 28, 29, 30] rfl
  refine lv_aload_n hx hb dX5_dropUnwanted_5 rfl (lv_at hl 0 rfl) ?_
  refine va_get (D := (dC, dI)) (ci := 7) (v := .ref (p0a 7)) (C := RX5) (T := TX5) (N := 12) hx hb hts i_X5 hown hK hP 0 rfl rfl 6 (by decide) (hts _ qw443) (fun _ h9 => h9) rfl dX5_dropUnwanted_6 ?_
  refine lv_iconst (v := 1) hx hb dX5_dropUnwanted_9 (by decide) ?_
  obtain ⟨o_2, hc_2, hrun⟩ := bnd9 hrun
  have hPc := hP.sub (ws' := [((p0a 7), .inl ((p0k 7), 250, .inl (o_1 7)))]) [6] rfl
  have hDc := hD.sub (ws' := [((p0a 7), .inl ((p0k 7), 250, .inl (o_1 7)))]) [6] (by decide) rfl
  have hKc := hK.sub (tys' := [((p0k 7), .int)]) [5] rfl
  have hFc := va_free (wc := [((p0a 7), .inl ((p0k 7), 250, .inl (o_1 7)))]) hD hS hA [6] rfl
  refine va_callv (va_runS (As := [.ref (p0a 7), .int 1]) (rest := []) ⟨hx, hb, hml, hown, hts⟩ (kJ7_fill_53178 l dC dI (p0a := (p0a 7)) (p0k := (p0k 7)) (p0n := 250) (p0f := (o_1 7)) (p1 := 1) (sz := _) (o := o_2) (hrun := hc_2)) (va_cwS 2 hts (gi_S qw428 qw218 qw109 (gi_z qw216)) rfl rfl rfl (by decide +kernel) ⟨Nat.le_of_ble_eq_true rfl, Nat.le_of_ble_eq_true rfl⟩) ⟨PRE.blind, PRE.of hE hS hFc hPc hKc hDc⟩ rfl rfl hl.1 rfl (lv_room (Nat.le_of_ble_eq_true rfl)) dX5_dropUnwanted_10 ⟨(Nat.le_of_ble_eq_true rfl), (Nat.le_of_ble_eq_true rfl)⟩) hS (fun q _ h => hFc q h) hFc (fun u t H locs ht hvm hw hB hz1 hk1 hS => ?_)
  obtain ⟨hP, hD, hK⟩ := JOIN (wr := ([((p0a 0), .inr (7, [.ref (p0a 1), .ref (p0a 2), .ref (p0a 3), .ref (p0a 4), .ref (p0a 5), .ref (p0a 6), .ref (p0a 7), .long (p0l 0 7), .ref (p0a 9), .ref (p0a 10), .int (o_1 0 10), .ref (p0a 12)])), ((p0a 2), .inl ((p0k 2), 250, .inl (o_1 2))), ((p0a 3), .inl ((p0k 3), 250, .inl (o_1 3))), ((p0a 4), .inl ((p0k 4), 250, .inl (o_1 4))), ((p0a 5), .inl ((p0k 5), 250, .inl (o_1 5))), ((p0a 6), .inl ((p0k 6), 250, .inl (o_1 6))), ((p0a 9), .inl ((p0k 9), 250, .inl (o_1 9))), ((p0a 10), .inl ((p0k 10), 250, .inl (o_1 10))), ((p0a 12), .inl ((p0k 12), 60, .inl (o_1 12)))] ++ (oX1 (p1a 0) p1a p1k p1n p1w p1l) ++ (oX9 (p1a 3) p1_2a p1_2k p1_2n p1_2w))) hP hD hK [6] [0, 1, 2, 3, 4, 5, 7, 8, 9, 10, 11, 12, 13, 14, 15, 16, 17, 18, 19, 20, 21, 22, 23, 24, 25, 26, 27, 28, 29, 30, 31, 32, 33] [0, 1, 2, 3, 4, 6, 7, 8, 9, 10, 11, 12, 13, 14, 15, 16, 17, 18, 19, 20, 21, 22, 23, 24, 25, 26, 27, 28, 29, 30] rfl rfl (by decide) (by decide) rfl hk1 hFc ht hvm hB
  have hP : va_P (dC, dI) cls ((oX5 (p0a 0) p0a p0k (srw o_1 7 o_2) p0l) ++ (oX1 (p1a 0) p1a p1k p1n p1w p1l) ++ (oX9 (p1a 3) p1_2a p1_2k p1_2n p1_2w)) H := hP.sub [0, 1, 2, 3, 4, 5, 33, 6, 7, 8, 9, 10, 11, 12, 13, 14, 15, 16, 17, 18, 19, 20, 21, 22, 23, 24, 25, 26, 27, 28, 29, 30, 31, 32] rfl
  have hD : va_D A ((oX5 (p0a 0) p0a p0k (srw o_1 7 o_2) p0l) ++ (oX1 (p1a 0) p1a p1k p1n p1w p1l) ++ (oX9 (p1a 3) p1_2a p1_2k p1_2n p1_2w)) := hD.sub [0, 1, 2, 3, 4, 5, 33, 6, 7, 8, 9, 10, 11, 12, 13, 14, 15, 16, 17, 18, 19, 20, 21, 22, 23, 24, 25, 26, 27, 28, 29, 30, 31, 32] (by decide) rfl
  have hK : va_K (dC, dI) cls ((tX5 p0k) ++ (tX1 p1k) ++ (tX9 p1_2k)) s := hK.sub [0, 1, 2, 3, 4, 30, 5, 6, 7, 8, 9, 10, 11, 12, 13, 14, 15, 16, 17, 18, 19, 20, 21, 22, 23, 24, 25, 26, 27, 28, 29] rfl
  refine lv_iconst (v := 1) hx hb dX5_dropUnwanted_13 (by decide) ?_
  refine lv_istore_n (lv' := [(2, .int 1), (0, .ref (p0a 0)), (1, .ref (p1a 0))]) hx hb dX5_dropUnwanted_14 rfl hl (by decide) rfl (fun ls hl => ?_)
  refine lv_iconst (v := 0) hx hb dX5_dropUnwanted_15 (by decide) ?_
  refine lv_istore_n (lv' := [(3, .int 0), (2, .int 1), (0, .ref (p0a 0)), (1, .ref (p1a 0))]) hx hb dX5_dropUnwanted_16 rfl hl (by decide) rfl (fun ls hl => ?_)
  have L17 : ∀ (n_17 : Nat) (v2_17 : Int32) (v3_17 : Int32) (p0w_17 : ST) (o17 : ST) (H : Heap) (locs : List Loc) (ls : Array Slot), (fX5_dropUnwanted_L17 p1n p1w p1_2n p1_2w n_17) v2_17 v3_17 p0w_17 = some o17 → va_P (dC, dI) cls ((oX5 (p0a 0) p0a p0k p0w_17 p0l) ++ (oX1 (p1a 0) p1a p1k p1n p1w p1l) ++ (oX9 (p1a 3) p1_2a p1_2k p1_2n p1_2w)) H → va_D A ((oX5 (p0a 0) p0a p0k p0w_17 p0l) ++ (oX1 (p1a 0) p1a p1k p1n p1w p1l) ++ (oX9 (p1a 3) p1_2a p1_2k p1_2n p1_2w)) → va_K (dC, dI) cls ((tX5 p0k) ++ (tX1 p1k) ++ (tX9 p1_2k)) s → va_S A s.heap H locs → lv_has ls 5 [(0, .ref (p0a 0)), (1, .ref (p1a 0)), (2, .int v2_17), (3, .int v3_17)] → (∀ (H : Heap) (locs : List Loc) (ls : Array Slot), va_P (dC, dI) cls ((oX5 (p0a 0) p0a p0k o17 p0l) ++ (oX1 (p1a 0) p1a p1k p1n p1w p1l) ++ (oX9 (p1a 3) p1_2a p1_2k p1_2n p1_2w)) H → va_D A ((oX5 (p0a 0) p0a p0k o17 p0l) ++ (oX1 (p1a 0) p1a p1k p1n p1w p1l) ++ (oX9 (p1a 3) p1_2a p1_2k p1_2n p1_2w)) → va_K (dC, dI) cls ((tX5 p0k) ++ (tX1 p1k) ++ (tX9 p1_2k)) s → va_S A s.heap H locs → lv_has ls 5 [(0, .ref (p0a 0)), (1, .ref (p1a 0))] → W p l e ({ frames := 4, cells := 0, slots := 0, locals := 89 } : Room) s m ([.ref (p0a 0), .ref (p1a 0)] : List Value).toArray below meth c H locs 0 0 Q (F0 m 66 ls [])) → W p l e ({ frames := 4, cells := 0, slots := 0, locals := 89 } : Room) s m ([.ref (p0a 0), .ref (p1a 0)] : List Value).toArray below meth c H locs 0 0 Q (F0 m 17 ls []) := by
    intro n_17
    induction n_17 with
    | zero => intro v2_17 v3_17 p0w_17 o17 H locs ls hrun; exact (no9 rfl hrun).elim
    | succ n_17 IH17 =>
      intro v2_17 v3_17 p0w_17 o17 H locs ls hrun hP hD hK hS hl hk17
      unfold fX5_dropUnwanted_L17 at hrun
      refine lv_iload_n hx hb dX5_dropUnwanted_17 rfl (lv_at hl 2 rfl) ?_
      rcases br9 hrun with ⟨hc3, hrun⟩ | ⟨hc3, hrun⟩
      · refine lv_if_eq (tgt := 66) hx hb dX5_dropUnwanted_18 (by decide) (fun _ => ?_) (fun c => absurd hc3 c)
        obtain rfl := (Option.some.inj hrun)
        exact hk17 _ _ _ hP hD hK hS (lv_sub hl [0, 1] rfl)
      · refine lv_if_eq (tgt := 66) hx hb dX5_dropUnwanted_18 (by decide) (fun c => absurd c hc3) (fun _ => ?_)
        refine lv_iload_n hx hb dX5_dropUnwanted_21 rfl (lv_at hl 3 rfl) ?_
        refine lv_ldc (v := 1000000) hx hb hown (hts _ qw444) dX5_dropUnwanted_22 ?_
        rcases br9 hrun with ⟨hc4, hrun⟩ | ⟨hc4, hrun⟩
        · refine lv_icmp_ge (tgt := 66) hx hb dX5_dropUnwanted_24 (by decide) (fun _ => ?_) (fun c => absurd hc4 c)
          obtain rfl := (Option.some.inj hrun)
          exact hk17 _ _ _ hP hD hK hS (lv_sub hl [0, 1] rfl)
        · refine lv_icmp_ge (tgt := 66) hx hb dX5_dropUnwanted_24 (by decide) (fun c => absurd c hc4) (fun _ => ?_)
          refine lv_iconst (v := 0) hx hb dX5_dropUnwanted_27 (by decide) ?_
          refine lv_istore_n (lv' := [(2, .int 0), (0, .ref (p0a 0)), (1, .ref (p1a 0)), (3, .int v3_17)]) hx hb dX5_dropUnwanted_28 rfl hl (by decide) rfl (fun ls hl => ?_)
          refine lv_aload_n hx hb dX5_dropUnwanted_29 rfl (lv_at hl 2 rfl) ?_
          refine va_get (D := (dC, dI)) (ci := 4) (v := .int (p1w 0 0)) (C := RX1) (T := TX1) (N := 21) hx hb hts i_X1 hown hK hP 10 rfl rfl 0 (by decide) (hts _ qw430) (fun _ h9 => h9) rfl dX5_dropUnwanted_30 ?_
          refine lv_iconst (v := 1) hx hb dX5_dropUnwanted_33 (by decide) ?_
          refine lv_isub hx hb dX5_dropUnwanted_34 ?_
          refine lv_istore (lv' := [(4, .int ((p1w 0 0) - 1)), (2, .int 0), (0, .ref (p0a 0)), (1, .ref (p1a 0)), (3, .int v3_17)]) hx hb dX5_dropUnwanted_35 hl (by decide) rfl (fun ls hl => ?_)
          have L37 : ∀ (n_37 : Nat) (v2_37 : Int32) (v4_37 : Int32) (p0w_37 : ST) (o37 : Int32 × ST) (H : Heap) (locs : List Loc) (ls : Array Slot), (fX5_dropUnwanted_L37 p1n p1w p1_2n p1_2w n_37) v2_37 v4_37 p0w_37 = some o37 → va_P (dC, dI) cls ((oX5 (p0a 0) p0a p0k p0w_37 p0l) ++ (oX1 (p1a 0) p1a p1k p1n p1w p1l) ++ (oX9 (p1a 3) p1_2a p1_2k p1_2n p1_2w)) H → va_D A ((oX5 (p0a 0) p0a p0k p0w_37 p0l) ++ (oX1 (p1a 0) p1a p1k p1n p1w p1l) ++ (oX9 (p1a 3) p1_2a p1_2k p1_2n p1_2w)) → va_K (dC, dI) cls ((tX5 p0k) ++ (tX1 p1k) ++ (tX9 p1_2k)) s → va_S A s.heap H locs → lv_has ls 5 [(0, .ref (p0a 0)), (1, .ref (p1a 0)), (2, .int v2_37), (3, .int v3_17), (4, .int v4_37)] → (∀ (H : Heap) (locs : List Loc) (ls : Array Slot), va_P (dC, dI) cls ((oX5 (p0a 0) p0a p0k (o37.2) p0l) ++ (oX1 (p1a 0) p1a p1k p1n p1w p1l) ++ (oX9 (p1a 3) p1_2a p1_2k p1_2n p1_2w)) H → va_D A ((oX5 (p0a 0) p0a p0k (o37.2) p0l) ++ (oX1 (p1a 0) p1a p1k p1n p1w p1l) ++ (oX9 (p1a 3) p1_2a p1_2k p1_2n p1_2w)) → va_K (dC, dI) cls ((tX5 p0k) ++ (tX1 p1k) ++ (tX9 p1_2k)) s → va_S A s.heap H locs → lv_has ls 5 [(0, .ref (p0a 0)), (1, .ref (p1a 0)), (2, .int (o37.1)), (3, .int v3_17)] → W p l e ({ frames := 4, cells := 0, slots := 0, locals := 89 } : Room) s m ([.ref (p0a 0), .ref (p1a 0)] : List Value).toArray below meth c H locs 0 0 Q (F0 m 60 ls [])) → W p l e ({ frames := 4, cells := 0, slots := 0, locals := 89 } : Room) s m ([.ref (p0a 0), .ref (p1a 0)] : List Value).toArray below meth c H locs 0 0 Q (F0 m 37 ls []) := by
            intro n_37
            induction n_37 with
            | zero => intro v2_37 v4_37 p0w_37 o37 H locs ls hrun; exact (no9 rfl hrun).elim
            | succ n_37 IH37 =>
              intro v2_37 v4_37 p0w_37 o37 H locs ls hrun hP hD hK hS hl hk37
              unfold fX5_dropUnwanted_L37 at hrun
              refine lv_iload hx hb dX5_dropUnwanted_37 (lv_at hl 4 rfl) ?_
              rcases br9 hrun with ⟨hc5, hrun⟩ | ⟨hc5, hrun⟩
              · refine lv_if_lt (tgt := 60) hx hb dX5_dropUnwanted_39 (by decide) (fun _ => ?_) (fun c => absurd hc5 c)
                obtain rfl := (Option.some.inj hrun)
                exact hk37 _ _ _ hP hD hK hS (lv_sub hl [0, 1, 2, 3] rfl)
              · refine lv_if_lt (tgt := 60) hx hb dX5_dropUnwanted_39 (by decide) (fun c => absurd c hc5) (fun _ => ?_)
                refine lv_aload_n hx hb dX5_dropUnwanted_42 rfl (lv_at hl 0 rfl) ?_
                refine lv_aload_n hx hb dX5_dropUnwanted_43 rfl (lv_at hl 1 rfl) ?_
                refine lv_iload hx hb dX5_dropUnwanted_44 (lv_at hl 4 rfl) ?_
                obtain ⟨o_6, hc_6, hrun⟩ := bnd9 hrun
                have hPc := hP.sub (ws' := ((oX5 (p0a 0) p0a p0k p0w_37 p0l) ++ (oX1 (p1a 0) p1a p1k p1n p1w p1l) ++ (oX9 (p1a 3) p1_2a p1_2k p1_2n p1_2w))) [0, 1, 2, 3, 4, 5, 6, 7, 8, 9, 10, 11, 12, 13, 14, 15, 16, 17, 18, 19, 20, 21, 22, 23, 24, 25, 26, 27, 28, 29, 30, 31, 32, 33] rfl
                have hDc := hD.sub (ws' := ((oX5 (p0a 0) p0a p0k p0w_37 p0l) ++ (oX1 (p1a 0) p1a p1k p1n p1w p1l) ++ (oX9 (p1a 3) p1_2a p1_2k p1_2n p1_2w))) [0, 1, 2, 3, 4, 5, 6, 7, 8, 9, 10, 11, 12, 13, 14, 15, 16, 17, 18, 19, 20, 21, 22, 23, 24, 25, 26, 27, 28, 29, 30, 31, 32, 33] (by decide) rfl
                have hKc := hK.sub (tys' := ((tX5 p0k) ++ (tX1 p1k) ++ (tX9 p1_2k))) [0, 1, 2, 3, 4, 5, 6, 7, 8, 9, 10, 11, 12, 13, 14, 15, 16, 17, 18, 19, 20, 21, 22, 23, 24, 25, 26, 27, 28, 29, 30] rfl
                have hFc := va_free (wc := ((oX5 (p0a 0) p0a p0k p0w_37 p0l) ++ (oX1 (p1a 0) p1a p1k p1n p1w p1l) ++ (oX9 (p1a 3) p1_2a p1_2k p1_2n p1_2w))) hD hS hA [0, 1, 2, 3, 4, 5, 6, 7, 8, 9, 10, 11, 12, 13, 14, 15, 16, 17, 18, 19, 20, 21, 22, 23, 24, 25, 26, 27, 28, 29, 30, 31, 32, 33] rfl
                refine va_calli (va_runV (As := [.ref (p1a 0), .int v4_37]) (rest := []) ⟨hx, hb, hml, hown, hts⟩ (kX5_wantInBlock l dC dI (p0a := (st0 (p0a 0) p0a)) (p0k := p0k) (p0w := p0w_37) (p0l := p0l) (p1a := (st0 (p1a 0) p1a)) (p1k := p1k) (p1n := p1n) (p1w := p1w) (p1l := p1l) (p2 := v4_37) (p1_2a := p1_2a) (p1_2k := p1_2k) (p1_2n := p1_2n) (p1_2w := p1_2w) (sz := _) (o := o_6) (hrun := hc_6)) (cwV 2 hts (gi_V qw473 qw474 qw475 qw442 (gi_z qw472)) rfl rfl rfl (by decide +kernel) ⟨Nat.le_of_ble_eq_true rfl, Nat.le_of_ble_eq_true rfl⟩) ⟨PRE.blind, va_recv hKc hPc (ci := 7) (q0 := 0) rfl rfl, PRE.of hE hS hFc hPc hKc hDc⟩ rfl rfl hl.1 rfl (lv_room (Nat.le_of_ble_eq_true rfl)) dX5_dropUnwanted_46 ⟨(Nat.le_of_ble_eq_true rfl), (Nat.le_of_ble_eq_true rfl)⟩) hS (fun q _ h => hFc q h) hFc (fun r7 u t H locs ht hvm hw hB hz1 hk1 hS => ?_)
                obtain ⟨hP, hD, hK⟩ := JOIN (wr := ([] : va_W)) hP hD hK [0, 1, 2, 3, 4, 5, 6, 7, 8, 9, 10, 11, 12, 13, 14, 15, 16, 17, 18, 19, 20, 21, 22, 23, 24, 25, 26, 27, 28, 29, 30, 31, 32, 33] [] [] rfl rfl (by decide) (by decide) rfl hk1 hFc ht hvm hB
                have hP : va_P (dC, dI) cls ((oX5 (p0a 0) p0a p0k (o_6.2) p0l) ++ (oX1 (p1a 0) p1a p1k p1n p1w p1l) ++ (oX9 (p1a 3) p1_2a p1_2k p1_2n p1_2w)) H := hP.sub [0, 1, 2, 3, 4, 5, 6, 7, 8, 9, 10, 11, 12, 13, 14, 15, 16, 17, 18, 19, 20, 21, 22, 23, 24, 25, 26, 27, 28, 29, 30, 31, 32, 33] rfl
                have hD : va_D A ((oX5 (p0a 0) p0a p0k (o_6.2) p0l) ++ (oX1 (p1a 0) p1a p1k p1n p1w p1l) ++ (oX9 (p1a 3) p1_2a p1_2k p1_2n p1_2w)) := hD.sub [0, 1, 2, 3, 4, 5, 6, 7, 8, 9, 10, 11, 12, 13, 14, 15, 16, 17, 18, 19, 20, 21, 22, 23, 24, 25, 26, 27, 28, 29, 30, 31, 32, 33] (by decide) rfl
                have hK : va_K (dC, dI) cls ((tX5 p0k) ++ (tX1 p1k) ++ (tX9 p1_2k)) s := hK.sub [0, 1, 2, 3, 4, 5, 6, 7, 8, 9, 10, 11, 12, 13, 14, 15, 16, 17, 18, 19, 20, 21, 22, 23, 24, 25, 26, 27, 28, 29, 30] rfl
                obtain rfl : r7 = (o_6.1) := hw
                have J54 : ∀ (v2_54 : Int32) (H : Heap) (locs : List Loc) (ls : Array Slot), (fX5_dropUnwanted_J54 (fX5_dropUnwanted_L37 p1n p1w p1_2n p1_2w n_37) v4_37 o_6 v2_54) = some o37 → va_P (dC, dI) cls ((oX5 (p0a 0) p0a p0k (o_6.2) p0l) ++ (oX1 (p1a 0) p1a p1k p1n p1w p1l) ++ (oX9 (p1a 3) p1_2a p1_2k p1_2n p1_2w)) H → va_D A ((oX5 (p0a 0) p0a p0k (o_6.2) p0l) ++ (oX1 (p1a 0) p1a p1k p1n p1w p1l) ++ (oX9 (p1a 3) p1_2a p1_2k p1_2n p1_2w)) → va_K (dC, dI) cls ((tX5 p0k) ++ (tX1 p1k) ++ (tX9 p1_2k)) s → va_S A s.heap H locs → lv_has ls 5 [(0, .ref (p0a 0)), (1, .ref (p1a 0)), (2, .int v2_54), (3, .int v3_17), (4, .int v4_37)] → W p l e ({ frames := 4, cells := 0, slots := 0, locals := 89 } : Room) s m ([.ref (p0a 0), .ref (p1a 0)] : List Value).toArray below meth c H locs 0 0 Q (F0 m 54 ls []) := by
                  intro v2_54 H locs ls hrun hP hD hK hS hl 
                  unfold fX5_dropUnwanted_J54 at hrun
                  refine lv_iinc (v := (v4_37 + (-1))) (lv' := [(4, .int (v4_37 + (-1))), (0, .ref (p0a 0)), (1, .ref (p1a 0)), (2, .int v2_54), (3, .int v3_17)]) hx hb dX5_dropUnwanted_54 hl (k := 4) rfl rfl (by decide) rfl (fun ls hl => ?_)
                  refine lv_goto (tgt := 37) hx hb dX5_dropUnwanted_57 (by decide) ?_
                  exact IH37 v2_54 (v4_37 + (-1)) (o_6.2) o37 _ _ _ hrun hP hD hK hS (lv_sub hl [1, 2, 3, 4, 0] rfl) hk37
                rcases br9 hrun with ⟨hc8, hrun⟩ | ⟨hc8, hrun⟩
                · refine lv_if_eq (tgt := 54) hx hb dX5_dropUnwanted_49 (by decide) (fun _ => ?_) (fun c => absurd hc8 c)
                  exact J54 v2_37 _ _ _ hrun hP hD hK hS (lv_sub hl [0, 1, 2, 3, 4] rfl)
                · refine lv_if_eq (tgt := 54) hx hb dX5_dropUnwanted_49 (by decide) (fun c => absurd c hc8) (fun _ => ?_)
                  refine lv_iconst (v := 1) hx hb dX5_dropUnwanted_52 (by decide) ?_
                  refine lv_istore_n (lv' := [(2, .int 1), (0, .ref (p0a 0)), (1, .ref (p1a 0)), (3, .int v3_17), (4, .int v4_37)]) hx hb dX5_dropUnwanted_53 rfl hl (by decide) rfl (fun ls hl => ?_)
                  exact J54 1 _ _ _ hrun hP hD hK hS (lv_sub hl [1, 2, 0, 3, 4] rfl)
          obtain ⟨o37, hc37, hrun⟩ := bnd9 hrun
          refine L37 NF 0 ((p1w 0 0) - 1) p0w_17 o37 _ _ _ hc37 hP hD hK hS (lv_sub hl [2, 3, 1, 4, 0] rfl) ?_
          intro H locs ls hP hD hK hS hl
          have hl := hl
          refine lv_iinc (v := (v3_17 + 1)) (lv' := [(3, .int (v3_17 + 1)), (0, .ref (p0a 0)), (1, .ref (p1a 0)), (2, .int (o37.1))]) hx hb dX5_dropUnwanted_60 hl (k := 3) rfl rfl (by decide) rfl (fun ls hl => ?_)
          refine lv_goto (tgt := 17) hx hb dX5_dropUnwanted_63 (by decide) ?_
          exact IH17 (o37.1) (v3_17 + 1) (o37.2) o17 _ _ _ hrun hP hD hK hS (lv_sub hl [1, 2, 3, 0] rfl) hk17
  obtain ⟨o17, hc17, hrun⟩ := bnd9 hrun
  refine L17 NF 1 0 (srw o_1 7 o_2) o17 _ _ _ hc17 hP hD hK hS (lv_sub hl [2, 3, 1, 0] rfl) ?_
  intro H locs ls hP hD hK hS hl
  have hl := hl
  refine lv_aload_n hx hb dX5_dropUnwanted_66 rfl (lv_at hl 0 rfl) ?_
  refine lv_aload_n hx hb dX5_dropUnwanted_67 rfl (lv_at hl 1 rfl) ?_
  obtain ⟨o_9, hc_9, hrun⟩ := bnd9 hrun
  have hPc := hP.sub (ws' := ((oX5 (p0a 0) p0a p0k o17 p0l) ++ (oX1 (p1a 0) p1a p1k p1n p1w p1l) ++ (oX9 (p1a 3) p1_2a p1_2k p1_2n p1_2w))) [0, 1, 2, 3, 4, 5, 6, 7, 8, 9, 10, 11, 12, 13, 14, 15, 16, 17, 18, 19, 20, 21, 22, 23, 24, 25, 26, 27, 28, 29, 30, 31, 32, 33] rfl
  have hDc := hD.sub (ws' := ((oX5 (p0a 0) p0a p0k o17 p0l) ++ (oX1 (p1a 0) p1a p1k p1n p1w p1l) ++ (oX9 (p1a 3) p1_2a p1_2k p1_2n p1_2w))) [0, 1, 2, 3, 4, 5, 6, 7, 8, 9, 10, 11, 12, 13, 14, 15, 16, 17, 18, 19, 20, 21, 22, 23, 24, 25, 26, 27, 28, 29, 30, 31, 32, 33] (by decide) rfl
  have hKc := hK.sub (tys' := ((tX5 p0k) ++ (tX1 p1k) ++ (tX9 p1_2k))) [0, 1, 2, 3, 4, 5, 6, 7, 8, 9, 10, 11, 12, 13, 14, 15, 16, 17, 18, 19, 20, 21, 22, 23, 24, 25, 26, 27, 28, 29, 30] rfl
  have hFc := va_free (wc := ((oX5 (p0a 0) p0a p0k o17 p0l) ++ (oX1 (p1a 0) p1a p1k p1n p1w p1l) ++ (oX9 (p1a 3) p1_2a p1_2k p1_2n p1_2w))) hD hS hA [0, 1, 2, 3, 4, 5, 6, 7, 8, 9, 10, 11, 12, 13, 14, 15, 16, 17, 18, 19, 20, 21, 22, 23, 24, 25, 26, 27, 28, 29, 30, 31, 32, 33] rfl
  refine va_callv (va_runV (As := [.ref (p1a 0)]) (rest := []) ⟨hx, hb, hml, hown, hts⟩ (kX5_keepUndroppable l dC dI (p0a := (st0 (p0a 0) p0a)) (p0k := p0k) (p0w := o17) (p0l := p0l) (p1a := (st0 (p1a 0) p1a)) (p1k := p1k) (p1n := p1n) (p1w := p1w) (p1l := p1l) (p1_2a := p1_2a) (p1_2k := p1_2k) (p1_2n := p1_2n) (p1_2w := p1_2w) (sz := _) (o := o_9) (hrun := hc_9)) (cwV 1 hts (gi_V qw477 qw478 qw479 qw442 (gi_z qw476)) rfl rfl rfl (by decide +kernel) ⟨Nat.le_of_ble_eq_true rfl, Nat.le_of_ble_eq_true rfl⟩) ⟨PRE.blind, va_recv hKc hPc (ci := 7) (q0 := 0) rfl rfl, PRE.of hE hS hFc hPc hKc hDc⟩ rfl rfl hl.1 rfl (lv_room (Nat.le_of_ble_eq_true rfl)) dX5_dropUnwanted_68 ⟨(Nat.le_of_ble_eq_true rfl), (Nat.le_of_ble_eq_true rfl)⟩) hS (fun q _ h => hFc q h) hFc (fun u t H locs ht hvm hw hB hz1 hk1 hS => ?_)
  obtain ⟨hP, hD, hK⟩ := JOIN (wr := ([] : va_W)) hP hD hK [0, 1, 2, 3, 4, 5, 6, 7, 8, 9, 10, 11, 12, 13, 14, 15, 16, 17, 18, 19, 20, 21, 22, 23, 24, 25, 26, 27, 28, 29, 30, 31, 32, 33] [] [] rfl rfl (by decide) (by decide) rfl hk1 hFc ht hvm hB
  have hP : va_P (dC, dI) cls ((oX5 (p0a 0) p0a p0k o_9 p0l) ++ (oX1 (p1a 0) p1a p1k p1n p1w p1l) ++ (oX9 (p1a 3) p1_2a p1_2k p1_2n p1_2w)) H := hP.sub [0, 1, 2, 3, 4, 5, 6, 7, 8, 9, 10, 11, 12, 13, 14, 15, 16, 17, 18, 19, 20, 21, 22, 23, 24, 25, 26, 27, 28, 29, 30, 31, 32, 33] rfl
  have hD : va_D A ((oX5 (p0a 0) p0a p0k o_9 p0l) ++ (oX1 (p1a 0) p1a p1k p1n p1w p1l) ++ (oX9 (p1a 3) p1_2a p1_2k p1_2n p1_2w)) := hD.sub [0, 1, 2, 3, 4, 5, 6, 7, 8, 9, 10, 11, 12, 13, 14, 15, 16, 17, 18, 19, 20, 21, 22, 23, 24, 25, 26, 27, 28, 29, 30, 31, 32, 33] (by decide) rfl
  have hK : va_K (dC, dI) cls ((tX5 p0k) ++ (tX1 p1k) ++ (tX9 p1_2k)) s := hK.sub [0, 1, 2, 3, 4, 5, 6, 7, 8, 9, 10, 11, 12, 13, 14, 15, 16, 17, 18, 19, 20, 21, 22, 23, 24, 25, 26, 27, 28, 29, 30] rfl
  refine lv_aload_n hx hb dX5_dropUnwanted_71 rfl (lv_at hl 1 rfl) ?_
  obtain ⟨o_10, hc_10, hrun⟩ := bnd9 hrun
  have hPc := hP.sub (ws' := ((oX1 (p1a 0) p1a p1k p1n p1w p1l) ++ (oX9 (p1a 3) p1_2a p1_2k p1_2n p1_2w))) [10, 11, 12, 13, 14, 15, 16, 17, 18, 19, 20, 21, 22, 23, 24, 25, 26, 27, 28, 29, 30, 31, 32, 33] rfl
  have hDc := hD.sub (ws' := ((oX1 (p1a 0) p1a p1k p1n p1w p1l) ++ (oX9 (p1a 3) p1_2a p1_2k p1_2n p1_2w))) [10, 11, 12, 13, 14, 15, 16, 17, 18, 19, 20, 21, 22, 23, 24, 25, 26, 27, 28, 29, 30, 31, 32, 33] (by decide) rfl
  have hKc := hK.sub (tys' := ((tX1 p1k) ++ (tX9 p1_2k))) [9, 10, 11, 12, 13, 14, 15, 16, 17, 18, 19, 20, 21, 22, 23, 24, 25, 26, 27, 28, 29, 30] rfl
  have hFc := va_free (wc := ((oX1 (p1a 0) p1a p1k p1n p1w p1l) ++ (oX9 (p1a 3) p1_2a p1_2k p1_2n p1_2w))) hD hS hA [10, 11, 12, 13, 14, 15, 16, 17, 18, 19, 20, 21, 22, 23, 24, 25, 26, 27, 28, 29, 30, 31, 32, 33] rfl
  refine va_calli (va_runV (As := []) (rest := []) ⟨hx, hb, hml, hown, hts⟩ (kX1_countValues l dC dI (p0a := (st0 (p1a 0) p1a)) (p0k := p1k) (p0n := p1n) (p0w := p1w) (p0l := p1l) (p0_2a := p1_2a) (p0_2k := p1_2k) (p0_2n := p1_2n) (p0_2w := p1_2w) (sz := _) (o := o_10) (hrun := hc_10)) (cwV 0 hts (gi_V qw481 qw482 qw483 qw126 (gi_z qw480)) rfl rfl rfl (by decide +kernel) ⟨Nat.le_of_ble_eq_true rfl, Nat.le_of_ble_eq_true rfl⟩) ⟨PRE.blind, va_recv hKc hPc (ci := 4) (q0 := 0) rfl rfl, PRE.of hE hS hFc hPc hKc hDc⟩ rfl rfl hl.1 rfl (lv_room (Nat.le_of_ble_eq_true rfl)) dX5_dropUnwanted_72 ⟨(Nat.le_of_ble_eq_true rfl), (Nat.le_of_ble_eq_true rfl)⟩) hS (fun q _ h => hFc q h) hFc (fun r11 u t H locs ht hvm hw hB hz1 hk1 hS => ?_)
  obtain ⟨hP, hD, hK⟩ := JOIN (wr := (oX5 (p0a 0) p0a p0k o_9 p0l)) hP hD hK [10, 11, 12, 13, 14, 15, 16, 17, 18, 19, 20, 21, 22, 23, 24, 25, 26, 27, 28, 29, 30, 31, 32, 33] [0, 1, 2, 3, 4, 5, 6, 7, 8, 9] [0, 1, 2, 3, 4, 5, 6, 7, 8] rfl rfl (by decide) (by decide) rfl hk1 hFc ht hvm hB
  have hP : va_P (dC, dI) cls ((oX5 (p0a 0) p0a p0k o_9 p0l) ++ (oX1 (p1a 0) p1a p1k p1n p1w p1l) ++ (oX9 (p1a 3) p1_2a p1_2k p1_2n p1_2w)) H := hP.sub [0, 1, 2, 3, 4, 5, 6, 7, 8, 9, 10, 11, 12, 13, 14, 15, 16, 17, 18, 19, 20, 21, 22, 23, 24, 25, 26, 27, 28, 29, 30, 31, 32, 33] rfl
  have hD : va_D A ((oX5 (p0a 0) p0a p0k o_9 p0l) ++ (oX1 (p1a 0) p1a p1k p1n p1w p1l) ++ (oX9 (p1a 3) p1_2a p1_2k p1_2n p1_2w)) := hD.sub [0, 1, 2, 3, 4, 5, 6, 7, 8, 9, 10, 11, 12, 13, 14, 15, 16, 17, 18, 19, 20, 21, 22, 23, 24, 25, 26, 27, 28, 29, 30, 31, 32, 33] (by decide) rfl
  have hK : va_K (dC, dI) cls ((tX5 p0k) ++ (tX1 p1k) ++ (tX9 p1_2k)) s := hK.sub [0, 1, 2, 3, 4, 5, 6, 7, 8, 9, 10, 11, 12, 13, 14, 15, 16, 17, 18, 19, 20, 21, 22, 23, 24, 25, 26, 27, 28, 29, 30] rfl
  obtain rfl : o_10 = r11 := hw.symm
  refine lv_istore_n (lv' := [(3, .int o_10), (0, .ref (p0a 0)), (1, .ref (p1a 0))]) hx hb dX5_dropUnwanted_75 rfl hl (by decide) rfl (fun ls hl => ?_)
  refine lv_aload_n hx hb dX5_dropUnwanted_76 rfl (lv_at hl 2 rfl) ?_
  refine lv_aload_n hx hb dX5_dropUnwanted_77 rfl (lv_at hl 1 rfl) ?_
  refine va_get (D := (dC, dI)) (ci := 7) (v := .ref (p0a 7)) (C := RX5) (T := TX5) (N := 12) hx hb hts i_X5 hown hK hP 0 rfl rfl 6 (by decide) (hts _ qw443) (fun _ h9 => h9) rfl dX5_dropUnwanted_78 ?_
  obtain ⟨o_12, hc_12, hrun⟩ := bnd9 hrun
  have hPc := hP.sub (ws' := ((oX1 (p1a 0) p1a p1k p1n p1w p1l) ++ (oX9 (p1a 3) p1_2a p1_2k p1_2n p1_2w) ++ [((p0a 7), .inl ((p0k 7), 250, .inl (o_9 7)))])) [10, 11, 12, 13, 14, 15, 16, 17, 18, 19, 20, 21, 22, 23, 24, 25, 26, 27, 28, 29, 30, 31, 32, 33, 6] rfl
  have hDc := hD.sub (ws' := ((oX1 (p1a 0) p1a p1k p1n p1w p1l) ++ (oX9 (p1a 3) p1_2a p1_2k p1_2n p1_2w) ++ [((p0a 7), .inl ((p0k 7), 250, .inl (o_9 7)))])) [10, 11, 12, 13, 14, 15, 16, 17, 18, 19, 20, 21, 22, 23, 24, 25, 26, 27, 28, 29, 30, 31, 32, 33, 6] (by decide) rfl
  have hKc := hK.sub (tys' := ((tX1 p1k) ++ (tX9 p1_2k) ++ [((p0k 7), .int)])) [9, 10, 11, 12, 13, 14, 15, 16, 17, 18, 19, 20, 21, 22, 23, 24, 25, 26, 27, 28, 29, 30, 5] rfl
  have hFc := va_free (wc := ((oX1 (p1a 0) p1a p1k p1n p1w p1l) ++ (oX9 (p1a 3) p1_2a p1_2k p1_2n p1_2w) ++ [((p0a 7), .inl ((p0k 7), 250, .inl (o_9 7)))])) hD hS hA [10, 11, 12, 13, 14, 15, 16, 17, 18, 19, 20, 21, 22, 23, 24, 25, 26, 27, 28, 29, 30, 31, 32, 33, 6] rfl
  refine va_callv (va_runV (As := [.ref (p0a 7)]) (rest := []) ⟨hx, hb, hml, hown, hts⟩ (kX1_leaveOut l dC dI (p0a := (st0 (p1a 0) p1a)) (p0k := p1k) (p0n := p1n) (p0w := p1w) (p0l := p1l) (p1a := (p0a 7)) (p1k := (p0k 7)) (p1n := 250) (p1f := (o_9 7)) (p0_2a := p1_2a) (p0_2k := p1_2k) (p0_2n := p1_2n) (p0_2w := p1_2w) (sz := _) (o := o_12) (hrun := hc_12)) (cwV 1 hts (gi_V qw485 qw486 qw487 qw126 (gi_z qw484)) rfl rfl rfl (by decide +kernel) ⟨Nat.le_of_ble_eq_true rfl, Nat.le_of_ble_eq_true rfl⟩) ⟨PRE.blind, va_recv hKc hPc (ci := 4) (q0 := 0) rfl rfl, PRE.of hE hS hFc hPc hKc hDc⟩ rfl rfl hl.1 rfl (lv_room (Nat.le_of_ble_eq_true rfl)) dX5_dropUnwanted_81 ⟨(Nat.le_of_ble_eq_true rfl), (Nat.le_of_ble_eq_true rfl)⟩) hS (fun q _ h => hFc q h) hFc (fun u t H locs ht hvm hw hB hz1 hk1 hS => ?_)
  obtain ⟨hP, hD, hK⟩ := JOIN (wr := [((p0a 0), .inr (7, [.ref (p0a 1), .ref (p0a 2), .ref (p0a 3), .ref (p0a 4), .ref (p0a 5), .ref (p0a 6), .ref (p0a 7), .long (p0l 0 7), .ref (p0a 9), .ref (p0a 10), .int (o_9 0 10), .ref (p0a 12)])), ((p0a 2), .inl ((p0k 2), 250, .inl (o_9 2))), ((p0a 3), .inl ((p0k 3), 250, .inl (o_9 3))), ((p0a 4), .inl ((p0k 4), 250, .inl (o_9 4))), ((p0a 5), .inl ((p0k 5), 250, .inl (o_9 5))), ((p0a 6), .inl ((p0k 6), 250, .inl (o_9 6))), ((p0a 9), .inl ((p0k 9), 250, .inl (o_9 9))), ((p0a 10), .inl ((p0k 10), 250, .inl (o_9 10))), ((p0a 12), .inl ((p0k 12), 60, .inl (o_9 12)))]) hP hD hK [10, 11, 12, 13, 14, 15, 16, 17, 18, 19, 20, 21, 22, 23, 24, 25, 26, 27, 28, 29, 30, 31, 32, 33, 6] [0, 1, 2, 3, 4, 5, 7, 8, 9] [0, 1, 2, 3, 4, 6, 7, 8] rfl rfl (by decide) (by decide) rfl hk1 hFc ht hvm hB
  have hP : va_P (dC, dI) cls ((oX5 (p0a 0) p0a p0k o_9 p0l) ++ (oX1 (p1a 0) p1a p1k p1n (o_12.1) p1l) ++ (oX9 (p1a 3) p1_2a p1_2k p1_2n (o_12.2))) H := hP.sub [0, 1, 2, 3, 4, 5, 33, 6, 7, 8, 9, 10, 11, 12, 13, 14, 15, 16, 17, 18, 19, 20, 21, 22, 23, 24, 25, 26, 27, 28, 29, 30, 31, 32] rfl
  have hD : va_D A ((oX5 (p0a 0) p0a p0k o_9 p0l) ++ (oX1 (p1a 0) p1a p1k p1n (o_12.1) p1l) ++ (oX9 (p1a 3) p1_2a p1_2k p1_2n (o_12.2))) := hD.sub [0, 1, 2, 3, 4, 5, 33, 6, 7, 8, 9, 10, 11, 12, 13, 14, 15, 16, 17, 18, 19, 20, 21, 22, 23, 24, 25, 26, 27, 28, 29, 30, 31, 32] (by decide) rfl
  have hK : va_K (dC, dI) cls ((tX5 p0k) ++ (tX1 p1k) ++ (tX9 p1_2k)) s := hK.sub [0, 1, 2, 3, 4, 30, 5, 6, 7, 8, 9, 10, 11, 12, 13, 14, 15, 16, 17, 18, 19, 20, 21, 22, 23, 24, 25, 26, 27, 28, 29] rfl
  refine lv_iload_n hx hb dX5_dropUnwanted_84 rfl (lv_at hl 0 rfl) ?_
  refine lv_aload_n hx hb dX5_dropUnwanted_85 rfl (lv_at hl 2 rfl) ?_
  obtain ⟨o_13, hc_13, hrun⟩ := bnd9 hrun
  have hPc := hP.sub (ws' := ((oX1 (p1a 0) p1a p1k p1n (o_12.1) p1l) ++ (oX9 (p1a 3) p1_2a p1_2k p1_2n (o_12.2)))) [10, 11, 12, 13, 14, 15, 16, 17, 18, 19, 20, 21, 22, 23, 24, 25, 26, 27, 28, 29, 30, 31, 32, 33] rfl
  have hDc := hD.sub (ws' := ((oX1 (p1a 0) p1a p1k p1n (o_12.1) p1l) ++ (oX9 (p1a 3) p1_2a p1_2k p1_2n (o_12.2)))) [10, 11, 12, 13, 14, 15, 16, 17, 18, 19, 20, 21, 22, 23, 24, 25, 26, 27, 28, 29, 30, 31, 32, 33] (by decide) rfl
  have hKc := hK.sub (tys' := ((tX1 p1k) ++ (tX9 p1_2k))) [9, 10, 11, 12, 13, 14, 15, 16, 17, 18, 19, 20, 21, 22, 23, 24, 25, 26, 27, 28, 29, 30] rfl
  have hFc := va_free (wc := ((oX1 (p1a 0) p1a p1k p1n (o_12.1) p1l) ++ (oX9 (p1a 3) p1_2a p1_2k p1_2n (o_12.2)))) hD hS hA [10, 11, 12, 13, 14, 15, 16, 17, 18, 19, 20, 21, 22, 23, 24, 25, 26, 27, 28, 29, 30, 31, 32, 33] rfl
  refine va_calli (va_runV (As := []) (rest := [.int o_10]) ⟨hx, hb, hml, hown, hts⟩ (kX1_countValues l dC dI (p0a := (st0 (p1a 0) p1a)) (p0k := p1k) (p0n := p1n) (p0w := (o_12.1)) (p0l := p1l) (p0_2a := p1_2a) (p0_2k := p1_2k) (p0_2n := p1_2n) (p0_2w := (o_12.2)) (sz := _) (o := o_13) (hrun := hc_13)) (cwV 0 hts (gi_V qw481 qw482 qw483 qw126 (gi_z qw480)) rfl rfl rfl (by decide +kernel) ⟨Nat.le_of_ble_eq_true rfl, Nat.le_of_ble_eq_true rfl⟩) ⟨PRE.blind, va_recv hKc hPc (ci := 4) (q0 := 0) rfl rfl, PRE.of hE hS hFc hPc hKc hDc⟩ rfl rfl hl.1 rfl (lv_room (Nat.le_of_ble_eq_true rfl)) dX5_dropUnwanted_86 ⟨(Nat.le_of_ble_eq_true rfl), (Nat.le_of_ble_eq_true rfl)⟩) hS (fun q _ h => hFc q h) hFc (fun r14 u t H locs ht hvm hw hB hz1 hk1 hS => ?_)
  obtain ⟨hP, hD, hK⟩ := JOIN (wr := (oX5 (p0a 0) p0a p0k o_9 p0l)) hP hD hK [10, 11, 12, 13, 14, 15, 16, 17, 18, 19, 20, 21, 22, 23, 24, 25, 26, 27, 28, 29, 30, 31, 32, 33] [0, 1, 2, 3, 4, 5, 6, 7, 8, 9] [0, 1, 2, 3, 4, 5, 6, 7, 8] rfl rfl (by decide) (by decide) rfl hk1 hFc ht hvm hB
  have hP : va_P (dC, dI) cls ((oX5 (p0a 0) p0a p0k o_9 p0l) ++ (oX1 (p1a 0) p1a p1k p1n (o_12.1) p1l) ++ (oX9 (p1a 3) p1_2a p1_2k p1_2n (o_12.2))) H := hP.sub [0, 1, 2, 3, 4, 5, 6, 7, 8, 9, 10, 11, 12, 13, 14, 15, 16, 17, 18, 19, 20, 21, 22, 23, 24, 25, 26, 27, 28, 29, 30, 31, 32, 33] rfl
  have hD : va_D A ((oX5 (p0a 0) p0a p0k o_9 p0l) ++ (oX1 (p1a 0) p1a p1k p1n (o_12.1) p1l) ++ (oX9 (p1a 3) p1_2a p1_2k p1_2n (o_12.2))) := hD.sub [0, 1, 2, 3, 4, 5, 6, 7, 8, 9, 10, 11, 12, 13, 14, 15, 16, 17, 18, 19, 20, 21, 22, 23, 24, 25, 26, 27, 28, 29, 30, 31, 32, 33] (by decide) rfl
  have hK : va_K (dC, dI) cls ((tX5 p0k) ++ (tX1 p1k) ++ (tX9 p1_2k)) s := hK.sub [0, 1, 2, 3, 4, 5, 6, 7, 8, 9, 10, 11, 12, 13, 14, 15, 16, 17, 18, 19, 20, 21, 22, 23, 24, 25, 26, 27, 28, 29, 30] rfl
  obtain rfl : o_13 = r14 := hw.symm
  refine lv_isub hx hb dX5_dropUnwanted_89 ?_
  have ho9 : ((o_10 - o_13), o_9, (o_12.1), (o_12.2)) = o := Option.some.inj hrun
  have hP9 : va_P (dC, dI) cls ((oX5 (p0a 0) p0a p0k (o.2.1) p0l) ++ (oX1 (p1a 0) p1a p1k p1n (o.2.2.1) p1l) ++ (oX9 (p1a 3) p1_2a p1_2k p1_2n (o.2.2.2))) H := by first | exact hP | (rw [← ho9]; exact hP)
  have hD9 : va_D A ((oX5 (p0a 0) p0a p0k (o.2.1) p0l) ++ (oX1 (p1a 0) p1a p1k p1n (o.2.2.1) p1l) ++ (oX9 (p1a 3) p1_2a p1_2k p1_2n (o.2.2.2))) := by first | exact hD | (rw [← ho9]; exact hD)
  subst hQ
  exact W.iret (v := (o_10 - o_13)) hx hb hr (fun t ht hW => ⟨⟨(o_10 - o_13), (), rfl, (by rw [← ho9]), ⟨by rw [ht]; exact hP9, va_K.moved hW.alike hK, hD9⟩⟩, hS.F ht⟩) hS.2.2 dX5_dropUnwanted_90
def fX5_foldEnd_J26 (p1w : ST) : Option (Int32 × ST) := some (0, p1w)
def fX5_foldEnd_J70 (p2 : Int32) (w7 : ST) (y0_70 : Int32) : Option (Int32 × ST) := (if ixb p2 60 = true then (lt9 (upw w7 10 (nn p2) y0_70) fun (w11 : ST) => (if ixb p2 60 = true then (lt9 (upw w11 11 (nn p2) (-1)) fun (w13 : ST) => (if ixb p2 60 = true then (lt9 (upw w13 9 (nn p2) (-1)) fun (w15 : ST) => some (1, w15)) else none)) else none)) else none)
def fX5_foldEnd (p0w : ST) (p1w : ST) (p2 : Int32) : Option (Int32 × ST) := (if ixb p2 60 = true then (if (p1w 8 (nn p2)) = 23 then (if ixb p2 60 = true then (if ixb (p1w 9 (nn p2)) 250 = true then (if (p0w 4 (nn (p1w 9 (nn p2)))) = 1 then (if ixb p2 60 = true then (lt9 (upw p1w 8 (nn p2) 22) fun (w7 : ST) => (if ixb p2 60 = true then (if ixb (w7 9 (nn p2)) 250 = true then (if (p0w 5 (nn (w7 9 (nn p2)))) = 0 then (if ixb p2 60 = true then (fX5_foldEnd_J70 p2 w7 (w7 11 (nn p2))) else none) else (if ixb p2 60 = true then (fX5_foldEnd_J70 p2 w7 (w7 10 (nn p2))) else none)) else none) else none)) else none) else (fX5_foldEnd_J26 p1w)) else none) else none) else (fX5_foldEnd_J26 p1w)) else none)
set_option maxHeartbeats 16000000 in
set_option maxRecDepth 100000 in
theorem kX5_foldEnd {zs : Nat × Nat} (l : Launch) (dC : Nat → ClassId) (dI : Nat → Nat → Nat) (p0a : Nat → Nat) (p0k : Nat → ClassId) (p0w : ST) (p0l : SL) (p1a : Nat → Nat) (p1k : Nat → ClassId) (p1n : Nat → Nat) (p1w : ST) (p1l : SL) (p2 : Int32) (sz : Nat) (o : Int32 × ST) (hrun : fX5_foldEnd p0w p1w p2 = some o) : Met l yX5_foldEnd (wz yX5_foldEnd cX5_foldEnd 3 (Option.some Jvm.ClassFile.FieldType.int)) ({ frames := 0, cells := 0, slots := 0, locals := 0 } : Room) (va_Pc [.ref (p0a 0), .ref (p1a 0), .int p2] (PRE zs dC dI ((oX5 (p0a 0) p0a p0k p0w p0l) ++ (oX1 (p1a 0) p1a p1k p1n p1w p1l)) ((tX5 p0k) ++ (tX1 p1k)) sz)) (va_Qi (fun (r : Int32) (_ : Unit) => r = (o.1)) (fun _ t => POST dC dI ((oX5 (p0a 0) p0a p0k p0w p0l) ++ (oX1 (p1a 0) p1a p1k p1n (o.2) p1l)) ((tX5 p0k) ++ (tX1 p1k)) (va_A ((oX5 (p0a 0) p0a p0k p0w p0l) ++ (oX1 (p1a 0) p1a p1k p1n p1w p1l)) sz) t) (va_A ((oX5 (p0a 0) p0a p0k p0w p0l) ++ (oX1 (p1a 0) p1a p1k p1n p1w p1l)) sz)) 0 0 (va_A ((oX5 (p0a 0) p0a p0k p0w p0l) ++ (oX1 (p1a 0) p1a p1k p1n p1w p1l)) sz) := by
  refine Met.ofW (cc := cX5_foldEnd) (maxL := 3) (ret := (Option.some Jvm.ClassFile.FieldType.int)) (by decide) rfl ?_
  intro p e s m args below meth c s₁ B hml hv
  obtain ⟨rfl, hsz, hP, hK, hD0, hE⟩ := hv
  have hx := B.exec
  have hb := B.bytes
  have hr := B.returns
  have hts0 := atoms_spec (ws := wz yX5_foldEnd cX5_foldEnd 3 (Option.some Jvm.ClassFile.FieldType.int)) B.pre
  have hts : ∀ w ∈ gw, w.before _ s = true := fun w h => hts0 w (List.mem_cons_of_mem _ h)
  have hown : s.vm.findClass RX5 = some m.cls := findClass_of_methodNamed B.named
  have hlocks := B.notSynchronized
  subst hsz
  have hD := hD0.self (sz := s.heap.size)
  refine gQ9 ?_
  intro Q hQ
  generalize hAe : va_A ((oX5 (p0a 0) p0a p0k p0w p0l) ++ (oX1 (p1a 0) p1a p1k p1n p1w p1l)) s.heap.size = A at hD hE hQ
  have hA : ∀ q : Nat, s.heap.size ≤ q → A q := fun q h => by rw [← hAe]; exact Or.inr h
  have hS : va_S A s.heap s.heap [] := va_S.rf
  have hP : va_P (dC, dI) cls ((oX5 (p0a 0) p0a p0k p0w p0l) ++ (oX1 (p1a 0) p1a p1k p1n p1w p1l)) s.heap := hP
  have hl := lv_entry ([.ref (p0a 0), .ref (p1a 0), .int p2]) (n := 3) (Nat.le_of_ble_eq_true rfl)
  rw [lg_entry_eq]
  generalize (lg_sl ([.ref (p0a 0), .ref (p1a 0), .int p2]) ++ List.replicate (3 - (lg_sl ([.ref (p0a 0), .ref (p1a 0), .int p2])).length) Slot.unset).toArray = ls at hl ⊢
  have hl : lv_has ls 3 [(0, .ref (p0a 0)), (1, .ref (p1a 0)), (2, .int p2)] := hl
  obtain ⟨H, hHe⟩ : ∃ H, H = s.heap := ⟨_, rfl⟩
  obtain ⟨locs, hle⟩ : ∃ locs : List Loc, locs = [] := ⟨_, rfl⟩
  rw [← hHe] at hP
  have hS : va_S A s.heap H locs := by rw [hHe, hle]; exact hS
  show W p l e ({ frames := 0, cells := 0, slots := 0, locals := 0 } : Room) s m ([.ref (p0a 0), .ref (p1a 0), .int p2] : List Value).toArray below meth c s.heap [] 0 0 Q (F0 m 0 ls [])
  rw [← hle]
  refine wH9 hHe ?_
  unfold fX5_foldEnd at hrun
  refine lv_aload_n hx hb dX5_foldEnd_0 rfl (lv_at hl 1 rfl) ?_
  refine va_get (D := (dC, dI)) (ci := 4) (v := .ref (p1a 8)) (C := RX1) (T := TX1) (N := 21) hx hb hts i_X1 hown hK hP 10 rfl rfl 7 (by decide) (hts _ qw426) (fun _ h9 => h9) rfl dX5_foldEnd_1 ?_
  refine lv_iload_n hx hb dX5_foldEnd_4 rfl (lv_at hl 2 rfl) ?_
  obtain ⟨hq1, hrun⟩ := chk9 hrun
  refine va_iald hx hb hK hP 15 13 rfl rfl (ixb_in hq1) dX5_foldEnd_5 ?_
  refine lv_bipush (v := 23) hx hb dX5_foldEnd_6 (by decide) ?_
  have J26 : ∀ (H : Heap) (locs : List Loc) (ls : Array Slot), (fX5_foldEnd_J26 p1w) = some o → va_P (dC, dI) cls ((oX5 (p0a 0) p0a p0k p0w p0l) ++ (oX1 (p1a 0) p1a p1k p1n p1w p1l)) H → va_D A ((oX5 (p0a 0) p0a p0k p0w p0l) ++ (oX1 (p1a 0) p1a p1k p1n p1w p1l)) → va_K (dC, dI) cls ((tX5 p0k) ++ (tX1 p1k)) s → va_S A s.heap H locs → lv_has ls 3 [] → W p l e ({ frames := 0, cells := 0, slots := 0, locals := 0 } : Room) s m ([.ref (p0a 0), .ref (p1a 0), .int p2] : List Value).toArray below meth c H locs 0 0 Q (F0 m 26 ls []) := by
    intro  H locs ls hrun hP hD hK hS hl 
    unfold fX5_foldEnd_J26 at hrun
    refine lv_iconst (v := 0) hx hb dX5_foldEnd_26 (by decide) ?_
    have ho9 : (0, p1w) = o := Option.some.inj hrun
    have hP9 : va_P (dC, dI) cls ((oX5 (p0a 0) p0a p0k p0w p0l) ++ (oX1 (p1a 0) p1a p1k p1n (o.2) p1l)) H := by first | exact hP | (rw [← ho9]; exact hP)
    have hD9 : va_D A ((oX5 (p0a 0) p0a p0k p0w p0l) ++ (oX1 (p1a 0) p1a p1k p1n (o.2) p1l)) := by first | exact hD | (rw [← ho9]; exact hD)
    subst hQ
    exact W.iret (v := 0) hx hb hr (fun t ht hW => ⟨⟨0, (), rfl, (by rw [← ho9]), ⟨by rw [ht]; exact hP9, va_K.moved hW.alike hK, hD9⟩⟩, hS.F ht⟩) hS.2.2 dX5_foldEnd_27
  rcases br9 hrun with ⟨hc2, hrun⟩ | ⟨hc2, hrun⟩
  · refine lv_icmp_ne (tgt := 26) hx hb dX5_foldEnd_8 (by decide) (fun c => absurd hc2 c) (fun _ => ?_)
    refine lv_aload_n hx hb dX5_foldEnd_11 rfl (lv_at hl 0 rfl) ?_
    refine va_get (D := (dC, dI)) (ci := 7) (v := .ref (p0a 4)) (C := RX5) (T := TX5) (N := 12) hx hb hts i_X5 hown hK hP 0 rfl rfl 3 (by decide) (hts _ qw490) (fun _ h9 => h9) rfl dX5_foldEnd_12 ?_
    refine lv_aload_n hx hb dX5_foldEnd_15 rfl (lv_at hl 1 rfl) ?_
    refine va_get (D := (dC, dI)) (ci := 4) (v := .ref (p1a 9)) (C := RX1) (T := TX1) (N := 21) hx hb hts i_X1 hown hK hP 10 rfl rfl 8 (by decide) (hts _ qw445) (fun _ h9 => h9) rfl dX5_foldEnd_16 ?_
    refine lv_iload_n hx hb dX5_foldEnd_19 rfl (lv_at hl 2 rfl) ?_
    obtain ⟨hq3, hrun⟩ := chk9 hrun
    refine va_iald hx hb hK hP 16 14 rfl rfl (ixb_in hq3) dX5_foldEnd_20 ?_
    obtain ⟨hq4, hrun⟩ := chk9 hrun
    refine va_iald hx hb hK hP 3 2 rfl rfl (ixb_in hq4) dX5_foldEnd_21 ?_
    refine lv_iconst (v := 1) hx hb dX5_foldEnd_22 (by decide) ?_
    rcases br9 hrun with ⟨hc5, hrun⟩ | ⟨hc5, hrun⟩
    · refine lv_icmp_eq (tgt := 28) hx hb dX5_foldEnd_23 (by decide) (fun _ => ?_) (fun c => absurd hc5 c)
      refine lv_aload_n hx hb dX5_foldEnd_28 rfl (lv_at hl 1 rfl) ?_
      refine va_get (D := (dC, dI)) (ci := 4) (v := .ref (p1a 8)) (C := RX1) (T := TX1) (N := 21) hx hb hts i_X1 hown hK hP 10 rfl rfl 7 (by decide) (hts _ qw426) (fun _ h9 => h9) rfl dX5_foldEnd_29 ?_
      refine lv_iload_n hx hb dX5_foldEnd_32 rfl (lv_at hl 2 rfl) ?_
      refine lv_bipush (v := 22) hx hb dX5_foldEnd_33 (by decide) ?_
      obtain ⟨hq6, hrun⟩ := chk9 hrun
      refine va_iast hx hb hK hP hD hS 15 13 rfl rfl (ixb_in hq6) dX5_foldEnd_35 (fun H locs hP hD hS => ?_)
      have hP : va_P (dC, dI) cls ((oX5 (p0a 0) p0a p0k p0w p0l) ++ (oX1 (p1a 0) p1a p1k p1n (upw p1w 8 (nn p2) 22) p1l)) H := hP
      have hD : va_D A ((oX5 (p0a 0) p0a p0k p0w p0l) ++ (oX1 (p1a 0) p1a p1k p1n (upw p1w 8 (nn p2) 22) p1l)) := hD
      obtain ⟨w7, ew7, hrun⟩ := let9 hrun
      rw [← ew7] at hP hD
      refine lv_aload_n hx hb dX5_foldEnd_36 rfl (lv_at hl 1 rfl) ?_
      refine va_get (D := (dC, dI)) (ci := 4) (v := .ref (p1a 10)) (C := RX1) (T := TX1) (N := 21) hx hb hts i_X1 hown hK hP 10 rfl rfl 9 (by decide) (hts _ qw498) (fun _ h9 => h9) rfl dX5_foldEnd_37 ?_
      refine lv_iload_n hx hb dX5_foldEnd_40 rfl (lv_at hl 2 rfl) ?_
      refine lv_aload_n hx hb dX5_foldEnd_41 rfl (lv_at hl 0 rfl) ?_
      refine va_get (D := (dC, dI)) (ci := 7) (v := .ref (p0a 5)) (C := RX5) (T := TX5) (N := 12) hx hb hts i_X5 hown hK hP 0 rfl rfl 4 (by decide) (hts _ qw491) (fun _ h9 => h9) rfl dX5_foldEnd_42 ?_
      refine lv_aload_n hx hb dX5_foldEnd_45 rfl (lv_at hl 1 rfl) ?_
      refine va_get (D := (dC, dI)) (ci := 4) (v := .ref (p1a 9)) (C := RX1) (T := TX1) (N := 21) hx hb hts i_X1 hown hK hP 10 rfl rfl 8 (by decide) (hts _ qw445) (fun _ h9 => h9) rfl dX5_foldEnd_46 ?_
      refine lv_iload_n hx hb dX5_foldEnd_49 rfl (lv_at hl 2 rfl) ?_
      obtain ⟨hq8, hrun⟩ := chk9 hrun
      refine va_iald hx hb hK hP 16 14 rfl rfl (ixb_in hq8) dX5_foldEnd_50 ?_
      obtain ⟨hq9, hrun⟩ := chk9 hrun
      refine va_iald hx hb hK hP 4 3 rfl rfl (ixb_in hq9) dX5_foldEnd_51 ?_
      have J70 : ∀ (y0_70 : Int32) (H : Heap) (locs : List Loc) (ls : Array Slot), (fX5_foldEnd_J70 p2 w7 y0_70) = some o → va_P (dC, dI) cls ((oX5 (p0a 0) p0a p0k p0w p0l) ++ (oX1 (p1a 0) p1a p1k p1n w7 p1l)) H → va_D A ((oX5 (p0a 0) p0a p0k p0w p0l) ++ (oX1 (p1a 0) p1a p1k p1n w7 p1l)) → va_K (dC, dI) cls ((tX5 p0k) ++ (tX1 p1k)) s → va_S A s.heap H locs → lv_has ls 3 [(1, .ref (p1a 0)), (2, .int p2)] → W p l e ({ frames := 0, cells := 0, slots := 0, locals := 0 } : Room) s m ([.ref (p0a 0), .ref (p1a 0), .int p2] : List Value).toArray below meth c H locs 0 0 Q (F0 m 70 ls [.int y0_70, .int p2, .ref (p1a 10)]) := by
        intro y0_70 H locs ls hrun hP hD hK hS hl 
        unfold fX5_foldEnd_J70 at hrun
        obtain ⟨hq10, hrun⟩ := chk9 hrun
        refine va_iast hx hb hK hP hD hS 17 15 rfl rfl (ixb_in hq10) dX5_foldEnd_70 (fun H locs hP hD hS => ?_)
        have hP : va_P (dC, dI) cls ((oX5 (p0a 0) p0a p0k p0w p0l) ++ (oX1 (p1a 0) p1a p1k p1n (upw w7 10 (nn p2) y0_70) p1l)) H := hP
        have hD : va_D A ((oX5 (p0a 0) p0a p0k p0w p0l) ++ (oX1 (p1a 0) p1a p1k p1n (upw w7 10 (nn p2) y0_70) p1l)) := hD
        obtain ⟨w11, ew11, hrun⟩ := let9 hrun
        rw [← ew11] at hP hD
        refine lv_aload_n hx hb dX5_foldEnd_71 rfl (lv_at hl 0 rfl) ?_
        refine va_get (D := (dC, dI)) (ci := 4) (v := .ref (p1a 11)) (C := RX1) (T := TX1) (N := 21) hx hb hts i_X1 hown hK hP 10 rfl rfl 10 (by decide) (hts _ qw499) (fun _ h9 => h9) rfl dX5_foldEnd_72 ?_
        refine lv_iload_n hx hb dX5_foldEnd_75 rfl (lv_at hl 1 rfl) ?_
        refine lv_iconst (v := (-1)) hx hb dX5_foldEnd_76 (by decide) ?_
        obtain ⟨hq12, hrun⟩ := chk9 hrun
        refine va_iast hx hb hK hP hD hS 18 16 rfl rfl (ixb_in hq12) dX5_foldEnd_77 (fun H locs hP hD hS => ?_)
        have hP : va_P (dC, dI) cls ((oX5 (p0a 0) p0a p0k p0w p0l) ++ (oX1 (p1a 0) p1a p1k p1n (upw w11 11 (nn p2) (-1)) p1l)) H := hP
        have hD : va_D A ((oX5 (p0a 0) p0a p0k p0w p0l) ++ (oX1 (p1a 0) p1a p1k p1n (upw w11 11 (nn p2) (-1)) p1l)) := hD
        obtain ⟨w13, ew13, hrun⟩ := let9 hrun
        rw [← ew13] at hP hD
        refine lv_aload_n hx hb dX5_foldEnd_78 rfl (lv_at hl 0 rfl) ?_
        refine va_get (D := (dC, dI)) (ci := 4) (v := .ref (p1a 9)) (C := RX1) (T := TX1) (N := 21) hx hb hts i_X1 hown hK hP 10 rfl rfl 8 (by decide) (hts _ qw445) (fun _ h9 => h9) rfl dX5_foldEnd_79 ?_
        refine lv_iload_n hx hb dX5_foldEnd_82 rfl (lv_at hl 1 rfl) ?_
        refine lv_iconst (v := (-1)) hx hb dX5_foldEnd_83 (by decide) ?_
        obtain ⟨hq14, hrun⟩ := chk9 hrun
        refine va_iast hx hb hK hP hD hS 16 14 rfl rfl (ixb_in hq14) dX5_foldEnd_84 (fun H locs hP hD hS => ?_)
        have hP : va_P (dC, dI) cls ((oX5 (p0a 0) p0a p0k p0w p0l) ++ (oX1 (p1a 0) p1a p1k p1n (upw w13 9 (nn p2) (-1)) p1l)) H := hP
        have hD : va_D A ((oX5 (p0a 0) p0a p0k p0w p0l) ++ (oX1 (p1a 0) p1a p1k p1n (upw w13 9 (nn p2) (-1)) p1l)) := hD
        obtain ⟨w15, ew15, hrun⟩ := let9 hrun
        rw [← ew15] at hP hD
        refine lv_iconst (v := 1) hx hb dX5_foldEnd_85 (by decide) ?_
        have ho9 : (1, w15) = o := Option.some.inj hrun
        have hP9 : va_P (dC, dI) cls ((oX5 (p0a 0) p0a p0k p0w p0l) ++ (oX1 (p1a 0) p1a p1k p1n (o.2) p1l)) H := by first | exact hP | (rw [← ho9]; exact hP)
        have hD9 : va_D A ((oX5 (p0a 0) p0a p0k p0w p0l) ++ (oX1 (p1a 0) p1a p1k p1n (o.2) p1l)) := by first | exact hD | (rw [← ho9]; exact hD)
        subst hQ
        exact W.iret (v := 1) hx hb hr (fun t ht hW => ⟨⟨1, (), rfl, (by rw [← ho9]), ⟨by rw [ht]; exact hP9, va_K.moved hW.alike hK, hD9⟩⟩, hS.F ht⟩) hS.2.2 dX5_foldEnd_86
      rcases br9 hrun with ⟨hc16, hrun⟩ | ⟨hc16, hrun⟩
      · refine lv_if_eq (tgt := 64) hx hb dX5_foldEnd_52 (by decide) (fun _ => ?_) (fun c => absurd hc16 c)
        refine lv_aload_n hx hb dX5_foldEnd_64 rfl (lv_at hl 1 rfl) ?_
        refine va_get (D := (dC, dI)) (ci := 4) (v := .ref (p1a 11)) (C := RX1) (T := TX1) (N := 21) hx hb hts i_X1 hown hK hP 10 rfl rfl 10 (by decide) (hts _ qw499) (fun _ h9 => h9) rfl dX5_foldEnd_65 ?_
        refine lv_iload_n hx hb dX5_foldEnd_68 rfl (lv_at hl 2 rfl) ?_
        obtain ⟨hq17, hrun⟩ := chk9 hrun
        refine va_iald hx hb hK hP 18 16 rfl rfl (ixb_in hq17) dX5_foldEnd_69 ?_
        exact J70 (w7 11 (nn p2)) _ _ _ hrun hP hD hK hS (lv_sub hl [1, 2] rfl)
      · refine lv_if_eq (tgt := 64) hx hb dX5_foldEnd_52 (by decide) (fun c => absurd c hc16) (fun _ => ?_)
        refine lv_aload_n hx hb dX5_foldEnd_55 rfl (lv_at hl 1 rfl) ?_
        refine va_get (D := (dC, dI)) (ci := 4) (v := .ref (p1a 10)) (C := RX1) (T := TX1) (N := 21) hx hb hts i_X1 hown hK hP 10 rfl rfl 9 (by decide) (hts _ qw498) (fun _ h9 => h9) rfl dX5_foldEnd_56 ?_
        refine lv_iload_n hx hb dX5_foldEnd_59 rfl (lv_at hl 2 rfl) ?_
        obtain ⟨hq18, hrun⟩ := chk9 hrun
        refine va_iald hx hb hK hP 17 15 rfl rfl (ixb_in hq18) dX5_foldEnd_60 ?_
        refine lv_goto (tgt := 70) hx hb dX5_foldEnd_61 (by decide) ?_
        exact J70 (w7 10 (nn p2)) _ _ _ hrun hP hD hK hS (lv_sub hl [1, 2] rfl)
    · refine lv_icmp_eq (tgt := 28) hx hb dX5_foldEnd_23 (by decide) (fun c => absurd c hc5) (fun _ => ?_)
      exact J26 _ _ _ hrun hP hD hK hS (lv_sub hl [] rfl)
  · refine lv_icmp_ne (tgt := 26) hx hb dX5_foldEnd_8 (by decide) (fun _ => ?_) (fun c => absurd c hc2)
    exact J26 _ _ _ hrun hP hD hK hS (lv_sub hl [] rfl)
def fX5_foldBlock_J80 (kk16 : Int32 → Int32 → ST → ST → (Nat → Nat) → Option (Int32 × ST × ST × (Nat → Nat))) (v6_16 : Int32) (p1w_16 : ST) (v3_80 : Int32) (p1w_80 : ST) (p1_2w_80 : ST) (p1_2n_80 : Nat → Nat) : Option (Int32 × ST × ST × (Nat → Nat)) := (kk16 v3_80 (p1w_16 20 (nn v6_16)) p1w_80 p1_2w_80 p1_2n_80)
theorem mo_fX5_foldBlock_J80 {kk16 : Int32 → Int32 → ST → ST → (Nat → Nat) → Option (Int32 × ST × ST × (Nat → Nat))} {v6_16 : Int32} {p1w_16 : ST} {v3_80 : Int32} {p1w_80 : ST} {p1_2w_80 : ST} {p1_2n_80 : Nat → Nat} {o9q : Int32 × ST × ST × (Nat → Nat)} (hkk : ∀ (v3_16q : Int32) (v6_16q : Int32) (p1w_16q : ST) (p1_2w_16q : ST) (p1_2n_16q : Nat → Nat) (r9 : Int32 × ST × ST × (Nat → Nat)), kk16 v3_16q v6_16q p1w_16q p1_2w_16q p1_2n_16q = some r9 → glX9 p1_2n_16q (r9.2.2.2)) (hrun : fX5_foldBlock_J80 kk16 v6_16 p1w_16 v3_80 p1w_80 p1_2w_80 p1_2n_80 = some o9q) : glX9 p1_2n_80 (o9q.2.2.2) := by
  unfold fX5_foldBlock_J80 at hrun
  exact (hkk _ _ _ _ _ _ hrun)
def fX5_foldBlock_G66_23 (kk16 : Int32 → Int32 → ST → ST → (Nat → Nat) → Option (Int32 × ST × ST × (Nat → Nat))) (v3_16 : Int32) (v6_16 : Int32) (p1w_16 : ST) (o_11 : Int32 × ST × ST × (Nat → Nat)) : Option (Int32 × ST × ST × (Nat → Nat)) := (fX5_foldBlock_J80 kk16 v6_16 p1w_16 (v3_16 + 1) (o_11.2.1) (o_11.2.2.1) (o_11.2.2.2))
theorem mo_fX5_foldBlock_G66_23 {kk16 : Int32 → Int32 → ST → ST → (Nat → Nat) → Option (Int32 × ST × ST × (Nat → Nat))} {v3_16 : Int32} {v6_16 : Int32} {p1w_16 : ST} {o_11 : Int32 × ST × ST × (Nat → Nat)} {o9q : Int32 × ST × ST × (Nat → Nat)} (hkk : ∀ (v3_16q : Int32) (v6_16q : Int32) (p1w_16q : ST) (p1_2w_16q : ST) (p1_2n_16q : Nat → Nat) (r9 : Int32 × ST × ST × (Nat → Nat)), kk16 v3_16q v6_16q p1w_16q p1_2w_16q p1_2n_16q = some r9 → glX9 p1_2n_16q (r9.2.2.2)) (hrun : fX5_foldBlock_G66_23 kk16 v3_16 v6_16 p1w_16 o_11 = some o9q) : glX9 (o_11.2.2.2) (o9q.2.2.2) := by
  unfold fX5_foldBlock_G66_23 at hrun
  exact (mo_fX5_foldBlock_J80 hkk hrun)
def fX5_foldBlock_L16 (p0w : ST) (p1n : Nat → Nat) (p2 : Int32) : Nat → Int32 → Int32 → ST → ST → (Nat → Nat) → Option (Int32 × ST × ST × (Nat → Nat))
  | 0 => fun _ _ _ _ _ => none
  | n_16 + 1 => fun v3_16 v6_16 p1w_16 p1_2w_16 p1_2n_16 => (if v6_16 < 0 then some (v3_16, p1w_16, p1_2w_16, p1_2n_16) else (if ixb v6_16 (p1n 20) = true then (if ixb v6_16 (p1n 19) = true then (if ixb (p1w_16 19 (nn v6_16)) 250 = true then (if (p0w 4 (nn (p1w_16 19 (nn v6_16)))) = 1 then (if ixb (p1w_16 19 (nn v6_16)) 250 = true then ((fX1_addStep p1w_16 p2 0 (p1w_16 19 (nn v6_16)) (p0w 5 (nn (p1w_16 19 (nn v6_16)))) (-1) p1_2n_16 p1_2w_16).bind fun (o_11 : Int32 × ST × ST × (Nat → Nat)) => (fX5_foldBlock_G66_23 (fX5_foldBlock_L16 p0w p1n p2 n_16) v3_16 v6_16 p1w_16 o_11)) else none) else ((fX1_linkPhi p1n p1w_16 p2 v6_16).bind fun (o_24 : ST) => (fX5_foldBlock_J80 (fX5_foldBlock_L16 p0w p1n p2 n_16) v6_16 p1w_16 v3_16 o_24 p1_2w_16 p1_2n_16))) else none) else none) else none))
theorem mo_fX5_foldBlock_L16 {p0w : ST} {p1n : Nat → Nat} {p2 : Int32} : ∀ (n_16 : Nat) (v3_16 : Int32) (v6_16 : Int32) (p1w_16 : ST) (p1_2w_16 : ST) (p1_2n_16 : Nat → Nat) (o9q : Int32 × ST × ST × (Nat → Nat)), (fX5_foldBlock_L16 p0w p1n p2 n_16) v3_16 v6_16 p1w_16 p1_2w_16 p1_2n_16 = some o9q → glX9 p1_2n_16 (o9q.2.2.2) := by
  intro n_16
  induction n_16 with
  | zero => intro v3_16 v6_16 p1w_16 p1_2w_16 p1_2n_16 o9q hrun; exact (no9 rfl hrun).elim
  | succ n_16 ih9 =>
    intro v3_16 v6_16 p1w_16 p1_2w_16 p1_2n_16 o9q hrun
    unfold fX5_foldBlock_L16 at hrun
    rcases br9 hrun with ⟨hc5, hrun⟩ | ⟨hc5, hrun⟩
    · skip
      obtain rfl := (Option.some.inj hrun)
      exact (glX9_rf _)
    · skip
      obtain ⟨hq6, hrun⟩ := chk9 hrun
      obtain ⟨hq7, hrun⟩ := chk9 hrun
      obtain ⟨hq8, hrun⟩ := chk9 hrun
      rcases br9 hrun with ⟨hc9, hrun⟩ | ⟨hc9, hrun⟩
      · skip
        obtain ⟨hq10, hrun⟩ := chk9 hrun
        obtain ⟨o_11, hc_11, hrun⟩ := bnd9 hrun
        exact (glX9_tr (mo_fX1_addStep hc_11) (mo_fX5_foldBlock_G66_23 ih9 hrun))
      · skip
        obtain ⟨o_24, hc_24, hrun⟩ := bnd9 hrun
        exact (mo_fX5_foldBlock_J80 ih9 hrun)
def fX5_foldBlock_J170 (kk91 : Int32 → Int32 → ST → ST → Option (Int32 × ST × ST)) (p2 : Int32) (o16 : Int32 × ST × ST × (Nat → Nat)) (v6_91 : Int32) (p1w_91 : ST) (p1_2w_91 : ST) (v3_170 : Int32) (p1_2w_170 : ST) : Option (Int32 × ST × ST) := ((fX1_link p1w_91 p2 v6_91 (o16.2.2.2) p1_2w_170).bind fun (o_31 : ST × ST) => (kk91 v3_170 (p1_2w_91 6 (nn v6_91)) (o_31.1) (o_31.2)))
def fX5_foldBlock_L91 (p0w : ST) (p2 : Int32) (o16 : Int32 × ST × ST × (Nat → Nat)) : Nat → Int32 → Int32 → ST → ST → Option (Int32 × ST × ST)
  | 0 => fun _ _ _ _ => none
  | n_91 + 1 => fun v3_91 v6_91 p1w_91 p1_2w_91 => (if v6_91 < 0 then some (v3_91, p1w_91, p1_2w_91) else (if ixb v6_91 ((o16.2.2.2) 6) = true then (if ixb v6_91 ((o16.2.2.2) 2) = true then ((fX11_isOperator (p1_2w_91 2 (nn v6_91))).bind fun (o_29 : Int32) => (if o_29 = 0 then (fX5_foldBlock_J170 (fX5_foldBlock_L91 p0w p2 o16 n_91) p2 o16 v6_91 p1w_91 p1_2w_91 v3_91 p1_2w_91) else (if ixb v6_91 ((o16.2.2.2) 3) = true then (if ixb (p1_2w_91 3 (nn v6_91)) 250 = true then (if (p0w 4 (nn (p1_2w_91 3 (nn v6_91)))) = 1 then (if ixb v6_91 ((o16.2.2.2) 3) = true then (if ixb (p1_2w_91 3 (nn v6_91)) 250 = true then ((fX5_becomeNumber (o16.2.2.2) p1_2w_91 v6_91 (p0w 5 (nn (p1_2w_91 3 (nn v6_91))))).bind fun (o_38 : ST) => (fX5_foldBlock_J170 (fX5_foldBlock_L91 p0w p2 o16 n_91) p2 o16 v6_91 p1w_91 p1_2w_91 (v3_91 + 1) o_38)) else none) else none) else (fX5_foldBlock_J170 (fX5_foldBlock_L91 p0w p2 o16 n_91) p2 o16 v6_91 p1w_91 p1_2w_91 v3_91 p1_2w_91)) else none) else none))) else none) else none))
def fX5_foldBlock_G87_25 (p0w : ST) (p2 : Int32) (o_1 : Int32 × ST) (o16 : Int32 × ST × ST × (Nat → Nat)) : Option (Int32 × ST × ST × (Nat → Nat)) := ((fX5_foldBlock_L91 p0w p2 o16 NF (o16.1) (o_1.1) (o16.2.1) (o16.2.2.1)).bind fun (o91 : Int32 × ST × ST) => ((fX5_foldEnd p0w (o91.2.1) p2).bind fun (o_39 : Int32 × ST) => some (((o91.1) + (o_39.1)), (o_39.2), (o91.2.2), (o16.2.2.2))))
theorem mo_fX5_foldBlock_G87_25 {p0w : ST} {p2 : Int32} {o_1 : Int32 × ST} {o16 : Int32 × ST × ST × (Nat → Nat)} {o9q : Int32 × ST × ST × (Nat → Nat)} (hrun : fX5_foldBlock_G87_25 p0w p2 o_1 o16 = some o9q) : glX9 (o16.2.2.2) (o9q.2.2.2) := by
  unfold fX5_foldBlock_G87_25 at hrun
  obtain ⟨o91, hc91, hrun⟩ := bnd9 hrun
  obtain ⟨o_39, hc_39, hrun⟩ := bnd9 hrun
  obtain rfl := (Option.some.inj hrun)
  exact (glX9_rf _)
def fX5_foldBlock (p0w : ST) (p1n : Nat → Nat) (p1w : ST) (p2 : Int32) (p1_2n : Nat → Nat) (p1_2w : ST) : Option (Int32 × ST × ST × (Nat → Nat)) := ((fX1_takeSteps p1w p2).bind fun (o_1 : Int32 × ST) => ((fX1_takePhis (o_1.2) p2).bind fun (o_3 : Int32 × ST) => ((fX5_foldBlock_L16 p0w p1n p2 NF 0 (o_3.1) (o_3.2) p1_2w p1_2n).bind fun (o16 : Int32 × ST × ST × (Nat → Nat)) => (fX5_foldBlock_G87_25 p0w p2 o_1 o16))))
theorem mo_fX5_foldBlock {p0w : ST} {p1n : Nat → Nat} {p1w : ST} {p2 : Int32} {p1_2n : Nat → Nat} {p1_2w : ST} {o9q : Int32 × ST × ST × (Nat → Nat)} (hrun : fX5_foldBlock p0w p1n p1w p2 p1_2n p1_2w = some o9q) : glX9 p1_2n (o9q.2.2.2) := by
  unfold fX5_foldBlock at hrun
  obtain ⟨o_1, hc_1, hrun⟩ := bnd9 hrun
  obtain ⟨o_3, hc_3, hrun⟩ := bnd9 hrun
  obtain ⟨o16, hc16, hrun⟩ := bnd9 hrun
  exact (glX9_tr (mo_fX5_foldBlock_L16 _ _ _ _ _ _ _ hc16) (mo_fX5_foldBlock_G87_25 hrun))
set_option maxHeartbeats 16000000 in
set_option maxRecDepth 100000 in
theorem kX5_foldBlock {zs : Nat × Nat} (l : Launch) (dC : Nat → ClassId) (dI : Nat → Nat → Nat) (p0a : Nat → Nat) (p0k : Nat → ClassId) (p0w : ST) (p0l : SL) (p1a : Nat → Nat) (p1k : Nat → ClassId) (p1n : Nat → Nat) (p1w : ST) (p1l : SL) (p2 : Int32) (p1_2a : Nat → Nat) (p1_2k : Nat → ClassId) (p1_2n : Nat → Nat) (p1_2w : ST) (sz : Nat) (o : Int32 × ST × ST × (Nat → Nat)) (hrun : fX5_foldBlock p0w p1n p1w p2 p1_2n p1_2w = some o) : Met l yX5_foldBlock (wz yX5_foldBlock cX5_foldBlock 8 (Option.some Jvm.ClassFile.FieldType.int)) ({ frames := 4, cells := (gcX9 p1_2n (o.2.2.2)), slots := (3 * (gcX9 p1_2n (o.2.2.2))), locals := 113 } : Room) (va_Pc [.ref (p0a 0), .ref (p1a 0), .int p2] (PRE zs dC dI ((oX5 (p0a 0) p0a p0k p0w p0l) ++ (oX1 (p1a 0) p1a p1k p1n p1w p1l) ++ (oX9 (p1a 3) p1_2a p1_2k p1_2n p1_2w)) ((tX5 p0k) ++ (tX1 p1k) ++ (tX9 p1_2k)) sz)) (va_Qi (fun (r : Int32) (_ : Unit) => r = (o.1)) (fun _ t => ∃ (xp1_2_1_z : Nat), ∃ (zp1_2_1_z : ClassId), ∃ (xp1_2_2_z : Nat), ∃ (zp1_2_2_z : ClassId), ∃ (xp1_2_3_z : Nat), ∃ (zp1_2_3_z : ClassId), ∃ (xp1_2_4_z : Nat), ∃ (zp1_2_4_z : ClassId), ∃ (xp1_2_5_z : Nat), ∃ (zp1_2_5_z : ClassId), POST dC dI ((oX5 (p0a 0) p0a p0k p0w p0l) ++ (oX1 (p1a 0) p1a p1k p1n (o.2.1) p1l) ++ (oX9 (p1a 3) (st1 (st1 (st1 (st1 (st1 p1_2a 2 xp1_2_1_z) 3 xp1_2_2_z) 4 xp1_2_3_z) 5 xp1_2_4_z) 6 xp1_2_5_z) (st1 (st1 (st1 (st1 (st1 p1_2k 2 zp1_2_1_z) 3 zp1_2_2_z) 4 zp1_2_3_z) 5 zp1_2_4_z) 6 zp1_2_5_z) (o.2.2.2) (o.2.2.1))) ((tX5 p0k) ++ (tX1 p1k) ++ (tX9 (st1 (st1 (st1 (st1 (st1 p1_2k 2 zp1_2_1_z) 3 zp1_2_2_z) 4 zp1_2_3_z) 5 zp1_2_4_z) 6 zp1_2_5_z))) (va_A ((oX5 (p0a 0) p0a p0k p0w p0l) ++ (oX1 (p1a 0) p1a p1k p1n p1w p1l) ++ (oX9 (p1a 3) p1_2a p1_2k p1_2n p1_2w)) sz) t) (va_A ((oX5 (p0a 0) p0a p0k p0w p0l) ++ (oX1 (p1a 0) p1a p1k p1n p1w p1l) ++ (oX9 (p1a 3) p1_2a p1_2k p1_2n p1_2w)) sz)) (gcX9 p1_2n (o.2.2.2)) (3 * (gcX9 p1_2n (o.2.2.2))) (va_A ((oX5 (p0a 0) p0a p0k p0w p0l) ++ (oX1 (p1a 0) p1a p1k p1n p1w p1l) ++ (oX9 (p1a 3) p1_2a p1_2k p1_2n p1_2w)) sz) := by
  refine Met.ofW (cc := cX5_foldBlock) (maxL := 8) (ret := (Option.some Jvm.ClassFile.FieldType.int)) (by decide) rfl ?_
  intro p e s m args below meth c s₁ B hml hv
  obtain ⟨rfl, hsz, hP, hK, hD0, hE⟩ := hv
  have hx := B.exec
  have hb := B.bytes
  have hr := B.returns
  have hts0 := atoms_spec (ws := wz yX5_foldBlock cX5_foldBlock 8 (Option.some Jvm.ClassFile.FieldType.int)) B.pre
  have hts : ∀ w ∈ gw, w.before _ s = true := fun w h => hts0 w (List.mem_cons_of_mem _ h)
  have hown : s.vm.findClass RX5 = some m.cls := findClass_of_methodNamed B.named
  have hlocks := B.notSynchronized
  subst hsz
  have hD := hD0.self (sz := s.heap.size)
  refine gQ9 ?_
  intro Q hQ
  generalize hAe : va_A ((oX5 (p0a 0) p0a p0k p0w p0l) ++ (oX1 (p1a 0) p1a p1k p1n p1w p1l) ++ (oX9 (p1a 3) p1_2a p1_2k p1_2n p1_2w)) s.heap.size = A at hD hE hQ
  have hA : ∀ q : Nat, s.heap.size ≤ q → A q := fun q h => by rw [← hAe]; exact Or.inr h
  have hS : va_S A s.heap s.heap [] := va_S.rf
  have hP : va_P (dC, dI) cls ((oX5 (p0a 0) p0a p0k p0w p0l) ++ (oX1 (p1a 0) p1a p1k p1n p1w p1l) ++ (oX9 (p1a 3) p1_2a p1_2k p1_2n p1_2w)) s.heap := hP
  have hl := lv_entry ([.ref (p0a 0), .ref (p1a 0), .int p2]) (n := 8) (Nat.le_of_ble_eq_true rfl)
  rw [lg_entry_eq]
  generalize (lg_sl ([.ref (p0a 0), .ref (p1a 0), .int p2]) ++ List.replicate (8 - (lg_sl ([.ref (p0a 0), .ref (p1a 0), .int p2])).length) Slot.unset).toArray = ls at hl ⊢
  have hl : lv_has ls 8 [(0, .ref (p0a 0)), (1, .ref (p1a 0)), (2, .int p2)] := hl
  obtain ⟨H, hHe⟩ : ∃ H, H = s.heap := ⟨_, rfl⟩
  obtain ⟨locs, hle⟩ : ∃ locs : List Loc, locs = [] := ⟨_, rfl⟩
  rw [← hHe] at hP
  have hS : va_S A s.heap H locs := by rw [hHe, hle]; exact hS
  show W p l e ({ frames := 4, cells := (gcX9 p1_2n (o.2.2.2)), slots := (3 * (gcX9 p1_2n (o.2.2.2))), locals := 113 } : Room) s m ([.ref (p0a 0), .ref (p1a 0), .int p2] : List Value).toArray below meth c s.heap [] 0 0 Q (F0 m 0 ls [])
  rw [← hle]
  refine wH9 hHe ?_
  have hg_p1_2 := glX9_rf p1_2n
  have hgn_p1_2 : glX9 p1_2n (o.2.2.2) := (mo_fX5_foldBlock hrun)
  refine W.widen (k := (gcX9 p1_2n p1_2n)) (n := (3 * (gcX9 p1_2n p1_2n))) (Nat.zero_le _) (Nat.zero_le _) ?_
  unfold fX5_foldBlock at hrun
  refine lv_iconst (v := 0) hx hb dX5_foldBlock_0 (by decide) ?_
  refine lv_istore_n (lv' := [(3, .int 0), (0, .ref (p0a 0)), (1, .ref (p1a 0)), (2, .int p2)]) hx hb dX5_foldBlock_1 rfl hl (by decide) rfl (fun ls hl => ?_)
  refine lv_aload_n hx hb dX5_foldBlock_2 rfl (lv_at hl 2 rfl) ?_
  refine lv_iload_n hx hb dX5_foldBlock_3 rfl (lv_at hl 3 rfl) ?_
  obtain ⟨o_1, hc_1, hrun⟩ := bnd9 hrun
  have hPc := hP.sub (ws' := (oX1 (p1a 0) p1a p1k p1n p1w p1l)) [10, 11, 12, 13, 14, 15, 16, 17, 18, 19, 20, 21, 22, 23, 24, 25, 26, 27] rfl
  have hDc := hD.sub (ws' := (oX1 (p1a 0) p1a p1k p1n p1w p1l)) [10, 11, 12, 13, 14, 15, 16, 17, 18, 19, 20, 21, 22, 23, 24, 25, 26, 27] (by decide) rfl
  have hKc := hK.sub (tys' := (tX1 p1k)) [9, 10, 11, 12, 13, 14, 15, 16, 17, 18, 19, 20, 21, 22, 23, 24, 25] rfl
  have hFc := va_free (wc := (oX1 (p1a 0) p1a p1k p1n p1w p1l)) hD hS hA [10, 11, 12, 13, 14, 15, 16, 17, 18, 19, 20, 21, 22, 23, 24, 25, 26, 27] rfl
  refine va_calli (va_runV (As := [.int p2]) (rest := []) ⟨hx, hb, hml, hown, hts⟩ (kX1_takeSteps l dC dI (p0a := (st0 (p1a 0) p1a)) (p0k := p1k) (p0n := p1n) (p0w := p1w) (p0l := p1l) (p1 := p2) (sz := _) (o := o_1) (hrun := hc_1)) (cwV 1 hts (gi_V qw488 qw179 qw180 qw126 (gi_z qw177)) rfl rfl rfl (by decide +kernel) ⟨Nat.le_of_ble_eq_true rfl, Nat.le_of_ble_eq_true rfl⟩) ⟨PRE.blind, va_recv hKc hPc (ci := 4) (q0 := 0) rfl rfl, PRE.of hE hS hFc hPc hKc hDc⟩ rfl rfl hl.1 rfl (lv_room (Nat.le_of_ble_eq_true rfl)) dX5_foldBlock_4 ⟨(show (gcX9 p1_2n p1_2n) + 0 ≤ (gcX9 p1_2n (o.2.2.2)) from by have q0 := gmX9 hg_p1_2 hgn_p1_2; omega), (show (3 * (gcX9 p1_2n p1_2n)) + 0 ≤ (3 * (gcX9 p1_2n (o.2.2.2))) from by have q0 := gmX9 hg_p1_2 hgn_p1_2; omega)⟩) hS (fun q _ h => hFc q h) hFc (fun r2 u t H locs ht hvm hw hB hz1 hk1 hS => ?_)
  obtain ⟨hP, hD, hK⟩ := JOIN (wr := ((oX5 (p0a 0) p0a p0k p0w p0l) ++ (oX9 (p1a 3) p1_2a p1_2k p1_2n p1_2w))) hP hD hK [10, 11, 12, 13, 14, 15, 16, 17, 18, 19, 20, 21, 22, 23, 24, 25, 26, 27] [0, 1, 2, 3, 4, 5, 6, 7, 8, 9, 28, 29, 30, 31, 32, 33] [0, 1, 2, 3, 4, 5, 6, 7, 8, 26, 27, 28, 29, 30] rfl rfl (by decide) (by decide) rfl hk1 hFc ht hvm hB
  have hP : va_P (dC, dI) cls ((oX5 (p0a 0) p0a p0k p0w p0l) ++ (oX1 (p1a 0) p1a p1k p1n (o_1.2) p1l) ++ (oX9 (p1a 3) p1_2a p1_2k p1_2n p1_2w)) H := hP.sub [0, 1, 2, 3, 4, 5, 6, 7, 8, 9, 16, 17, 18, 19, 20, 21, 22, 23, 24, 25, 26, 27, 28, 29, 30, 31, 32, 33, 10, 11, 12, 13, 14, 15] rfl
  have hD : va_D A ((oX5 (p0a 0) p0a p0k p0w p0l) ++ (oX1 (p1a 0) p1a p1k p1n (o_1.2) p1l) ++ (oX9 (p1a 3) p1_2a p1_2k p1_2n p1_2w)) := hD.sub [0, 1, 2, 3, 4, 5, 6, 7, 8, 9, 16, 17, 18, 19, 20, 21, 22, 23, 24, 25, 26, 27, 28, 29, 30, 31, 32, 33, 10, 11, 12, 13, 14, 15] (by decide) rfl
  have hK : va_K (dC, dI) cls ((tX5 p0k) ++ (tX1 p1k) ++ (tX9 p1_2k)) s := hK.sub [0, 1, 2, 3, 4, 5, 6, 7, 8, 14, 15, 16, 17, 18, 19, 20, 21, 22, 23, 24, 25, 26, 27, 28, 29, 30, 9, 10, 11, 12, 13] rfl
  obtain rfl : r2 = (o_1.1) := hw
  refine lv_istore (lv' := [(5, .int (o_1.1)), (3, .int 0), (0, .ref (p0a 0)), (1, .ref (p1a 0)), (2, .int p2)]) hx hb dX5_foldBlock_7 hl (by decide) rfl (fun ls hl => ?_)
  refine lv_aload_n hx hb dX5_foldBlock_9 rfl (lv_at hl 3 rfl) ?_
  refine lv_iload_n hx hb dX5_foldBlock_10 rfl (lv_at hl 4 rfl) ?_
  obtain ⟨o_3, hc_3, hrun⟩ := bnd9 hrun
  have hPc := hP.sub (ws' := (oX1 (p1a 0) p1a p1k p1n (o_1.2) p1l)) [10, 11, 12, 13, 14, 15, 16, 17, 18, 19, 20, 21, 22, 23, 24, 25, 26, 27] rfl
  have hDc := hD.sub (ws' := (oX1 (p1a 0) p1a p1k p1n (o_1.2) p1l)) [10, 11, 12, 13, 14, 15, 16, 17, 18, 19, 20, 21, 22, 23, 24, 25, 26, 27] (by decide) rfl
  have hKc := hK.sub (tys' := (tX1 p1k)) [9, 10, 11, 12, 13, 14, 15, 16, 17, 18, 19, 20, 21, 22, 23, 24, 25] rfl
  have hFc := va_free (wc := (oX1 (p1a 0) p1a p1k p1n (o_1.2) p1l)) hD hS hA [10, 11, 12, 13, 14, 15, 16, 17, 18, 19, 20, 21, 22, 23, 24, 25, 26, 27] rfl
  refine va_calli (va_runV (As := [.int p2]) (rest := []) ⟨hx, hb, hml, hown, hts⟩ (kX1_takePhis l dC dI (p0a := (st0 (p1a 0) p1a)) (p0k := p1k) (p0n := p1n) (p0w := (o_1.2)) (p0l := p1l) (p1 := p2) (sz := _) (o := o_3) (hrun := hc_3)) (cwV 1 hts (gi_V qw489 qw175 qw176 qw126 (gi_z qw173)) rfl rfl rfl (by decide +kernel) ⟨Nat.le_of_ble_eq_true rfl, Nat.le_of_ble_eq_true rfl⟩) ⟨PRE.blind, va_recv hKc hPc (ci := 4) (q0 := 0) rfl rfl, PRE.of hE hS hFc hPc hKc hDc⟩ rfl rfl hl.1 rfl (lv_room (Nat.le_of_ble_eq_true rfl)) dX5_foldBlock_11 ⟨(show (gcX9 p1_2n p1_2n) + 0 ≤ (gcX9 p1_2n (o.2.2.2)) from by have q0 := gmX9 hg_p1_2 hgn_p1_2; omega), (show (3 * (gcX9 p1_2n p1_2n)) + 0 ≤ (3 * (gcX9 p1_2n (o.2.2.2))) from by have q0 := gmX9 hg_p1_2 hgn_p1_2; omega)⟩) hS (fun q _ h => hFc q h) hFc (fun r4 u t H locs ht hvm hw hB hz1 hk1 hS => ?_)
  obtain ⟨hP, hD, hK⟩ := JOIN (wr := ((oX5 (p0a 0) p0a p0k p0w p0l) ++ (oX9 (p1a 3) p1_2a p1_2k p1_2n p1_2w))) hP hD hK [10, 11, 12, 13, 14, 15, 16, 17, 18, 19, 20, 21, 22, 23, 24, 25, 26, 27] [0, 1, 2, 3, 4, 5, 6, 7, 8, 9, 28, 29, 30, 31, 32, 33] [0, 1, 2, 3, 4, 5, 6, 7, 8, 26, 27, 28, 29, 30] rfl rfl (by decide) (by decide) rfl hk1 hFc ht hvm hB
  have hP : va_P (dC, dI) cls ((oX5 (p0a 0) p0a p0k p0w p0l) ++ (oX1 (p1a 0) p1a p1k p1n (o_3.2) p1l) ++ (oX9 (p1a 3) p1_2a p1_2k p1_2n p1_2w)) H := hP.sub [0, 1, 2, 3, 4, 5, 6, 7, 8, 9, 16, 17, 18, 19, 20, 21, 22, 23, 24, 25, 26, 27, 28, 29, 30, 31, 32, 33, 10, 11, 12, 13, 14, 15] rfl
  have hD : va_D A ((oX5 (p0a 0) p0a p0k p0w p0l) ++ (oX1 (p1a 0) p1a p1k p1n (o_3.2) p1l) ++ (oX9 (p1a 3) p1_2a p1_2k p1_2n p1_2w)) := hD.sub [0, 1, 2, 3, 4, 5, 6, 7, 8, 9, 16, 17, 18, 19, 20, 21, 22, 23, 24, 25, 26, 27, 28, 29, 30, 31, 32, 33, 10, 11, 12, 13, 14, 15] (by decide) rfl
  have hK : va_K (dC, dI) cls ((tX5 p0k) ++ (tX1 p1k) ++ (tX9 p1_2k)) s := hK.sub [0, 1, 2, 3, 4, 5, 6, 7, 8, 14, 15, 16, 17, 18, 19, 20, 21, 22, 23, 24, 25, 26, 27, 28, 29, 30, 9, 10, 11, 12, 13] rfl
  obtain rfl : r4 = (o_3.1) := hw
  refine lv_istore (lv' := [(6, .int (o_3.1)), (5, .int (o_1.1)), (3, .int 0), (0, .ref (p0a 0)), (1, .ref (p1a 0)), (2, .int p2)]) hx hb dX5_foldBlock_14 hl (by decide) rfl (fun ls hl => ?_)
  obtain ⟨o16, hc16, hrun⟩ := bnd9 hrun
  have hgn_p1_2 : glX9 (o16.2.2.2) (o.2.2.2) := (mo_fX5_foldBlock_G87_25 hrun)
  have L16 : ∀ (n_16 : Nat) (v3_16 : Int32) (v6_16 : Int32) (p1w_16 : ST) (p1_2w_16 : ST) (p1_2n_16 : Nat → Nat) (xp1_2_1_16 : Nat) (zp1_2_1_16 : ClassId) (xp1_2_2_16 : Nat) (zp1_2_2_16 : ClassId) (xp1_2_3_16 : Nat) (zp1_2_3_16 : ClassId) (xp1_2_4_16 : Nat) (zp1_2_4_16 : ClassId) (xp1_2_5_16 : Nat) (zp1_2_5_16 : ClassId) (o16 : Int32 × ST × ST × (Nat → Nat)) (H : Heap) (locs : List Loc) (ls : Array Slot), (fX5_foldBlock_L16 p0w p1n p2 n_16) v3_16 v6_16 p1w_16 p1_2w_16 p1_2n_16 = some o16 → va_P (dC, dI) cls ((oX5 (p0a 0) p0a p0k p0w p0l) ++ (oX1 (p1a 0) p1a p1k p1n p1w_16 p1l) ++ (oX9 (p1a 3) (st1 (st1 (st1 (st1 (st1 p1_2a 2 xp1_2_1_16) 3 xp1_2_2_16) 4 xp1_2_3_16) 5 xp1_2_4_16) 6 xp1_2_5_16) (st1 (st1 (st1 (st1 (st1 p1_2k 2 zp1_2_1_16) 3 zp1_2_2_16) 4 zp1_2_3_16) 5 zp1_2_4_16) 6 zp1_2_5_16) p1_2n_16 p1_2w_16)) H → va_D A ((oX5 (p0a 0) p0a p0k p0w p0l) ++ (oX1 (p1a 0) p1a p1k p1n p1w_16 p1l) ++ (oX9 (p1a 3) (st1 (st1 (st1 (st1 (st1 p1_2a 2 xp1_2_1_16) 3 xp1_2_2_16) 4 xp1_2_3_16) 5 xp1_2_4_16) 6 xp1_2_5_16) (st1 (st1 (st1 (st1 (st1 p1_2k 2 zp1_2_1_16) 3 zp1_2_2_16) 4 zp1_2_3_16) 5 zp1_2_4_16) 6 zp1_2_5_16) p1_2n_16 p1_2w_16)) → va_K (dC, dI) cls ((tX5 p0k) ++ (tX1 p1k) ++ (tX9 (st1 (st1 (st1 (st1 (st1 p1_2k 2 zp1_2_1_16) 3 zp1_2_2_16) 4 zp1_2_3_16) 5 zp1_2_4_16) 6 zp1_2_5_16))) s → va_S A s.heap H locs → lv_has ls 8 [(0, .ref (p0a 0)), (1, .ref (p1a 0)), (2, .int p2), (3, .int v3_16), (5, .int (o_1.1)), (6, .int v6_16)] → glX9 p1_2n p1_2n_16 → glX9 (o16.2.2.2) (o.2.2.2) → (∀ (xp1_2_1_16x : Nat) (zp1_2_1_16x : ClassId) (xp1_2_2_16x : Nat) (zp1_2_2_16x : ClassId) (xp1_2_3_16x : Nat) (zp1_2_3_16x : ClassId) (xp1_2_4_16x : Nat) (zp1_2_4_16x : ClassId) (xp1_2_5_16x : Nat) (zp1_2_5_16x : ClassId) (H : Heap) (locs : List Loc) (ls : Array Slot), va_P (dC, dI) cls ((oX5 (p0a 0) p0a p0k p0w p0l) ++ (oX1 (p1a 0) p1a p1k p1n (o16.2.1) p1l) ++ (oX9 (p1a 3) (st1 (st1 (st1 (st1 (st1 p1_2a 2 xp1_2_1_16x) 3 xp1_2_2_16x) 4 xp1_2_3_16x) 5 xp1_2_4_16x) 6 xp1_2_5_16x) (st1 (st1 (st1 (st1 (st1 p1_2k 2 zp1_2_1_16x) 3 zp1_2_2_16x) 4 zp1_2_3_16x) 5 zp1_2_4_16x) 6 zp1_2_5_16x) (o16.2.2.2) (o16.2.2.1))) H → va_D A ((oX5 (p0a 0) p0a p0k p0w p0l) ++ (oX1 (p1a 0) p1a p1k p1n (o16.2.1) p1l) ++ (oX9 (p1a 3) (st1 (st1 (st1 (st1 (st1 p1_2a 2 xp1_2_1_16x) 3 xp1_2_2_16x) 4 xp1_2_3_16x) 5 xp1_2_4_16x) 6 xp1_2_5_16x) (st1 (st1 (st1 (st1 (st1 p1_2k 2 zp1_2_1_16x) 3 zp1_2_2_16x) 4 zp1_2_3_16x) 5 zp1_2_4_16x) 6 zp1_2_5_16x) (o16.2.2.2) (o16.2.2.1))) → va_K (dC, dI) cls ((tX5 p0k) ++ (tX1 p1k) ++ (tX9 (st1 (st1 (st1 (st1 (st1 p1_2k 2 zp1_2_1_16x) 3 zp1_2_2_16x) 4 zp1_2_3_16x) 5 zp1_2_4_16x) 6 zp1_2_5_16x))) s → va_S A s.heap H locs → lv_has ls 8 [(0, .ref (p0a 0)), (1, .ref (p1a 0)), (2, .int p2), (3, .int (o16.1)), (5, .int (o_1.1))] → glX9 p1_2n (o16.2.2.2) → W p l e ({ frames := 4, cells := (gcX9 p1_2n (o.2.2.2)), slots := (3 * (gcX9 p1_2n (o.2.2.2))), locals := 113 } : Room) s m ([.ref (p0a 0), .ref (p1a 0), .int p2] : List Value).toArray below meth c H locs (gcX9 p1_2n (o16.2.2.2)) (3 * (gcX9 p1_2n (o16.2.2.2))) Q (F0 m 87 ls [])) → W p l e ({ frames := 4, cells := (gcX9 p1_2n (o.2.2.2)), slots := (3 * (gcX9 p1_2n (o.2.2.2))), locals := 113 } : Room) s m ([.ref (p0a 0), .ref (p1a 0), .int p2] : List Value).toArray below meth c H locs (gcX9 p1_2n p1_2n_16) (3 * (gcX9 p1_2n p1_2n_16)) Q (F0 m 16 ls []) := by
    intro n_16
    induction n_16 with
    | zero => intro v3_16 v6_16 p1w_16 p1_2w_16 p1_2n_16 xp1_2_1_16 zp1_2_1_16 xp1_2_2_16 zp1_2_2_16 xp1_2_3_16 zp1_2_3_16 xp1_2_4_16 zp1_2_4_16 xp1_2_5_16 zp1_2_5_16 o16 H locs ls hrun; exact (no9 rfl hrun).elim
    | succ n_16 IH16 =>
      intro v3_16 v6_16 p1w_16 p1_2w_16 p1_2n_16 xp1_2_1_16 zp1_2_1_16 xp1_2_2_16 zp1_2_2_16 xp1_2_3_16 zp1_2_3_16 xp1_2_4_16 zp1_2_4_16 xp1_2_5_16 zp1_2_5_16 o16 H locs ls hrun hP hD hK hS hl hg_p1_2 hgo_p1_2 hk16
      have hgn_p1_2 : glX9 p1_2n_16 (o.2.2.2) := (glX9_tr (mo_fX5_foldBlock_L16 (n_16 + 1) _ _ _ _ _ _ hrun) hgo_p1_2)
      unfold fX5_foldBlock_L16 at hrun
      refine lv_iload hx hb dX5_foldBlock_16 (lv_at hl 5 rfl) ?_
      rcases br9 hrun with ⟨hc5, hrun⟩ | ⟨hc5, hrun⟩
      · refine lv_if_lt (tgt := 87) hx hb dX5_foldBlock_18 (by decide) (fun _ => ?_) (fun c => absurd hc5 c)
        obtain rfl := (Option.some.inj hrun)
        exact hk16 xp1_2_1_16 zp1_2_1_16 xp1_2_2_16 zp1_2_2_16 xp1_2_3_16 zp1_2_3_16 xp1_2_4_16 zp1_2_4_16 xp1_2_5_16 zp1_2_5_16 _ _ _ hP hD hK hS (lv_sub hl [0, 1, 2, 3, 4] rfl) hg_p1_2
      · refine lv_if_lt (tgt := 87) hx hb dX5_foldBlock_18 (by decide) (fun c => absurd c hc5) (fun _ => ?_)
        refine lv_aload_n hx hb dX5_foldBlock_21 rfl (lv_at hl 1 rfl) ?_
        refine va_get (D := (dC, dI)) (ci := 4) (v := .ref (p1a 20)) (C := RX1) (T := TX1) (N := 21) hx hb hts i_X1 hown hK hP 10 rfl rfl 19 (by decide) (hts _ qw433) (fun _ h9 => h9) rfl dX5_foldBlock_22 ?_
        refine lv_iload hx hb dX5_foldBlock_25 (lv_at hl 5 rfl) ?_
        obtain ⟨hq6, hrun⟩ := chk9 hrun
        refine va_iald hx hb hK hP 26 24 rfl rfl (ixb_in hq6) dX5_foldBlock_27 ?_
        refine lv_istore (lv' := [(4, .int (p1w_16 20 (nn v6_16))), (0, .ref (p0a 0)), (1, .ref (p1a 0)), (2, .int p2), (3, .int v3_16), (5, .int (o_1.1)), (6, .int v6_16)]) hx hb dX5_foldBlock_28 hl (by decide) rfl (fun ls hl => ?_)
        refine lv_aload_n hx hb dX5_foldBlock_30 rfl (lv_at hl 2 rfl) ?_
        refine va_get (D := (dC, dI)) (ci := 4) (v := .ref (p1a 19)) (C := RX1) (T := TX1) (N := 21) hx hb hts i_X1 hown hK hP 10 rfl rfl 18 (by decide) (hts _ qw432) (fun _ h9 => h9) rfl dX5_foldBlock_31 ?_
        refine lv_iload hx hb dX5_foldBlock_34 (lv_at hl 6 rfl) ?_
        obtain ⟨hq7, hrun⟩ := chk9 hrun
        refine va_iald hx hb hK hP 25 23 rfl rfl (ixb_in hq7) dX5_foldBlock_36 ?_
        refine lv_istore (lv' := [(7, .int (p1w_16 19 (nn v6_16))), (4, .int (p1w_16 20 (nn v6_16))), (0, .ref (p0a 0)), (1, .ref (p1a 0)), (2, .int p2), (3, .int v3_16), (5, .int (o_1.1)), (6, .int v6_16)]) hx hb dX5_foldBlock_37 hl (by decide) rfl (fun ls hl => ?_)
        refine lv_aload_n hx hb dX5_foldBlock_39 rfl (lv_at hl 2 rfl) ?_
        refine va_get (D := (dC, dI)) (ci := 7) (v := .ref (p0a 4)) (C := RX5) (T := TX5) (N := 12) hx hb hts i_X5 hown hK hP 0 rfl rfl 3 (by decide) (hts _ qw490) (fun _ h9 => h9) rfl dX5_foldBlock_40 ?_
        refine lv_iload hx hb dX5_foldBlock_43 (lv_at hl 0 rfl) ?_
        obtain ⟨hq8, hrun⟩ := chk9 hrun
        refine va_iald hx hb hK hP 3 2 rfl rfl (ixb_in hq8) dX5_foldBlock_45 ?_
        refine lv_iconst (v := 1) hx hb dX5_foldBlock_46 (by decide) ?_
        have J80 : ∀ (v3_80 : Int32) (p1w_80 : ST) (p1_2w_80 : ST) (p1_2n_80 : Nat → Nat) (xp1_2_1_80 : Nat) (zp1_2_1_80 : ClassId) (xp1_2_2_80 : Nat) (zp1_2_2_80 : ClassId) (xp1_2_3_80 : Nat) (zp1_2_3_80 : ClassId) (xp1_2_4_80 : Nat) (zp1_2_4_80 : ClassId) (xp1_2_5_80 : Nat) (zp1_2_5_80 : ClassId) (H : Heap) (locs : List Loc) (ls : Array Slot), (fX5_foldBlock_J80 (fX5_foldBlock_L16 p0w p1n p2 n_16) v6_16 p1w_16 v3_80 p1w_80 p1_2w_80 p1_2n_80) = some o16 → va_P (dC, dI) cls ((oX5 (p0a 0) p0a p0k p0w p0l) ++ (oX1 (p1a 0) p1a p1k p1n p1w_80 p1l) ++ (oX9 (p1a 3) (st1 (st1 (st1 (st1 (st1 p1_2a 2 xp1_2_1_80) 3 xp1_2_2_80) 4 xp1_2_3_80) 5 xp1_2_4_80) 6 xp1_2_5_80) (st1 (st1 (st1 (st1 (st1 p1_2k 2 zp1_2_1_80) 3 zp1_2_2_80) 4 zp1_2_3_80) 5 zp1_2_4_80) 6 zp1_2_5_80) p1_2n_80 p1_2w_80)) H → va_D A ((oX5 (p0a 0) p0a p0k p0w p0l) ++ (oX1 (p1a 0) p1a p1k p1n p1w_80 p1l) ++ (oX9 (p1a 3) (st1 (st1 (st1 (st1 (st1 p1_2a 2 xp1_2_1_80) 3 xp1_2_2_80) 4 xp1_2_3_80) 5 xp1_2_4_80) 6 xp1_2_5_80) (st1 (st1 (st1 (st1 (st1 p1_2k 2 zp1_2_1_80) 3 zp1_2_2_80) 4 zp1_2_3_80) 5 zp1_2_4_80) 6 zp1_2_5_80) p1_2n_80 p1_2w_80)) → va_K (dC, dI) cls ((tX5 p0k) ++ (tX1 p1k) ++ (tX9 (st1 (st1 (st1 (st1 (st1 p1_2k 2 zp1_2_1_80) 3 zp1_2_2_80) 4 zp1_2_3_80) 5 zp1_2_4_80) 6 zp1_2_5_80))) s → va_S A s.heap H locs → lv_has ls 8 [(0, .ref (p0a 0)), (1, .ref (p1a 0)), (2, .int p2), (3, .int v3_80), (4, .int (p1w_16 20 (nn v6_16))), (5, .int (o_1.1))] → glX9 p1_2n p1_2n_80 → W p l e ({ frames := 4, cells := (gcX9 p1_2n (o.2.2.2)), slots := (3 * (gcX9 p1_2n (o.2.2.2))), locals := 113 } : Room) s m ([.ref (p0a 0), .ref (p1a 0), .int p2] : List Value).toArray below meth c H locs (gcX9 p1_2n p1_2n_80) (3 * (gcX9 p1_2n p1_2n_80)) Q (F0 m 80 ls []) := by
          intro v3_80 p1w_80 p1_2w_80 p1_2n_80 xp1_2_1_80 zp1_2_1_80 xp1_2_2_80 zp1_2_2_80 xp1_2_3_80 zp1_2_3_80 xp1_2_4_80 zp1_2_4_80 xp1_2_5_80 zp1_2_5_80 H locs ls hrun hP hD hK hS hl hg_p1_2 
          have hgn_p1_2 : glX9 p1_2n_80 (o.2.2.2) := (glX9_tr (mo_fX5_foldBlock_J80 (mo_fX5_foldBlock_L16 n_16) hrun) hgo_p1_2)
          unfold fX5_foldBlock_J80 at hrun
          refine lv_iload hx hb dX5_foldBlock_80 (lv_at hl 4 rfl) ?_
          refine lv_istore (lv' := [(6, .int (p1w_16 20 (nn v6_16))), (0, .ref (p0a 0)), (1, .ref (p1a 0)), (2, .int p2), (3, .int v3_80), (4, .int (p1w_16 20 (nn v6_16))), (5, .int (o_1.1))]) hx hb dX5_foldBlock_82 hl (by decide) rfl (fun ls hl => ?_)
          refine lv_goto (tgt := 16) hx hb dX5_foldBlock_84 (by decide) ?_
          exact IH16 v3_80 (p1w_16 20 (nn v6_16)) p1w_80 p1_2w_80 p1_2n_80 xp1_2_1_80 zp1_2_1_80 xp1_2_2_80 zp1_2_2_80 xp1_2_3_80 zp1_2_3_80 xp1_2_4_80 zp1_2_4_80 xp1_2_5_80 zp1_2_5_80 o16 _ _ _ hrun hP hD hK hS (lv_sub hl [1, 2, 3, 4, 6, 0] rfl) hg_p1_2 hgo_p1_2 hk16
        rcases br9 hrun with ⟨hc9, hrun⟩ | ⟨hc9, hrun⟩
        · refine lv_icmp_ne (tgt := 73) hx hb dX5_foldBlock_47 (by decide) (fun c => absurd hc9 c) (fun _ => ?_)
          refine lv_aload_n hx hb dX5_foldBlock_50 rfl (lv_at hl 3 rfl) ?_
          refine lv_iload_n hx hb dX5_foldBlock_51 rfl (lv_at hl 4 rfl) ?_
          refine lv_iconst (v := 0) hx hb dX5_foldBlock_52 (by decide) ?_
          refine lv_iload hx hb dX5_foldBlock_53 (lv_at hl 0 rfl) ?_
          refine lv_aload_n hx hb dX5_foldBlock_55 rfl (lv_at hl 2 rfl) ?_
          refine va_get (D := (dC, dI)) (ci := 7) (v := .ref (p0a 5)) (C := RX5) (T := TX5) (N := 12) hx hb hts i_X5 hown hK hP 0 rfl rfl 4 (by decide) (hts _ qw491) (fun _ h9 => h9) rfl dX5_foldBlock_56 ?_
          refine lv_iload hx hb dX5_foldBlock_59 (lv_at hl 0 rfl) ?_
          obtain ⟨hq10, hrun⟩ := chk9 hrun
          refine va_iald hx hb hK hP 4 3 rfl rfl (ixb_in hq10) dX5_foldBlock_61 ?_
          refine lv_iconst (v := (-1)) hx hb dX5_foldBlock_62 (by decide) ?_
          obtain ⟨o_11, hc_11, hrun⟩ := bnd9 hrun
          have hPc := hP.sub (ws' := ((oX1 (p1a 0) p1a p1k p1n p1w_16 p1l) ++ (oX9 (p1a 3) (st1 (st1 (st1 (st1 (st1 p1_2a 2 xp1_2_1_16) 3 xp1_2_2_16) 4 xp1_2_3_16) 5 xp1_2_4_16) 6 xp1_2_5_16) (st1 (st1 (st1 (st1 (st1 p1_2k 2 zp1_2_1_16) 3 zp1_2_2_16) 4 zp1_2_3_16) 5 zp1_2_4_16) 6 zp1_2_5_16) p1_2n_16 p1_2w_16))) [10, 11, 12, 13, 14, 15, 16, 17, 18, 19, 20, 21, 22, 23, 24, 25, 26, 27, 28, 29, 30, 31, 32, 33] rfl
          have hDc := hD.sub (ws' := ((oX1 (p1a 0) p1a p1k p1n p1w_16 p1l) ++ (oX9 (p1a 3) (st1 (st1 (st1 (st1 (st1 p1_2a 2 xp1_2_1_16) 3 xp1_2_2_16) 4 xp1_2_3_16) 5 xp1_2_4_16) 6 xp1_2_5_16) (st1 (st1 (st1 (st1 (st1 p1_2k 2 zp1_2_1_16) 3 zp1_2_2_16) 4 zp1_2_3_16) 5 zp1_2_4_16) 6 zp1_2_5_16) p1_2n_16 p1_2w_16))) [10, 11, 12, 13, 14, 15, 16, 17, 18, 19, 20, 21, 22, 23, 24, 25, 26, 27, 28, 29, 30, 31, 32, 33] (by decide) rfl
          have hKc := hK.sub (tys' := ((tX1 p1k) ++ (tX9 (st1 (st1 (st1 (st1 (st1 p1_2k 2 zp1_2_1_16) 3 zp1_2_2_16) 4 zp1_2_3_16) 5 zp1_2_4_16) 6 zp1_2_5_16)))) [9, 10, 11, 12, 13, 14, 15, 16, 17, 18, 19, 20, 21, 22, 23, 24, 25, 26, 27, 28, 29, 30] rfl
          have hFc := va_free (wc := ((oX1 (p1a 0) p1a p1k p1n p1w_16 p1l) ++ (oX9 (p1a 3) (st1 (st1 (st1 (st1 (st1 p1_2a 2 xp1_2_1_16) 3 xp1_2_2_16) 4 xp1_2_3_16) 5 xp1_2_4_16) 6 xp1_2_5_16) (st1 (st1 (st1 (st1 (st1 p1_2k 2 zp1_2_1_16) 3 zp1_2_2_16) 4 zp1_2_3_16) 5 zp1_2_4_16) 6 zp1_2_5_16) p1_2n_16 p1_2w_16))) hD hS hA [10, 11, 12, 13, 14, 15, 16, 17, 18, 19, 20, 21, 22, 23, 24, 25, 26, 27, 28, 29, 30, 31, 32, 33] rfl
          have hgn_p1_2 : glX9 (o_11.2.2.2) (o.2.2.2) := (glX9_tr (mo_fX5_foldBlock_G66_23 (mo_fX5_foldBlock_L16 n_16) hrun) hgo_p1_2)
          refine va_calli (va_runV (As := [.int p2, .int 0, .int (p1w_16 19 (nn v6_16)), .int (p0w 5 (nn (p1w_16 19 (nn v6_16)))), .int (-1)]) (rest := []) ⟨hx, hb, hml, hown, hts⟩ (kX1_addStep l dC dI (p0a := (st0 (p1a 0) p1a)) (p0k := p1k) (p0n := p1n) (p0w := p1w_16) (p0l := p1l) (p1 := p2) (p2 := 0) (p3 := (p1w_16 19 (nn v6_16))) (p4 := (p0w 5 (nn (p1w_16 19 (nn v6_16))))) (p5 := (-1)) (p0_2a := (st1 (st1 (st1 (st1 (st1 p1_2a 2 xp1_2_1_16) 3 xp1_2_2_16) 4 xp1_2_3_16) 5 xp1_2_4_16) 6 xp1_2_5_16)) (p0_2k := (st1 (st1 (st1 (st1 (st1 p1_2k 2 zp1_2_1_16) 3 zp1_2_2_16) 4 zp1_2_3_16) 5 zp1_2_4_16) 6 zp1_2_5_16)) (p0_2n := p1_2n_16) (p0_2w := p1_2w_16) (sz := _) (o := o_11) (hrun := hc_11)) (cwV 5 hts (gi_V qw492 qw165 qw166 qw126 (gi_z qw163)) rfl rfl rfl (by decide +kernel) ⟨Nat.le_of_ble_eq_true rfl, Nat.le_of_ble_eq_true rfl⟩) ⟨PRE.blind, va_recv hKc hPc (ci := 4) (q0 := 0) rfl rfl, PRE.of hE hS hFc hPc hKc hDc⟩ rfl rfl hl.1 rfl (lv_room (Nat.le_of_ble_eq_true rfl)) dX5_foldBlock_63 ⟨(show (gcX9 p1_2n p1_2n_16) + (gcX9 p1_2n_16 (o_11.2.2.2)) ≤ (gcX9 p1_2n (o.2.2.2)) from by have q0 := gsX9 hg_p1_2 (mo_fX1_addStep hc_11) hgn_p1_2; omega), (show (3 * (gcX9 p1_2n p1_2n_16)) + (3 * ((gcX9 p1_2n_16 (o_11.2.2.2)))) ≤ (3 * (gcX9 p1_2n (o.2.2.2))) from by have q0 := gsX9 hg_p1_2 (mo_fX1_addStep hc_11) hgn_p1_2; omega)⟩) hS (fun q _ h => hFc q h) hFc (fun r12 u t H locs ht hvm hw hB hz1 hk1 hS => ?_)
          obtain ⟨x13, z14, x15, z16, x17, z18, x19, z20, x21, z22, hB⟩ := hB
          obtain ⟨hP, hD, hK⟩ := JOIN (wr := (oX5 (p0a 0) p0a p0k p0w p0l)) hP hD hK [10, 11, 12, 13, 14, 15, 16, 17, 18, 19, 20, 21, 22, 23, 24, 25, 26, 27, 28, 29, 30, 31, 32, 33] [0, 1, 2, 3, 4, 5, 6, 7, 8, 9] [0, 1, 2, 3, 4, 5, 6, 7, 8] rfl rfl (by decide) (by decide) rfl hk1 hFc ht hvm hB
          have hP : va_P (dC, dI) cls ((oX5 (p0a 0) p0a p0k p0w p0l) ++ (oX1 (p1a 0) p1a p1k p1n (o_11.2.1) p1l) ++ (oX9 (p1a 3) (st1 (st1 (st1 (st1 (st1 p1_2a 2 x13) 3 x15) 4 x17) 5 x19) 6 x21) (st1 (st1 (st1 (st1 (st1 p1_2k 2 z14) 3 z16) 4 z18) 5 z20) 6 z22) (o_11.2.2.2) (o_11.2.2.1))) H := hP.sub [0, 1, 2, 3, 4, 5, 6, 7, 8, 9, 10, 11, 12, 13, 14, 15, 16, 17, 18, 19, 20, 21, 22, 23, 24, 25, 26, 27, 28, 29, 30, 31, 32, 33] rfl
          have hD : va_D A ((oX5 (p0a 0) p0a p0k p0w p0l) ++ (oX1 (p1a 0) p1a p1k p1n (o_11.2.1) p1l) ++ (oX9 (p1a 3) (st1 (st1 (st1 (st1 (st1 p1_2a 2 x13) 3 x15) 4 x17) 5 x19) 6 x21) (st1 (st1 (st1 (st1 (st1 p1_2k 2 z14) 3 z16) 4 z18) 5 z20) 6 z22) (o_11.2.2.2) (o_11.2.2.1))) := hD.sub [0, 1, 2, 3, 4, 5, 6, 7, 8, 9, 10, 11, 12, 13, 14, 15, 16, 17, 18, 19, 20, 21, 22, 23, 24, 25, 26, 27, 28, 29, 30, 31, 32, 33] (by decide) rfl
          have hK : va_K (dC, dI) cls ((tX5 p0k) ++ (tX1 p1k) ++ (tX9 (st1 (st1 (st1 (st1 (st1 p1_2k 2 z14) 3 z16) 4 z18) 5 z20) 6 z22))) s := hK.sub [0, 1, 2, 3, 4, 5, 6, 7, 8, 9, 10, 11, 12, 13, 14, 15, 16, 17, 18, 19, 20, 21, 22, 23, 24, 25, 26, 27, 28, 29, 30] rfl
          obtain rfl : r12 = (o_11.1) := hw
          refine W.widen (k := (gcX9 p1_2n (o_11.2.2.2))) (n := (3 * (gcX9 p1_2n (o_11.2.2.2)))) (by have a0 := gcX9_add hg_p1_2 (mo_fX1_addStep hc_11); omega) (by have a0 := gcX9_add hg_p1_2 (mo_fX1_addStep hc_11); omega) ?_
          have hg_p1_2 : glX9 p1_2n (o_11.2.2.2) := glX9_tr hg_p1_2 (mo_fX1_addStep hc_11)
          unfold fX5_foldBlock_G66_23 at hrun
          refine lv_pop hx hb dX5_foldBlock_66 rfl ?_
          refine lv_iinc (v := (v3_16 + 1)) (lv' := [(3, .int (v3_16 + 1)), (7, .int (p1w_16 19 (nn v6_16))), (4, .int (p1w_16 20 (nn v6_16))), (0, .ref (p0a 0)), (1, .ref (p1a 0)), (2, .int p2), (5, .int (o_1.1)), (6, .int v6_16)]) hx hb dX5_foldBlock_67 hl (k := 5) rfl rfl (by decide) rfl (fun ls hl => ?_)
          refine lv_goto (tgt := 80) hx hb dX5_foldBlock_70 (by decide) ?_
          exact J80 (v3_16 + 1) (o_11.2.1) (o_11.2.2.1) (o_11.2.2.2) x13 z14 x15 z16 x17 z18 x19 z20 x21 z22 _ _ _ hrun hP hD hK hS (lv_sub hl [3, 4, 5, 0, 2, 6] rfl) hg_p1_2
        · refine lv_icmp_ne (tgt := 73) hx hb dX5_foldBlock_47 (by decide) (fun _ => ?_) (fun c => absurd c hc9)
          refine lv_aload_n hx hb dX5_foldBlock_73 rfl (lv_at hl 3 rfl) ?_
          refine lv_iload_n hx hb dX5_foldBlock_74 rfl (lv_at hl 4 rfl) ?_
          refine lv_iload hx hb dX5_foldBlock_75 (lv_at hl 7 rfl) ?_
          obtain ⟨o_24, hc_24, hrun⟩ := bnd9 hrun
          have hPc := hP.sub (ws' := (oX1 (p1a 0) p1a p1k p1n p1w_16 p1l)) [10, 11, 12, 13, 14, 15, 16, 17, 18, 19, 20, 21, 22, 23, 24, 25, 26, 27] rfl
          have hDc := hD.sub (ws' := (oX1 (p1a 0) p1a p1k p1n p1w_16 p1l)) [10, 11, 12, 13, 14, 15, 16, 17, 18, 19, 20, 21, 22, 23, 24, 25, 26, 27] (by decide) rfl
          have hKc := hK.sub (tys' := (tX1 p1k)) [9, 10, 11, 12, 13, 14, 15, 16, 17, 18, 19, 20, 21, 22, 23, 24, 25] rfl
          have hFc := va_free (wc := (oX1 (p1a 0) p1a p1k p1n p1w_16 p1l)) hD hS hA [10, 11, 12, 13, 14, 15, 16, 17, 18, 19, 20, 21, 22, 23, 24, 25, 26, 27] rfl
          refine va_callv (va_runV (As := [.int p2, .int v6_16]) (rest := []) ⟨hx, hb, hml, hown, hts⟩ (kX1_linkPhi l dC dI (p0a := (st0 (p1a 0) p1a)) (p0k := p1k) (p0n := p1n) (p0w := p1w_16) (p0l := p1l) (p1 := p2) (p2 := v6_16) (sz := _) (o := o_24) (hrun := hc_24)) (cwV 2 hts (gi_V qw493 qw124 qw125 qw126 (gi_z qw122)) rfl rfl rfl (by decide +kernel) ⟨Nat.le_of_ble_eq_true rfl, Nat.le_of_ble_eq_true rfl⟩) ⟨PRE.blind, va_recv hKc hPc (ci := 4) (q0 := 0) rfl rfl, PRE.of hE hS hFc hPc hKc hDc⟩ rfl rfl hl.1 rfl (lv_room (Nat.le_of_ble_eq_true rfl)) dX5_foldBlock_77 ⟨(show (gcX9 p1_2n p1_2n_16) + 0 ≤ (gcX9 p1_2n (o.2.2.2)) from by have q0 := gmX9 hg_p1_2 hgn_p1_2; omega), (show (3 * (gcX9 p1_2n p1_2n_16)) + 0 ≤ (3 * (gcX9 p1_2n (o.2.2.2))) from by have q0 := gmX9 hg_p1_2 hgn_p1_2; omega)⟩) hS (fun q _ h => hFc q h) hFc (fun u t H locs ht hvm hw hB hz1 hk1 hS => ?_)
          obtain ⟨hP, hD, hK⟩ := JOIN (wr := ((oX5 (p0a 0) p0a p0k p0w p0l) ++ (oX9 (p1a 3) (st1 (st1 (st1 (st1 (st1 p1_2a 2 xp1_2_1_16) 3 xp1_2_2_16) 4 xp1_2_3_16) 5 xp1_2_4_16) 6 xp1_2_5_16) (st1 (st1 (st1 (st1 (st1 p1_2k 2 zp1_2_1_16) 3 zp1_2_2_16) 4 zp1_2_3_16) 5 zp1_2_4_16) 6 zp1_2_5_16) p1_2n_16 p1_2w_16))) hP hD hK [10, 11, 12, 13, 14, 15, 16, 17, 18, 19, 20, 21, 22, 23, 24, 25, 26, 27] [0, 1, 2, 3, 4, 5, 6, 7, 8, 9, 28, 29, 30, 31, 32, 33] [0, 1, 2, 3, 4, 5, 6, 7, 8, 26, 27, 28, 29, 30] rfl rfl (by decide) (by decide) rfl hk1 hFc ht hvm hB
          have hP : va_P (dC, dI) cls ((oX5 (p0a 0) p0a p0k p0w p0l) ++ (oX1 (p1a 0) p1a p1k p1n o_24 p1l) ++ (oX9 (p1a 3) (st1 (st1 (st1 (st1 (st1 p1_2a 2 xp1_2_1_16) 3 xp1_2_2_16) 4 xp1_2_3_16) 5 xp1_2_4_16) 6 xp1_2_5_16) (st1 (st1 (st1 (st1 (st1 p1_2k 2 zp1_2_1_16) 3 zp1_2_2_16) 4 zp1_2_3_16) 5 zp1_2_4_16) 6 zp1_2_5_16) p1_2n_16 p1_2w_16)) H := hP.sub [0, 1, 2, 3, 4, 5, 6, 7, 8, 9, 16, 17, 18, 19, 20, 21, 22, 23, 24, 25, 26, 27, 28, 29, 30, 31, 32, 33, 10, 11, 12, 13, 14, 15] rfl
          have hD : va_D A ((oX5 (p0a 0) p0a p0k p0w p0l) ++ (oX1 (p1a 0) p1a p1k p1n o_24 p1l) ++ (oX9 (p1a 3) (st1 (st1 (st1 (st1 (st1 p1_2a 2 xp1_2_1_16) 3 xp1_2_2_16) 4 xp1_2_3_16) 5 xp1_2_4_16) 6 xp1_2_5_16) (st1 (st1 (st1 (st1 (st1 p1_2k 2 zp1_2_1_16) 3 zp1_2_2_16) 4 zp1_2_3_16) 5 zp1_2_4_16) 6 zp1_2_5_16) p1_2n_16 p1_2w_16)) := hD.sub [0, 1, 2, 3, 4, 5, 6, 7, 8, 9, 16, 17, 18, 19, 20, 21, 22, 23, 24, 25, 26, 27, 28, 29, 30, 31, 32, 33, 10, 11, 12, 13, 14, 15] (by decide) rfl
          have hK : va_K (dC, dI) cls ((tX5 p0k) ++ (tX1 p1k) ++ (tX9 (st1 (st1 (st1 (st1 (st1 p1_2k 2 zp1_2_1_16) 3 zp1_2_2_16) 4 zp1_2_3_16) 5 zp1_2_4_16) 6 zp1_2_5_16))) s := hK.sub [0, 1, 2, 3, 4, 5, 6, 7, 8, 14, 15, 16, 17, 18, 19, 20, 21, 22, 23, 24, 25, 26, 27, 28, 29, 30, 9, 10, 11, 12, 13] rfl
          exact J80 v3_16 o_24 p1_2w_16 p1_2n_16 xp1_2_1_16 zp1_2_1_16 xp1_2_2_16 zp1_2_2_16 xp1_2_3_16 zp1_2_3_16 xp1_2_4_16 zp1_2_4_16 xp1_2_5_16 zp1_2_5_16 _ _ _ hrun hP hD hK hS (lv_sub hl [2, 3, 4, 5, 1, 6] rfl) hg_p1_2
  refine L16 NF 0 (o_3.1) (o_3.2) p1_2w p1_2n (p1_2a 2) (p1_2k 2) (p1_2a 3) (p1_2k 3) (p1_2a 4) (p1_2k 4) (p1_2a 5) (p1_2k 5) (p1_2a 6) (p1_2k 6) o16 _ _ _ hc16 hP hD hK hS (lv_sub hl [3, 4, 5, 2, 1, 0] rfl) hg_p1_2 hgn_p1_2 ?_
  intro xp1_2_1_16x zp1_2_1_16x xp1_2_2_16x zp1_2_2_16x xp1_2_3_16x zp1_2_3_16x xp1_2_4_16x zp1_2_4_16x xp1_2_5_16x zp1_2_5_16x H locs ls hP hD hK hS hl hg_p1_2
  have hl := hl
  unfold fX5_foldBlock_G87_25 at hrun
  refine lv_iload hx hb dX5_foldBlock_87 (lv_at hl 4 rfl) ?_
  refine lv_istore (lv' := [(6, .int (o_1.1)), (0, .ref (p0a 0)), (1, .ref (p1a 0)), (2, .int p2), (3, .int (o16.1)), (5, .int (o_1.1))]) hx hb dX5_foldBlock_89 hl (by decide) rfl (fun ls hl => ?_)
  have L91 : ∀ (n_91 : Nat) (v3_91 : Int32) (v6_91 : Int32) (p1w_91 : ST) (p1_2w_91 : ST) (o91 : Int32 × ST × ST) (H : Heap) (locs : List Loc) (ls : Array Slot), (fX5_foldBlock_L91 p0w p2 o16 n_91) v3_91 v6_91 p1w_91 p1_2w_91 = some o91 → va_P (dC, dI) cls ((oX5 (p0a 0) p0a p0k p0w p0l) ++ (oX1 (p1a 0) p1a p1k p1n p1w_91 p1l) ++ (oX9 (p1a 3) (st1 (st1 (st1 (st1 (st1 p1_2a 2 xp1_2_1_16x) 3 xp1_2_2_16x) 4 xp1_2_3_16x) 5 xp1_2_4_16x) 6 xp1_2_5_16x) (st1 (st1 (st1 (st1 (st1 p1_2k 2 zp1_2_1_16x) 3 zp1_2_2_16x) 4 zp1_2_3_16x) 5 zp1_2_4_16x) 6 zp1_2_5_16x) (o16.2.2.2) p1_2w_91)) H → va_D A ((oX5 (p0a 0) p0a p0k p0w p0l) ++ (oX1 (p1a 0) p1a p1k p1n p1w_91 p1l) ++ (oX9 (p1a 3) (st1 (st1 (st1 (st1 (st1 p1_2a 2 xp1_2_1_16x) 3 xp1_2_2_16x) 4 xp1_2_3_16x) 5 xp1_2_4_16x) 6 xp1_2_5_16x) (st1 (st1 (st1 (st1 (st1 p1_2k 2 zp1_2_1_16x) 3 zp1_2_2_16x) 4 zp1_2_3_16x) 5 zp1_2_4_16x) 6 zp1_2_5_16x) (o16.2.2.2) p1_2w_91)) → va_K (dC, dI) cls ((tX5 p0k) ++ (tX1 p1k) ++ (tX9 (st1 (st1 (st1 (st1 (st1 p1_2k 2 zp1_2_1_16x) 3 zp1_2_2_16x) 4 zp1_2_3_16x) 5 zp1_2_4_16x) 6 zp1_2_5_16x))) s → va_S A s.heap H locs → lv_has ls 8 [(0, .ref (p0a 0)), (1, .ref (p1a 0)), (2, .int p2), (3, .int v3_91), (6, .int v6_91)] → glX9 p1_2n (o16.2.2.2) → (∀ (H : Heap) (locs : List Loc) (ls : Array Slot), va_P (dC, dI) cls ((oX5 (p0a 0) p0a p0k p0w p0l) ++ (oX1 (p1a 0) p1a p1k p1n (o91.2.1) p1l) ++ (oX9 (p1a 3) (st1 (st1 (st1 (st1 (st1 p1_2a 2 xp1_2_1_16x) 3 xp1_2_2_16x) 4 xp1_2_3_16x) 5 xp1_2_4_16x) 6 xp1_2_5_16x) (st1 (st1 (st1 (st1 (st1 p1_2k 2 zp1_2_1_16x) 3 zp1_2_2_16x) 4 zp1_2_3_16x) 5 zp1_2_4_16x) 6 zp1_2_5_16x) (o16.2.2.2) (o91.2.2))) H → va_D A ((oX5 (p0a 0) p0a p0k p0w p0l) ++ (oX1 (p1a 0) p1a p1k p1n (o91.2.1) p1l) ++ (oX9 (p1a 3) (st1 (st1 (st1 (st1 (st1 p1_2a 2 xp1_2_1_16x) 3 xp1_2_2_16x) 4 xp1_2_3_16x) 5 xp1_2_4_16x) 6 xp1_2_5_16x) (st1 (st1 (st1 (st1 (st1 p1_2k 2 zp1_2_1_16x) 3 zp1_2_2_16x) 4 zp1_2_3_16x) 5 zp1_2_4_16x) 6 zp1_2_5_16x) (o16.2.2.2) (o91.2.2))) → va_K (dC, dI) cls ((tX5 p0k) ++ (tX1 p1k) ++ (tX9 (st1 (st1 (st1 (st1 (st1 p1_2k 2 zp1_2_1_16x) 3 zp1_2_2_16x) 4 zp1_2_3_16x) 5 zp1_2_4_16x) 6 zp1_2_5_16x))) s → va_S A s.heap H locs → lv_has ls 8 [(0, .ref (p0a 0)), (1, .ref (p1a 0)), (2, .int p2), (3, .int (o91.1))] → glX9 p1_2n (o16.2.2.2) → W p l e ({ frames := 4, cells := (gcX9 p1_2n (o.2.2.2)), slots := (3 * (gcX9 p1_2n (o.2.2.2))), locals := 113 } : Room) s m ([.ref (p0a 0), .ref (p1a 0), .int p2] : List Value).toArray below meth c H locs (gcX9 p1_2n (o16.2.2.2)) (3 * (gcX9 p1_2n (o16.2.2.2))) Q (F0 m 184 ls [])) → W p l e ({ frames := 4, cells := (gcX9 p1_2n (o.2.2.2)), slots := (3 * (gcX9 p1_2n (o.2.2.2))), locals := 113 } : Room) s m ([.ref (p0a 0), .ref (p1a 0), .int p2] : List Value).toArray below meth c H locs (gcX9 p1_2n (o16.2.2.2)) (3 * (gcX9 p1_2n (o16.2.2.2))) Q (F0 m 91 ls []) := by
    intro n_91
    induction n_91 with
    | zero => intro v3_91 v6_91 p1w_91 p1_2w_91 o91 H locs ls hrun; exact (no9 rfl hrun).elim
    | succ n_91 IH91 =>
      intro v3_91 v6_91 p1w_91 p1_2w_91 o91 H locs ls hrun hP hD hK hS hl hg_p1_2 hk91
      unfold fX5_foldBlock_L91 at hrun
      refine lv_iload hx hb dX5_foldBlock_91 (lv_at hl 4 rfl) ?_
      rcases br9 hrun with ⟨hc26, hrun⟩ | ⟨hc26, hrun⟩
      · refine lv_if_lt (tgt := 184) hx hb dX5_foldBlock_93 (by decide) (fun _ => ?_) (fun c => absurd hc26 c)
        obtain rfl := (Option.some.inj hrun)
        exact hk91 _ _ _ hP hD hK hS (lv_sub hl [0, 1, 2, 3] rfl) hg_p1_2
      · refine lv_if_lt (tgt := 184) hx hb dX5_foldBlock_93 (by decide) (fun c => absurd c hc26) (fun _ => ?_)
        refine lv_aload_n hx hb dX5_foldBlock_96 rfl (lv_at hl 1 rfl) ?_
        refine va_get (D := (dC, dI)) (ci := 4) (v := .ref (p1a 3)) (C := RX1) (T := TX1) (N := 21) hx hb hts i_X1 hown hK hP 10 rfl rfl 2 (by decide) (hts _ qw435) (fun _ h9 => h9) rfl dX5_foldBlock_97 ?_
        refine va_get (D := (dC, dI)) (ci := 3) (v := .ref xp1_2_5_16x) (C := RX9) (T := TX9) (N := 6) hx hb hts i_X9 hown hK hP 28 rfl rfl 5 (by decide) (hts _ qw437) (fun _ h9 => h9) rfl dX5_foldBlock_100 ?_
        refine lv_iload hx hb dX5_foldBlock_103 (lv_at hl 4 rfl) ?_
        obtain ⟨hq27, hrun⟩ := chk9 hrun
        refine va_iald hx hb hK hP 33 30 rfl rfl (ixb_in hq27) dX5_foldBlock_105 ?_
        refine lv_istore (lv' := [(4, .int (p1_2w_91 6 (nn v6_91))), (0, .ref (p0a 0)), (1, .ref (p1a 0)), (2, .int p2), (3, .int v3_91), (6, .int v6_91)]) hx hb dX5_foldBlock_106 hl (by decide) rfl (fun ls hl => ?_)
        refine lv_aload_n hx hb dX5_foldBlock_108 rfl (lv_at hl 2 rfl) ?_
        refine va_get (D := (dC, dI)) (ci := 4) (v := .ref (p1a 3)) (C := RX1) (T := TX1) (N := 21) hx hb hts i_X1 hown hK hP 10 rfl rfl 2 (by decide) (hts _ qw435) (fun _ h9 => h9) rfl dX5_foldBlock_109 ?_
        refine va_get (D := (dC, dI)) (ci := 3) (v := .ref xp1_2_1_16x) (C := RX9) (T := TX9) (N := 6) hx hb hts i_X9 hown hK hP 28 rfl rfl 1 (by decide) (hts _ qw420) (fun _ h9 => h9) rfl dX5_foldBlock_112 ?_
        refine lv_iload hx hb dX5_foldBlock_115 (lv_at hl 5 rfl) ?_
        obtain ⟨hq28, hrun⟩ := chk9 hrun
        refine va_iald hx hb hK hP 29 26 rfl rfl (ixb_in hq28) dX5_foldBlock_117 ?_
        obtain ⟨o_29, hc_29, hrun⟩ := bnd9 hrun
        have hPc := hP.sub (ws' := ([] : va_W)) [] rfl
        have hDc := hD.sub (ws' := ([] : va_W)) [] (by decide) rfl
        have hKc := hK.sub (tys' := ([] : List (ClassId × FieldType))) [] rfl
        have hFc := va_free (wc := ([] : va_W)) hD hS hA [] rfl
        refine va_calli (va_runSN (As := [.int (p1_2w_91 2 (nn v6_91))]) (rest := []) ⟨hx, hb, hml, hown, hts⟩ (kX11_isOperator l dC dI (p0 := (p1_2w_91 2 (nn v6_91))) (sz := _) (o := o_29) (hrun := hc_29)) ⟨(va_cnB 1 hts (gi_z qw348) rfl rfl rfl (hE.nw (List.mem_append_right _ (tbl_7 (i := 173) rfl)) rfl) (hts _ qw129) (by decide +kernel) ⟨Nat.le_of_ble_eq_true rfl, Nat.le_of_ble_eq_true rfl⟩), (hts _ qw350), trivial⟩ ⟨PRE.blind, PRE.of hE hS hFc hPc hKc hDc⟩ rfl rfl hl.1 rfl (lv_room (Nat.le_of_ble_eq_true rfl)) dX5_foldBlock_118 ⟨(show (gcX9 p1_2n (o16.2.2.2)) + 0 ≤ (gcX9 p1_2n (o.2.2.2)) from by have q0 := gmX9 hg_p1_2 hgn_p1_2; omega), (show (3 * (gcX9 p1_2n (o16.2.2.2))) + 0 ≤ (3 * (gcX9 p1_2n (o.2.2.2))) from by have q0 := gmX9 hg_p1_2 hgn_p1_2; omega)⟩) hS (fun q _ h => hFc q h) hFc (fun r30 u t H locs ht hvm hw hB hz1 hk1 hS => ?_)
        obtain ⟨hP, hD, hK⟩ := JOIN (wr := ((oX5 (p0a 0) p0a p0k p0w p0l) ++ (oX1 (p1a 0) p1a p1k p1n p1w_91 p1l) ++ (oX9 (p1a 3) (st1 (st1 (st1 (st1 (st1 p1_2a 2 xp1_2_1_16x) 3 xp1_2_2_16x) 4 xp1_2_3_16x) 5 xp1_2_4_16x) 6 xp1_2_5_16x) (st1 (st1 (st1 (st1 (st1 p1_2k 2 zp1_2_1_16x) 3 zp1_2_2_16x) 4 zp1_2_3_16x) 5 zp1_2_4_16x) 6 zp1_2_5_16x) (o16.2.2.2) p1_2w_91))) hP hD hK [] [0, 1, 2, 3, 4, 5, 6, 7, 8, 9, 10, 11, 12, 13, 14, 15, 16, 17, 18, 19, 20, 21, 22, 23, 24, 25, 26, 27, 28, 29, 30, 31, 32, 33] [0, 1, 2, 3, 4, 5, 6, 7, 8, 9, 10, 11, 12, 13, 14, 15, 16, 17, 18, 19, 20, 21, 22, 23, 24, 25, 26, 27, 28, 29, 30] rfl rfl (by decide) (by decide) rfl hk1 hFc ht hvm hB
        have hP : va_P (dC, dI) cls ((oX5 (p0a 0) p0a p0k p0w p0l) ++ (oX1 (p1a 0) p1a p1k p1n p1w_91 p1l) ++ (oX9 (p1a 3) (st1 (st1 (st1 (st1 (st1 p1_2a 2 xp1_2_1_16x) 3 xp1_2_2_16x) 4 xp1_2_3_16x) 5 xp1_2_4_16x) 6 xp1_2_5_16x) (st1 (st1 (st1 (st1 (st1 p1_2k 2 zp1_2_1_16x) 3 zp1_2_2_16x) 4 zp1_2_3_16x) 5 zp1_2_4_16x) 6 zp1_2_5_16x) (o16.2.2.2) p1_2w_91)) H := hP.sub [0, 1, 2, 3, 4, 5, 6, 7, 8, 9, 10, 11, 12, 13, 14, 15, 16, 17, 18, 19, 20, 21, 22, 23, 24, 25, 26, 27, 28, 29, 30, 31, 32, 33] rfl
        have hD : va_D A ((oX5 (p0a 0) p0a p0k p0w p0l) ++ (oX1 (p1a 0) p1a p1k p1n p1w_91 p1l) ++ (oX9 (p1a 3) (st1 (st1 (st1 (st1 (st1 p1_2a 2 xp1_2_1_16x) 3 xp1_2_2_16x) 4 xp1_2_3_16x) 5 xp1_2_4_16x) 6 xp1_2_5_16x) (st1 (st1 (st1 (st1 (st1 p1_2k 2 zp1_2_1_16x) 3 zp1_2_2_16x) 4 zp1_2_3_16x) 5 zp1_2_4_16x) 6 zp1_2_5_16x) (o16.2.2.2) p1_2w_91)) := hD.sub [0, 1, 2, 3, 4, 5, 6, 7, 8, 9, 10, 11, 12, 13, 14, 15, 16, 17, 18, 19, 20, 21, 22, 23, 24, 25, 26, 27, 28, 29, 30, 31, 32, 33] (by decide) rfl
        have hK : va_K (dC, dI) cls ((tX5 p0k) ++ (tX1 p1k) ++ (tX9 (st1 (st1 (st1 (st1 (st1 p1_2k 2 zp1_2_1_16x) 3 zp1_2_2_16x) 4 zp1_2_3_16x) 5 zp1_2_4_16x) 6 zp1_2_5_16x))) s := hK.sub [0, 1, 2, 3, 4, 5, 6, 7, 8, 9, 10, 11, 12, 13, 14, 15, 16, 17, 18, 19, 20, 21, 22, 23, 24, 25, 26, 27, 28, 29, 30] rfl
        obtain rfl : o_29 = r30 := hw.symm
        have J170 : ∀ (v3_170 : Int32) (p1_2w_170 : ST) (H : Heap) (locs : List Loc) (ls : Array Slot), (fX5_foldBlock_J170 (fX5_foldBlock_L91 p0w p2 o16 n_91) p2 o16 v6_91 p1w_91 p1_2w_91 v3_170 p1_2w_170) = some o91 → va_P (dC, dI) cls ((oX5 (p0a 0) p0a p0k p0w p0l) ++ (oX1 (p1a 0) p1a p1k p1n p1w_91 p1l) ++ (oX9 (p1a 3) (st1 (st1 (st1 (st1 (st1 p1_2a 2 xp1_2_1_16x) 3 xp1_2_2_16x) 4 xp1_2_3_16x) 5 xp1_2_4_16x) 6 xp1_2_5_16x) (st1 (st1 (st1 (st1 (st1 p1_2k 2 zp1_2_1_16x) 3 zp1_2_2_16x) 4 zp1_2_3_16x) 5 zp1_2_4_16x) 6 zp1_2_5_16x) (o16.2.2.2) p1_2w_170)) H → va_D A ((oX5 (p0a 0) p0a p0k p0w p0l) ++ (oX1 (p1a 0) p1a p1k p1n p1w_91 p1l) ++ (oX9 (p1a 3) (st1 (st1 (st1 (st1 (st1 p1_2a 2 xp1_2_1_16x) 3 xp1_2_2_16x) 4 xp1_2_3_16x) 5 xp1_2_4_16x) 6 xp1_2_5_16x) (st1 (st1 (st1 (st1 (st1 p1_2k 2 zp1_2_1_16x) 3 zp1_2_2_16x) 4 zp1_2_3_16x) 5 zp1_2_4_16x) 6 zp1_2_5_16x) (o16.2.2.2) p1_2w_170)) → va_K (dC, dI) cls ((tX5 p0k) ++ (tX1 p1k) ++ (tX9 (st1 (st1 (st1 (st1 (st1 p1_2k 2 zp1_2_1_16x) 3 zp1_2_2_16x) 4 zp1_2_3_16x) 5 zp1_2_4_16x) 6 zp1_2_5_16x))) s → va_S A s.heap H locs → lv_has ls 8 [(0, .ref (p0a 0)), (1, .ref (p1a 0)), (2, .int p2), (3, .int v3_170), (4, .int (p1_2w_91 6 (nn v6_91))), (6, .int v6_91)] → glX9 p1_2n (o16.2.2.2) → W p l e ({ frames := 4, cells := (gcX9 p1_2n (o.2.2.2)), slots := (3 * (gcX9 p1_2n (o.2.2.2))), locals := 113 } : Room) s m ([.ref (p0a 0), .ref (p1a 0), .int p2] : List Value).toArray below meth c H locs (gcX9 p1_2n (o16.2.2.2)) (3 * (gcX9 p1_2n (o16.2.2.2))) Q (F0 m 170 ls []) := by
          intro v3_170 p1_2w_170 H locs ls hrun hP hD hK hS hl hg_p1_2 
          unfold fX5_foldBlock_J170 at hrun
          refine lv_aload_n hx hb dX5_foldBlock_170 rfl (lv_at hl 1 rfl) ?_
          refine lv_iload_n hx hb dX5_foldBlock_171 rfl (lv_at hl 2 rfl) ?_
          refine lv_iload hx hb dX5_foldBlock_172 (lv_at hl 5 rfl) ?_
          obtain ⟨o_31, hc_31, hrun⟩ := bnd9 hrun
          have hPc := hP.sub (ws' := ((oX1 (p1a 0) p1a p1k p1n p1w_91 p1l) ++ (oX9 (p1a 3) (st1 (st1 (st1 (st1 (st1 p1_2a 2 xp1_2_1_16x) 3 xp1_2_2_16x) 4 xp1_2_3_16x) 5 xp1_2_4_16x) 6 xp1_2_5_16x) (st1 (st1 (st1 (st1 (st1 p1_2k 2 zp1_2_1_16x) 3 zp1_2_2_16x) 4 zp1_2_3_16x) 5 zp1_2_4_16x) 6 zp1_2_5_16x) (o16.2.2.2) p1_2w_170))) [10, 11, 12, 13, 14, 15, 16, 17, 18, 19, 20, 21, 22, 23, 24, 25, 26, 27, 28, 29, 30, 31, 32, 33] rfl
          have hDc := hD.sub (ws' := ((oX1 (p1a 0) p1a p1k p1n p1w_91 p1l) ++ (oX9 (p1a 3) (st1 (st1 (st1 (st1 (st1 p1_2a 2 xp1_2_1_16x) 3 xp1_2_2_16x) 4 xp1_2_3_16x) 5 xp1_2_4_16x) 6 xp1_2_5_16x) (st1 (st1 (st1 (st1 (st1 p1_2k 2 zp1_2_1_16x) 3 zp1_2_2_16x) 4 zp1_2_3_16x) 5 zp1_2_4_16x) 6 zp1_2_5_16x) (o16.2.2.2) p1_2w_170))) [10, 11, 12, 13, 14, 15, 16, 17, 18, 19, 20, 21, 22, 23, 24, 25, 26, 27, 28, 29, 30, 31, 32, 33] (by decide) rfl
          have hKc := hK.sub (tys' := ((tX1 p1k) ++ (tX9 (st1 (st1 (st1 (st1 (st1 p1_2k 2 zp1_2_1_16x) 3 zp1_2_2_16x) 4 zp1_2_3_16x) 5 zp1_2_4_16x) 6 zp1_2_5_16x)))) [9, 10, 11, 12, 13, 14, 15, 16, 17, 18, 19, 20, 21, 22, 23, 24, 25, 26, 27, 28, 29, 30] rfl
          have hFc := va_free (wc := ((oX1 (p1a 0) p1a p1k p1n p1w_91 p1l) ++ (oX9 (p1a 3) (st1 (st1 (st1 (st1 (st1 p1_2a 2 xp1_2_1_16x) 3 xp1_2_2_16x) 4 xp1_2_3_16x) 5 xp1_2_4_16x) 6 xp1_2_5_16x) (st1 (st1 (st1 (st1 (st1 p1_2k 2 zp1_2_1_16x) 3 zp1_2_2_16x) 4 zp1_2_3_16x) 5 zp1_2_4_16x) 6 zp1_2_5_16x) (o16.2.2.2) p1_2w_170))) hD hS hA [10, 11, 12, 13, 14, 15, 16, 17, 18, 19, 20, 21, 22, 23, 24, 25, 26, 27, 28, 29, 30, 31, 32, 33] rfl
          refine va_callv (va_runV (As := [.int p2, .int v6_91]) (rest := []) ⟨hx, hb, hml, hown, hts⟩ (kX1_link l dC dI (p0a := (st0 (p1a 0) p1a)) (p0k := p1k) (p0n := p1n) (p0w := p1w_91) (p0l := p1l) (p1 := p2) (p2 := v6_91) (p0_2a := (st1 (st1 (st1 (st1 (st1 p1_2a 2 xp1_2_1_16x) 3 xp1_2_2_16x) 4 xp1_2_3_16x) 5 xp1_2_4_16x) 6 xp1_2_5_16x)) (p0_2k := (st1 (st1 (st1 (st1 (st1 p1_2k 2 zp1_2_1_16x) 3 zp1_2_2_16x) 4 zp1_2_3_16x) 5 zp1_2_4_16x) 6 zp1_2_5_16x)) (p0_2n := (o16.2.2.2)) (p0_2w := p1_2w_170) (sz := _) (o := o_31) (hrun := hc_31)) (cwV 2 hts (gi_V qw494 qw141 qw142 qw126 (gi_z qw139)) rfl rfl rfl (by decide +kernel) ⟨Nat.le_of_ble_eq_true rfl, Nat.le_of_ble_eq_true rfl⟩) ⟨PRE.blind, va_recv hKc hPc (ci := 4) (q0 := 0) rfl rfl, PRE.of hE hS hFc hPc hKc hDc⟩ rfl rfl hl.1 rfl (lv_room (Nat.le_of_ble_eq_true rfl)) dX5_foldBlock_174 ⟨(show (gcX9 p1_2n (o16.2.2.2)) + 0 ≤ (gcX9 p1_2n (o.2.2.2)) from by have q0 := gmX9 hg_p1_2 hgn_p1_2; omega), (show (3 * (gcX9 p1_2n (o16.2.2.2))) + 0 ≤ (3 * (gcX9 p1_2n (o.2.2.2))) from by have q0 := gmX9 hg_p1_2 hgn_p1_2; omega)⟩) hS (fun q _ h => hFc q h) hFc (fun u t H locs ht hvm hw hB hz1 hk1 hS => ?_)
          obtain ⟨hP, hD, hK⟩ := JOIN (wr := (oX5 (p0a 0) p0a p0k p0w p0l)) hP hD hK [10, 11, 12, 13, 14, 15, 16, 17, 18, 19, 20, 21, 22, 23, 24, 25, 26, 27, 28, 29, 30, 31, 32, 33] [0, 1, 2, 3, 4, 5, 6, 7, 8, 9] [0, 1, 2, 3, 4, 5, 6, 7, 8] rfl rfl (by decide) (by decide) rfl hk1 hFc ht hvm hB
          have hP : va_P (dC, dI) cls ((oX5 (p0a 0) p0a p0k p0w p0l) ++ (oX1 (p1a 0) p1a p1k p1n (o_31.1) p1l) ++ (oX9 (p1a 3) (st1 (st1 (st1 (st1 (st1 p1_2a 2 xp1_2_1_16x) 3 xp1_2_2_16x) 4 xp1_2_3_16x) 5 xp1_2_4_16x) 6 xp1_2_5_16x) (st1 (st1 (st1 (st1 (st1 p1_2k 2 zp1_2_1_16x) 3 zp1_2_2_16x) 4 zp1_2_3_16x) 5 zp1_2_4_16x) 6 zp1_2_5_16x) (o16.2.2.2) (o_31.2))) H := hP.sub [0, 1, 2, 3, 4, 5, 6, 7, 8, 9, 10, 11, 12, 13, 14, 15, 16, 17, 18, 19, 20, 21, 22, 23, 24, 25, 26, 27, 28, 29, 30, 31, 32, 33] rfl
          have hD : va_D A ((oX5 (p0a 0) p0a p0k p0w p0l) ++ (oX1 (p1a 0) p1a p1k p1n (o_31.1) p1l) ++ (oX9 (p1a 3) (st1 (st1 (st1 (st1 (st1 p1_2a 2 xp1_2_1_16x) 3 xp1_2_2_16x) 4 xp1_2_3_16x) 5 xp1_2_4_16x) 6 xp1_2_5_16x) (st1 (st1 (st1 (st1 (st1 p1_2k 2 zp1_2_1_16x) 3 zp1_2_2_16x) 4 zp1_2_3_16x) 5 zp1_2_4_16x) 6 zp1_2_5_16x) (o16.2.2.2) (o_31.2))) := hD.sub [0, 1, 2, 3, 4, 5, 6, 7, 8, 9, 10, 11, 12, 13, 14, 15, 16, 17, 18, 19, 20, 21, 22, 23, 24, 25, 26, 27, 28, 29, 30, 31, 32, 33] (by decide) rfl
          have hK : va_K (dC, dI) cls ((tX5 p0k) ++ (tX1 p1k) ++ (tX9 (st1 (st1 (st1 (st1 (st1 p1_2k 2 zp1_2_1_16x) 3 zp1_2_2_16x) 4 zp1_2_3_16x) 5 zp1_2_4_16x) 6 zp1_2_5_16x))) s := hK.sub [0, 1, 2, 3, 4, 5, 6, 7, 8, 9, 10, 11, 12, 13, 14, 15, 16, 17, 18, 19, 20, 21, 22, 23, 24, 25, 26, 27, 28, 29, 30] rfl
          refine lv_iload hx hb dX5_foldBlock_177 (lv_at hl 4 rfl) ?_
          refine lv_istore (lv' := [(6, .int (p1_2w_91 6 (nn v6_91))), (0, .ref (p0a 0)), (1, .ref (p1a 0)), (2, .int p2), (3, .int v3_170), (4, .int (p1_2w_91 6 (nn v6_91)))]) hx hb dX5_foldBlock_179 hl (by decide) rfl (fun ls hl => ?_)
          refine lv_goto (tgt := 91) hx hb dX5_foldBlock_181 (by decide) ?_
          exact IH91 v3_170 (p1_2w_91 6 (nn v6_91)) (o_31.1) (o_31.2) o91 _ _ _ hrun hP hD hK hS (lv_sub hl [1, 2, 3, 4, 0] rfl) hg_p1_2 hk91
        rcases br9 hrun with ⟨hc32, hrun⟩ | ⟨hc32, hrun⟩
        · refine lv_if_eq (tgt := 170) hx hb dX5_foldBlock_121 (by decide) (fun _ => ?_) (fun c => absurd hc32 c)
          exact J170 v3_91 p1_2w_91 _ _ _ hrun hP hD hK hS (lv_sub hl [1, 2, 3, 4, 0, 5] rfl) hg_p1_2
        · refine lv_if_eq (tgt := 170) hx hb dX5_foldBlock_121 (by decide) (fun c => absurd c hc32) (fun _ => ?_)
          refine lv_aload_n hx hb dX5_foldBlock_124 rfl (lv_at hl 1 rfl) ?_
          refine va_get (D := (dC, dI)) (ci := 7) (v := .ref (p0a 4)) (C := RX5) (T := TX5) (N := 12) hx hb hts i_X5 hown hK hP 0 rfl rfl 3 (by decide) (hts _ qw490) (fun _ h9 => h9) rfl dX5_foldBlock_125 ?_
          refine lv_aload_n hx hb dX5_foldBlock_128 rfl (lv_at hl 2 rfl) ?_
          refine va_get (D := (dC, dI)) (ci := 4) (v := .ref (p1a 3)) (C := RX1) (T := TX1) (N := 21) hx hb hts i_X1 hown hK hP 10 rfl rfl 2 (by decide) (hts _ qw435) (fun _ h9 => h9) rfl dX5_foldBlock_129 ?_
          refine va_get (D := (dC, dI)) (ci := 3) (v := .ref xp1_2_2_16x) (C := RX9) (T := TX9) (N := 6) hx hb hts i_X9 hown hK hP 28 rfl rfl 2 (by decide) (hts _ qw436) (fun _ h9 => h9) rfl dX5_foldBlock_132 ?_
          refine lv_iload hx hb dX5_foldBlock_135 (lv_at hl 5 rfl) ?_
          obtain ⟨hq33, hrun⟩ := chk9 hrun
          refine va_iald hx hb hK hP 30 27 rfl rfl (ixb_in hq33) dX5_foldBlock_137 ?_
          obtain ⟨hq34, hrun⟩ := chk9 hrun
          refine va_iald hx hb hK hP 3 2 rfl rfl (ixb_in hq34) dX5_foldBlock_138 ?_
          refine lv_iconst (v := 1) hx hb dX5_foldBlock_139 (by decide) ?_
          rcases br9 hrun with ⟨hc35, hrun⟩ | ⟨hc35, hrun⟩
          · refine lv_icmp_ne (tgt := 170) hx hb dX5_foldBlock_140 (by decide) (fun c => absurd hc35 c) (fun _ => ?_)
            refine lv_aload_n hx hb dX5_foldBlock_143 rfl (lv_at hl 2 rfl) ?_
            refine va_get (D := (dC, dI)) (ci := 4) (v := .ref (p1a 3)) (C := RX1) (T := TX1) (N := 21) hx hb hts i_X1 hown hK hP 10 rfl rfl 2 (by decide) (hts _ qw435) (fun _ h9 => h9) rfl dX5_foldBlock_144 ?_
            refine lv_iload hx hb dX5_foldBlock_147 (lv_at hl 5 rfl) ?_
            refine lv_aload_n hx hb dX5_foldBlock_149 rfl (lv_at hl 1 rfl) ?_
            refine va_get (D := (dC, dI)) (ci := 7) (v := .ref (p0a 5)) (C := RX5) (T := TX5) (N := 12) hx hb hts i_X5 hown hK hP 0 rfl rfl 4 (by decide) (hts _ qw491) (fun _ h9 => h9) rfl dX5_foldBlock_150 ?_
            refine lv_aload_n hx hb dX5_foldBlock_153 rfl (lv_at hl 2 rfl) ?_
            refine va_get (D := (dC, dI)) (ci := 4) (v := .ref (p1a 3)) (C := RX1) (T := TX1) (N := 21) hx hb hts i_X1 hown hK hP 10 rfl rfl 2 (by decide) (hts _ qw435) (fun _ h9 => h9) rfl dX5_foldBlock_154 ?_
            refine va_get (D := (dC, dI)) (ci := 3) (v := .ref xp1_2_2_16x) (C := RX9) (T := TX9) (N := 6) hx hb hts i_X9 hown hK hP 28 rfl rfl 2 (by decide) (hts _ qw436) (fun _ h9 => h9) rfl dX5_foldBlock_157 ?_
            refine lv_iload hx hb dX5_foldBlock_160 (lv_at hl 5 rfl) ?_
            obtain ⟨hq36, hrun⟩ := chk9 hrun
            refine va_iald hx hb hK hP 30 27 rfl rfl (ixb_in hq36) dX5_foldBlock_162 ?_
            obtain ⟨hq37, hrun⟩ := chk9 hrun
            refine va_iald hx hb hK hP 4 3 rfl rfl (ixb_in hq37) dX5_foldBlock_163 ?_
            obtain ⟨o_38, hc_38, hrun⟩ := bnd9 hrun
            have hPc := hP.sub (ws' := (oX9 (p1a 3) (st1 (st1 (st1 (st1 (st1 p1_2a 2 xp1_2_1_16x) 3 xp1_2_2_16x) 4 xp1_2_3_16x) 5 xp1_2_4_16x) 6 xp1_2_5_16x) (st1 (st1 (st1 (st1 (st1 p1_2k 2 zp1_2_1_16x) 3 zp1_2_2_16x) 4 zp1_2_3_16x) 5 zp1_2_4_16x) 6 zp1_2_5_16x) (o16.2.2.2) p1_2w_91)) [28, 29, 30, 31, 32, 33] rfl
            have hDc := hD.sub (ws' := (oX9 (p1a 3) (st1 (st1 (st1 (st1 (st1 p1_2a 2 xp1_2_1_16x) 3 xp1_2_2_16x) 4 xp1_2_3_16x) 5 xp1_2_4_16x) 6 xp1_2_5_16x) (st1 (st1 (st1 (st1 (st1 p1_2k 2 zp1_2_1_16x) 3 zp1_2_2_16x) 4 zp1_2_3_16x) 5 zp1_2_4_16x) 6 zp1_2_5_16x) (o16.2.2.2) p1_2w_91)) [28, 29, 30, 31, 32, 33] (by decide) rfl
            have hKc := hK.sub (tys' := (tX9 (st1 (st1 (st1 (st1 (st1 p1_2k 2 zp1_2_1_16x) 3 zp1_2_2_16x) 4 zp1_2_3_16x) 5 zp1_2_4_16x) 6 zp1_2_5_16x))) [26, 27, 28, 29, 30] rfl
            have hFc := va_free (wc := (oX9 (p1a 3) (st1 (st1 (st1 (st1 (st1 p1_2a 2 xp1_2_1_16x) 3 xp1_2_2_16x) 4 xp1_2_3_16x) 5 xp1_2_4_16x) 6 xp1_2_5_16x) (st1 (st1 (st1 (st1 (st1 p1_2k 2 zp1_2_1_16x) 3 zp1_2_2_16x) 4 zp1_2_3_16x) 5 zp1_2_4_16x) 6 zp1_2_5_16x) (o16.2.2.2) p1_2w_91)) hD hS hA [28, 29, 30, 31, 32, 33] rfl
            refine va_callv (va_runS (As := [.ref (p1a 3), .int v6_91, .int (p0w 5 (nn (p1_2w_91 3 (nn v6_91))))]) (rest := []) ⟨hx, hb, hml, hown, hts⟩ (kX5_becomeNumber l dC dI (p0a := (st0 (p1a 3) (st1 (st1 (st1 (st1 (st1 p1_2a 2 xp1_2_1_16x) 3 xp1_2_2_16x) 4 xp1_2_3_16x) 5 xp1_2_4_16x) 6 xp1_2_5_16x))) (p0k := (st1 (st1 (st1 (st1 (st1 p1_2k 2 zp1_2_1_16x) 3 zp1_2_2_16x) 4 zp1_2_3_16x) 5 zp1_2_4_16x) 6 zp1_2_5_16x)) (p0n := (o16.2.2.2)) (p0w := p1_2w_91) (p1 := v6_91) (p2 := (p0w 5 (nn (p1_2w_91 3 (nn v6_91))))) (sz := _) (o := o_38) (hrun := hc_38)) (va_cwS 3 hts (gi_S qw496 qw497 qw442 (gi_z qw495)) rfl rfl rfl (by decide +kernel) ⟨Nat.le_of_ble_eq_true rfl, Nat.le_of_ble_eq_true rfl⟩) ⟨PRE.blind, PRE.of hE hS hFc hPc hKc hDc⟩ rfl rfl hl.1 rfl (lv_room (Nat.le_of_ble_eq_true rfl)) dX5_foldBlock_164 ⟨(show (gcX9 p1_2n (o16.2.2.2)) + 0 ≤ (gcX9 p1_2n (o.2.2.2)) from by have q0 := gmX9 hg_p1_2 hgn_p1_2; omega), (show (3 * (gcX9 p1_2n (o16.2.2.2))) + 0 ≤ (3 * (gcX9 p1_2n (o.2.2.2))) from by have q0 := gmX9 hg_p1_2 hgn_p1_2; omega)⟩) hS (fun q _ h => hFc q h) hFc (fun u t H locs ht hvm hw hB hz1 hk1 hS => ?_)
            obtain ⟨hP, hD, hK⟩ := JOIN (wr := ((oX5 (p0a 0) p0a p0k p0w p0l) ++ (oX1 (p1a 0) p1a p1k p1n p1w_91 p1l))) hP hD hK [28, 29, 30, 31, 32, 33] [0, 1, 2, 3, 4, 5, 6, 7, 8, 9, 10, 11, 12, 13, 14, 15, 16, 17, 18, 19, 20, 21, 22, 23, 24, 25, 26, 27] [0, 1, 2, 3, 4, 5, 6, 7, 8, 9, 10, 11, 12, 13, 14, 15, 16, 17, 18, 19, 20, 21, 22, 23, 24, 25] rfl rfl (by decide) (by decide) rfl hk1 hFc ht hvm hB
            have hP : va_P (dC, dI) cls ((oX5 (p0a 0) p0a p0k p0w p0l) ++ (oX1 (p1a 0) p1a p1k p1n p1w_91 p1l) ++ (oX9 (p1a 3) (st1 (st1 (st1 (st1 (st1 p1_2a 2 xp1_2_1_16x) 3 xp1_2_2_16x) 4 xp1_2_3_16x) 5 xp1_2_4_16x) 6 xp1_2_5_16x) (st1 (st1 (st1 (st1 (st1 p1_2k 2 zp1_2_1_16x) 3 zp1_2_2_16x) 4 zp1_2_3_16x) 5 zp1_2_4_16x) 6 zp1_2_5_16x) (o16.2.2.2) o_38)) H := hP.sub [0, 1, 2, 3, 4, 5, 6, 7, 8, 9, 10, 11, 12, 13, 14, 15, 16, 17, 18, 19, 20, 21, 22, 23, 24, 25, 26, 27, 28, 29, 30, 31, 32, 33] rfl
            have hD : va_D A ((oX5 (p0a 0) p0a p0k p0w p0l) ++ (oX1 (p1a 0) p1a p1k p1n p1w_91 p1l) ++ (oX9 (p1a 3) (st1 (st1 (st1 (st1 (st1 p1_2a 2 xp1_2_1_16x) 3 xp1_2_2_16x) 4 xp1_2_3_16x) 5 xp1_2_4_16x) 6 xp1_2_5_16x) (st1 (st1 (st1 (st1 (st1 p1_2k 2 zp1_2_1_16x) 3 zp1_2_2_16x) 4 zp1_2_3_16x) 5 zp1_2_4_16x) 6 zp1_2_5_16x) (o16.2.2.2) o_38)) := hD.sub [0, 1, 2, 3, 4, 5, 6, 7, 8, 9, 10, 11, 12, 13, 14, 15, 16, 17, 18, 19, 20, 21, 22, 23, 24, 25, 26, 27, 28, 29, 30, 31, 32, 33] (by decide) rfl
            have hK : va_K (dC, dI) cls ((tX5 p0k) ++ (tX1 p1k) ++ (tX9 (st1 (st1 (st1 (st1 (st1 p1_2k 2 zp1_2_1_16x) 3 zp1_2_2_16x) 4 zp1_2_3_16x) 5 zp1_2_4_16x) 6 zp1_2_5_16x))) s := hK.sub [0, 1, 2, 3, 4, 5, 6, 7, 8, 9, 10, 11, 12, 13, 14, 15, 16, 17, 18, 19, 20, 21, 22, 23, 24, 25, 26, 27, 28, 29, 30] rfl
            refine lv_iinc (v := (v3_91 + 1)) (lv' := [(3, .int (v3_91 + 1)), (4, .int (p1_2w_91 6 (nn v6_91))), (0, .ref (p0a 0)), (1, .ref (p1a 0)), (2, .int p2), (6, .int v6_91)]) hx hb dX5_foldBlock_167 hl (k := 4) rfl rfl (by decide) rfl (fun ls hl => ?_)
            exact J170 (v3_91 + 1) o_38 _ _ _ hrun hP hD hK hS (lv_sub hl [2, 3, 4, 0, 1, 5] rfl) hg_p1_2
          · refine lv_icmp_ne (tgt := 170) hx hb dX5_foldBlock_140 (by decide) (fun _ => ?_) (fun c => absurd c hc35)
            exact J170 v3_91 p1_2w_91 _ _ _ hrun hP hD hK hS (lv_sub hl [1, 2, 3, 4, 0, 5] rfl) hg_p1_2
  obtain ⟨o91, hc91, hrun⟩ := bnd9 hrun
  refine L91 NF (o16.1) (o_1.1) (o16.2.1) (o16.2.2.1) o91 _ _ _ hc91 hP hD hK hS (lv_sub hl [1, 2, 3, 4, 0] rfl) hg_p1_2 ?_
  intro H locs ls hP hD hK hS hl hg_p1_2
  have hl := hl
  refine lv_iload_n hx hb dX5_foldBlock_184 rfl (lv_at hl 3 rfl) ?_
  refine lv_aload_n hx hb dX5_foldBlock_185 rfl (lv_at hl 0 rfl) ?_
  refine lv_aload_n hx hb dX5_foldBlock_186 rfl (lv_at hl 1 rfl) ?_
  refine lv_iload_n hx hb dX5_foldBlock_187 rfl (lv_at hl 2 rfl) ?_
  obtain ⟨o_39, hc_39, hrun⟩ := bnd9 hrun
  have hPc := hP.sub (ws' := ((oX5 (p0a 0) p0a p0k p0w p0l) ++ (oX1 (p1a 0) p1a p1k p1n (o91.2.1) p1l))) [0, 1, 2, 3, 4, 5, 6, 7, 8, 9, 10, 11, 12, 13, 14, 15, 16, 17, 18, 19, 20, 21, 22, 23, 24, 25, 26, 27] rfl
  have hDc := hD.sub (ws' := ((oX5 (p0a 0) p0a p0k p0w p0l) ++ (oX1 (p1a 0) p1a p1k p1n (o91.2.1) p1l))) [0, 1, 2, 3, 4, 5, 6, 7, 8, 9, 10, 11, 12, 13, 14, 15, 16, 17, 18, 19, 20, 21, 22, 23, 24, 25, 26, 27] (by decide) rfl
  have hKc := hK.sub (tys' := ((tX5 p0k) ++ (tX1 p1k))) [0, 1, 2, 3, 4, 5, 6, 7, 8, 9, 10, 11, 12, 13, 14, 15, 16, 17, 18, 19, 20, 21, 22, 23, 24, 25] rfl
  have hFc := va_free (wc := ((oX5 (p0a 0) p0a p0k p0w p0l) ++ (oX1 (p1a 0) p1a p1k p1n (o91.2.1) p1l))) hD hS hA [0, 1, 2, 3, 4, 5, 6, 7, 8, 9, 10, 11, 12, 13, 14, 15, 16, 17, 18, 19, 20, 21, 22, 23, 24, 25, 26, 27] rfl
  refine va_calli (va_runV (As := [.ref (p1a 0), .int p2]) (rest := [.int (o91.1)]) ⟨hx, hb, hml, hown, hts⟩ (kX5_foldEnd l dC dI (p0a := (st0 (p0a 0) p0a)) (p0k := p0k) (p0w := p0w) (p0l := p0l) (p1a := (st0 (p1a 0) p1a)) (p1k := p1k) (p1n := p1n) (p1w := (o91.2.1)) (p1l := p1l) (p2 := p2) (sz := _) (o := o_39) (hrun := hc_39)) (cwV 2 hts (gi_V qw501 qw502 qw503 qw442 (gi_z qw500)) rfl rfl rfl (by decide +kernel) ⟨Nat.le_of_ble_eq_true rfl, Nat.le_of_ble_eq_true rfl⟩) ⟨PRE.blind, va_recv hKc hPc (ci := 7) (q0 := 0) rfl rfl, PRE.of hE hS hFc hPc hKc hDc⟩ rfl rfl hl.1 rfl (lv_room (Nat.le_of_ble_eq_true rfl)) dX5_foldBlock_188 ⟨(show (gcX9 p1_2n (o16.2.2.2)) + 0 ≤ (gcX9 p1_2n (o.2.2.2)) from by have q0 := gmX9 hg_p1_2 hgn_p1_2; omega), (show (3 * (gcX9 p1_2n (o16.2.2.2))) + 0 ≤ (3 * (gcX9 p1_2n (o.2.2.2))) from by have q0 := gmX9 hg_p1_2 hgn_p1_2; omega)⟩) hS (fun q _ h => hFc q h) hFc (fun r40 u t H locs ht hvm hw hB hz1 hk1 hS => ?_)
  obtain ⟨hP, hD, hK⟩ := JOIN (wr := (oX9 (p1a 3) (st1 (st1 (st1 (st1 (st1 p1_2a 2 xp1_2_1_16x) 3 xp1_2_2_16x) 4 xp1_2_3_16x) 5 xp1_2_4_16x) 6 xp1_2_5_16x) (st1 (st1 (st1 (st1 (st1 p1_2k 2 zp1_2_1_16x) 3 zp1_2_2_16x) 4 zp1_2_3_16x) 5 zp1_2_4_16x) 6 zp1_2_5_16x) (o16.2.2.2) (o91.2.2))) hP hD hK [0, 1, 2, 3, 4, 5, 6, 7, 8, 9, 10, 11, 12, 13, 14, 15, 16, 17, 18, 19, 20, 21, 22, 23, 24, 25, 26, 27] [28, 29, 30, 31, 32, 33] [26, 27, 28, 29, 30] rfl rfl (by decide) (by decide) rfl hk1 hFc ht hvm hB
  have hP : va_P (dC, dI) cls ((oX5 (p0a 0) p0a p0k p0w p0l) ++ (oX1 (p1a 0) p1a p1k p1n (o_39.2) p1l) ++ (oX9 (p1a 3) (st1 (st1 (st1 (st1 (st1 p1_2a 2 xp1_2_1_16x) 3 xp1_2_2_16x) 4 xp1_2_3_16x) 5 xp1_2_4_16x) 6 xp1_2_5_16x) (st1 (st1 (st1 (st1 (st1 p1_2k 2 zp1_2_1_16x) 3 zp1_2_2_16x) 4 zp1_2_3_16x) 5 zp1_2_4_16x) 6 zp1_2_5_16x) (o16.2.2.2) (o91.2.2))) H := hP.sub [6, 7, 8, 9, 10, 11, 12, 13, 14, 15, 16, 17, 18, 19, 20, 21, 22, 23, 24, 25, 26, 27, 28, 29, 30, 31, 32, 33, 0, 1, 2, 3, 4, 5] rfl
  have hD : va_D A ((oX5 (p0a 0) p0a p0k p0w p0l) ++ (oX1 (p1a 0) p1a p1k p1n (o_39.2) p1l) ++ (oX9 (p1a 3) (st1 (st1 (st1 (st1 (st1 p1_2a 2 xp1_2_1_16x) 3 xp1_2_2_16x) 4 xp1_2_3_16x) 5 xp1_2_4_16x) 6 xp1_2_5_16x) (st1 (st1 (st1 (st1 (st1 p1_2k 2 zp1_2_1_16x) 3 zp1_2_2_16x) 4 zp1_2_3_16x) 5 zp1_2_4_16x) 6 zp1_2_5_16x) (o16.2.2.2) (o91.2.2))) := hD.sub [6, 7, 8, 9, 10, 11, 12, 13, 14, 15, 16, 17, 18, 19, 20, 21, 22, 23, 24, 25, 26, 27, 28, 29, 30, 31, 32, 33, 0, 1, 2, 3, 4, 5] (by decide) rfl
  have hK : va_K (dC, dI) cls ((tX5 p0k) ++ (tX1 p1k) ++ (tX9 (st1 (st1 (st1 (st1 (st1 p1_2k 2 zp1_2_1_16x) 3 zp1_2_2_16x) 4 zp1_2_3_16x) 5 zp1_2_4_16x) 6 zp1_2_5_16x))) s := hK.sub [5, 6, 7, 8, 9, 10, 11, 12, 13, 14, 15, 16, 17, 18, 19, 20, 21, 22, 23, 24, 25, 26, 27, 28, 29, 30, 0, 1, 2, 3, 4] rfl
  obtain rfl : r40 = (o_39.1) := hw
  refine lv_iadd hx hb dX5_foldBlock_191 ?_
  have ho9 : (((o91.1) + (o_39.1)), (o_39.2), (o91.2.2), (o16.2.2.2)) = o := Option.some.inj hrun
  subst ho9
  subst hQ
  exact W.iret (v := ((o91.1) + (o_39.1))) hx hb hr (fun t ht hW => ⟨⟨((o91.1) + (o_39.1)), (), rfl, rfl, ⟨xp1_2_1_16x, zp1_2_1_16x, xp1_2_2_16x, zp1_2_2_16x, xp1_2_3_16x, zp1_2_3_16x, xp1_2_4_16x, zp1_2_4_16x, xp1_2_5_16x, zp1_2_5_16x, by rw [ht]; exact hP, va_K.moved hW.alike hK, hD⟩⟩, hS.F ht⟩) hS.2.2 dX5_foldBlock_192
