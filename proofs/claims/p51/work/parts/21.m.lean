abbrev cX2_reckon : ByteArray := prog_4_method_2_code
def yX2_reckon : MethodName := ⟨RX2, "reckon", "(LGearbox$Flow;II)V"⟩
abbrev cX0_uniteFirst : ByteArray := prog_2_method_7_code
def yX0_uniteFirst : MethodName := ⟨RX0, "uniteFirst", "()Z"⟩
abbrev cX2_mayUnite : ByteArray := prog_4_method_19_code
def yX2_mayUnite : MethodName := ⟨RX2, "mayUnite", "(III)Z"⟩
abbrev cX0_unite : ByteArray := prog_2_method_8_code
def yX0_unite : MethodName := ⟨RX0, "unite", "(II)V"⟩
abbrev cX2_weigh : ByteArray := prog_4_method_21_code
def yX2_weigh : MethodName := ⟨RX2, "weigh", "(LGearbox$Flow;)V"⟩
theorem dX0_unite_0 : decode cX0_unite 0 = .ok (.aload_n 0, 1) := by decide +kernel
theorem dX0_unite_1 : decode cX0_unite 1 = .ok (.getfield 12, 3) := by decide +kernel
theorem dX0_unite_4 : decode cX0_unite 4 = .ok (.getfield 155, 3) := by decide +kernel
theorem dX0_unite_7 : decode cX0_unite 7 = .ok (.astore_n 3, 1) := by decide +kernel
theorem dX0_unite_8 : decode cX0_unite 8 = .ok (.iconst 0, 1) := by decide +kernel
theorem dX0_unite_9 : decode cX0_unite 9 = .ok (.istore 4, 2) := by decide +kernel
theorem dX0_unite_11 : decode cX0_unite 11 = .ok (.iload 4, 2) := by decide +kernel
theorem dX0_unite_13 : decode cX0_unite 13 = .ok (.aload_n 0, 1) := by decide +kernel
theorem dX0_unite_14 : decode cX0_unite 14 = .ok (.getfield 12, 3) := by decide +kernel
theorem dX0_unite_17 : decode cX0_unite 17 = .ok (.getfield 93, 3) := by decide +kernel
theorem dX0_unite_20 : decode cX0_unite 20 = .ok (.if_icmp .ge 189, 3) := by decide +kernel
theorem dX0_unite_23 : decode cX0_unite 23 = .ok (.aload_n 0, 1) := by decide +kernel
theorem dX0_unite_24 : decode cX0_unite 24 = .ok (.getfield 12, 3) := by decide +kernel
theorem dX0_unite_27 : decode cX0_unite 27 = .ok (.iload 4, 2) := by decide +kernel
theorem dX0_unite_29 : decode cX0_unite 29 = .ok (.invokevirtual 186, 3) := by decide +kernel
theorem dX0_unite_32 : decode cX0_unite 32 = .ok (.istore 6, 2) := by decide +kernel
theorem dX0_unite_34 : decode cX0_unite 34 = .ok (.iload 6, 2) := by decide +kernel
theorem dX0_unite_36 : decode cX0_unite 36 = .ok (.ifCond .lt 142, 3) := by decide +kernel
theorem dX0_unite_39 : decode cX0_unite 39 = .ok (.aload_n 3, 1) := by decide +kernel
theorem dX0_unite_40 : decode cX0_unite 40 = .ok (.getfield 183, 3) := by decide +kernel
theorem dX0_unite_43 : decode cX0_unite 43 = .ok (.iload 6, 2) := by decide +kernel
theorem dX0_unite_45 : decode cX0_unite 45 = .ok (.iaload, 1) := by decide +kernel
theorem dX0_unite_46 : decode cX0_unite 46 = .ok (.istore 5, 2) := by decide +kernel
theorem dX0_unite_48 : decode cX0_unite 48 = .ok (.aload_n 3, 1) := by decide +kernel
theorem dX0_unite_49 : decode cX0_unite 49 = .ok (.getfield 162, 3) := by decide +kernel
theorem dX0_unite_52 : decode cX0_unite 52 = .ok (.iload 6, 2) := by decide +kernel
theorem dX0_unite_54 : decode cX0_unite 54 = .ok (.iaload, 1) := by decide +kernel
theorem dX0_unite_55 : decode cX0_unite 55 = .ok (.iload_n 2, 1) := by decide +kernel
theorem dX0_unite_56 : decode cX0_unite 56 = .ok (.if_icmp .ne 11, 3) := by decide +kernel
theorem dX0_unite_59 : decode cX0_unite 59 = .ok (.aload_n 3, 1) := by decide +kernel
theorem dX0_unite_60 : decode cX0_unite 60 = .ok (.getfield 162, 3) := by decide +kernel
theorem dX0_unite_63 : decode cX0_unite 63 = .ok (.iload 6, 2) := by decide +kernel
theorem dX0_unite_65 : decode cX0_unite 65 = .ok (.iload_n 1, 1) := by decide +kernel
theorem dX0_unite_66 : decode cX0_unite 66 = .ok (.iastore, 1) := by decide +kernel
theorem dX0_unite_67 : decode cX0_unite 67 = .ok (.aload_n 3, 1) := by decide +kernel
theorem dX0_unite_68 : decode cX0_unite 68 = .ok (.getfield 159, 3) := by decide +kernel
theorem dX0_unite_71 : decode cX0_unite 71 = .ok (.iload 6, 2) := by decide +kernel
theorem dX0_unite_73 : decode cX0_unite 73 = .ok (.iaload, 1) := by decide +kernel
theorem dX0_unite_74 : decode cX0_unite 74 = .ok (.invokestatic 189, 3) := by decide +kernel
theorem dX0_unite_77 : decode cX0_unite 77 = .ok (.ifCond .eq 22, 3) := by decide +kernel
theorem dX0_unite_80 : decode cX0_unite 80 = .ok (.aload_n 3, 1) := by decide +kernel
theorem dX0_unite_81 : decode cX0_unite 81 = .ok (.getfield 165, 3) := by decide +kernel
theorem dX0_unite_84 : decode cX0_unite 84 = .ok (.iload 6, 2) := by decide +kernel
theorem dX0_unite_86 : decode cX0_unite 86 = .ok (.iaload, 1) := by decide +kernel
theorem dX0_unite_87 : decode cX0_unite 87 = .ok (.iload_n 2, 1) := by decide +kernel
theorem dX0_unite_88 : decode cX0_unite 88 = .ok (.if_icmp .ne 11, 3) := by decide +kernel
theorem dX0_unite_91 : decode cX0_unite 91 = .ok (.aload_n 3, 1) := by decide +kernel
theorem dX0_unite_92 : decode cX0_unite 92 = .ok (.getfield 165, 3) := by decide +kernel
theorem dX0_unite_95 : decode cX0_unite 95 = .ok (.iload 6, 2) := by decide +kernel
theorem dX0_unite_97 : decode cX0_unite 97 = .ok (.iload_n 1, 1) := by decide +kernel
theorem dX0_unite_98 : decode cX0_unite 98 = .ok (.iastore, 1) := by decide +kernel
theorem dX0_unite_99 : decode cX0_unite 99 = .ok (.aload_n 3, 1) := by decide +kernel
theorem dX0_unite_100 : decode cX0_unite 100 = .ok (.getfield 159, 3) := by decide +kernel
theorem dX0_unite_103 : decode cX0_unite 103 = .ok (.iload 6, 2) := by decide +kernel
theorem dX0_unite_105 : decode cX0_unite 105 = .ok (.iaload, 1) := by decide +kernel
theorem dX0_unite_106 : decode cX0_unite 106 = .ok (.invokestatic 193, 3) := by decide +kernel
theorem dX0_unite_109 : decode cX0_unite 109 = .ok (.ifCond .eq 22, 3) := by decide +kernel
theorem dX0_unite_112 : decode cX0_unite 112 = .ok (.aload_n 3, 1) := by decide +kernel
theorem dX0_unite_113 : decode cX0_unite 113 = .ok (.getfield 196, 3) := by decide +kernel
theorem dX0_unite_116 : decode cX0_unite 116 = .ok (.iload 6, 2) := by decide +kernel
theorem dX0_unite_118 : decode cX0_unite 118 = .ok (.iaload, 1) := by decide +kernel
theorem dX0_unite_119 : decode cX0_unite 119 = .ok (.iload_n 2, 1) := by decide +kernel
theorem dX0_unite_120 : decode cX0_unite 120 = .ok (.if_icmp .ne 11, 3) := by decide +kernel
theorem dX0_unite_123 : decode cX0_unite 123 = .ok (.aload_n 3, 1) := by decide +kernel
theorem dX0_unite_124 : decode cX0_unite 124 = .ok (.getfield 196, 3) := by decide +kernel
theorem dX0_unite_127 : decode cX0_unite 127 = .ok (.iload 6, 2) := by decide +kernel
theorem dX0_unite_129 : decode cX0_unite 129 = .ok (.iload_n 1, 1) := by decide +kernel
theorem dX0_unite_130 : decode cX0_unite 130 = .ok (.iastore, 1) := by decide +kernel
theorem dX0_unite_131 : decode cX0_unite 131 = .ok (.aload_n 3, 1) := by decide +kernel
theorem dX0_unite_132 : decode cX0_unite 132 = .ok (.getfield 159, 3) := by decide +kernel
theorem dX0_unite_135 : decode cX0_unite 135 = .ok (.iload 6, 2) := by decide +kernel
theorem dX0_unite_137 : decode cX0_unite 137 = .ok (.iaload, 1) := by decide +kernel
theorem dX0_unite_138 : decode cX0_unite 138 = .ok (.bipush 25, 2) := by decide +kernel
theorem dX0_unite_140 : decode cX0_unite 140 = .ok (.if_icmp .ne 20, 3) := by decide +kernel
theorem dX0_unite_143 : decode cX0_unite 143 = .ok (.aload_n 3, 1) := by decide +kernel
theorem dX0_unite_144 : decode cX0_unite 144 = .ok (.getfield 162, 3) := by decide +kernel
theorem dX0_unite_147 : decode cX0_unite 147 = .ok (.iload 6, 2) := by decide +kernel
theorem dX0_unite_149 : decode cX0_unite 149 = .ok (.iaload, 1) := by decide +kernel
theorem dX0_unite_150 : decode cX0_unite 150 = .ok (.aload_n 3, 1) := by decide +kernel
theorem dX0_unite_151 : decode cX0_unite 151 = .ok (.getfield 165, 3) := by decide +kernel
theorem dX0_unite_154 : decode cX0_unite 154 = .ok (.iload 6, 2) := by decide +kernel
theorem dX0_unite_156 : decode cX0_unite 156 = .ok (.iaload, 1) := by decide +kernel
theorem dX0_unite_157 : decode cX0_unite 157 = .ok (.if_icmp .eq 14, 3) := by decide +kernel
theorem dX0_unite_160 : decode cX0_unite 160 = .ok (.aload_n 0, 1) := by decide +kernel
theorem dX0_unite_161 : decode cX0_unite 161 = .ok (.getfield 12, 3) := by decide +kernel
theorem dX0_unite_164 : decode cX0_unite 164 = .ok (.iload 4, 2) := by decide +kernel
theorem dX0_unite_166 : decode cX0_unite 166 = .ok (.iload 6, 2) := by decide +kernel
theorem dX0_unite_168 : decode cX0_unite 168 = .ok (.invokevirtual 199, 3) := by decide +kernel
theorem dX0_unite_171 : decode cX0_unite 171 = .ok (.iload 5, 2) := by decide +kernel
theorem dX0_unite_173 : decode cX0_unite 173 = .ok (.istore 6, 2) := by decide +kernel
theorem dX0_unite_175 : decode cX0_unite 175 = .ok (.goto (-141), 3) := by decide +kernel
theorem dX0_unite_178 : decode cX0_unite 178 = .ok (.aload_n 0, 1) := by decide +kernel
theorem dX0_unite_179 : decode cX0_unite 179 = .ok (.getfield 12, 3) := by decide +kernel
theorem dX0_unite_182 : decode cX0_unite 182 = .ok (.getfield 202, 3) := by decide +kernel
theorem dX0_unite_185 : decode cX0_unite 185 = .ok (.iload 4, 2) := by decide +kernel
theorem dX0_unite_187 : decode cX0_unite 187 = .ok (.iaload, 1) := by decide +kernel
theorem dX0_unite_188 : decode cX0_unite 188 = .ok (.iload_n 2, 1) := by decide +kernel
theorem dX0_unite_189 : decode cX0_unite 189 = .ok (.if_icmp .ne 14, 3) := by decide +kernel
theorem dX0_unite_192 : decode cX0_unite 192 = .ok (.aload_n 0, 1) := by decide +kernel
theorem dX0_unite_193 : decode cX0_unite 193 = .ok (.getfield 12, 3) := by decide +kernel
theorem dX0_unite_196 : decode cX0_unite 196 = .ok (.getfield 202, 3) := by decide +kernel
theorem dX0_unite_199 : decode cX0_unite 199 = .ok (.iload 4, 2) := by decide +kernel
theorem dX0_unite_201 : decode cX0_unite 201 = .ok (.iload_n 1, 1) := by decide +kernel
theorem dX0_unite_202 : decode cX0_unite 202 = .ok (.iastore, 1) := by decide +kernel
theorem dX0_unite_203 : decode cX0_unite 203 = .ok (.iinc 4 1, 3) := by decide +kernel
theorem dX0_unite_206 : decode cX0_unite 206 = .ok (.goto (-195), 3) := by decide +kernel
theorem dX0_unite_209 : decode cX0_unite 209 = .ok (.return_, 1) := by decide +kernel
theorem dX0_uniteFirst_0 : decode cX0_uniteFirst 0 = .ok (.iconst 0, 1) := by decide +kernel
theorem dX0_uniteFirst_1 : decode cX0_uniteFirst 1 = .ok (.istore_n 1, 1) := by decide +kernel
theorem dX0_uniteFirst_2 : decode cX0_uniteFirst 2 = .ok (.iload_n 1, 1) := by decide +kernel
theorem dX0_uniteFirst_3 : decode cX0_uniteFirst 3 = .ok (.aload_n 0, 1) := by decide +kernel
theorem dX0_uniteFirst_4 : decode cX0_uniteFirst 4 = .ok (.getfield 12, 3) := by decide +kernel
theorem dX0_uniteFirst_7 : decode cX0_uniteFirst 7 = .ok (.getfield 93, 3) := by decide +kernel
theorem dX0_uniteFirst_10 : decode cX0_uniteFirst 10 = .ok (.if_icmp .ge 118, 3) := by decide +kernel
theorem dX0_uniteFirst_13 : decode cX0_uniteFirst 13 = .ok (.aload_n 0, 1) := by decide +kernel
theorem dX0_uniteFirst_14 : decode cX0_uniteFirst 14 = .ok (.getfield 12, 3) := by decide +kernel
theorem dX0_uniteFirst_17 : decode cX0_uniteFirst 17 = .ok (.getfield 152, 3) := by decide +kernel
theorem dX0_uniteFirst_20 : decode cX0_uniteFirst 20 = .ok (.iload_n 1, 1) := by decide +kernel
theorem dX0_uniteFirst_21 : decode cX0_uniteFirst 21 = .ok (.iaload, 1) := by decide +kernel
theorem dX0_uniteFirst_22 : decode cX0_uniteFirst 22 = .ok (.istore_n 2, 1) := by decide +kernel
theorem dX0_uniteFirst_23 : decode cX0_uniteFirst 23 = .ok (.iload_n 2, 1) := by decide +kernel
theorem dX0_uniteFirst_24 : decode cX0_uniteFirst 24 = .ok (.ifCond .lt 98, 3) := by decide +kernel
theorem dX0_uniteFirst_27 : decode cX0_uniteFirst 27 = .ok (.aload_n 0, 1) := by decide +kernel
theorem dX0_uniteFirst_28 : decode cX0_uniteFirst 28 = .ok (.getfield 12, 3) := by decide +kernel
theorem dX0_uniteFirst_31 : decode cX0_uniteFirst 31 = .ok (.getfield 155, 3) := by decide +kernel
theorem dX0_uniteFirst_34 : decode cX0_uniteFirst 34 = .ok (.getfield 159, 3) := by decide +kernel
theorem dX0_uniteFirst_37 : decode cX0_uniteFirst 37 = .ok (.iload_n 2, 1) := by decide +kernel
theorem dX0_uniteFirst_38 : decode cX0_uniteFirst 38 = .ok (.iaload, 1) := by decide +kernel
theorem dX0_uniteFirst_39 : decode cX0_uniteFirst 39 = .ok (.bipush 25, 2) := by decide +kernel
theorem dX0_uniteFirst_41 : decode cX0_uniteFirst 41 = .ok (.if_icmp .ne 65, 3) := by decide +kernel
theorem dX0_uniteFirst_44 : decode cX0_uniteFirst 44 = .ok (.aload_n 0, 1) := by decide +kernel
theorem dX0_uniteFirst_45 : decode cX0_uniteFirst 45 = .ok (.getfield 12, 3) := by decide +kernel
theorem dX0_uniteFirst_48 : decode cX0_uniteFirst 48 = .ok (.getfield 155, 3) := by decide +kernel
theorem dX0_uniteFirst_51 : decode cX0_uniteFirst 51 = .ok (.getfield 162, 3) := by decide +kernel
theorem dX0_uniteFirst_54 : decode cX0_uniteFirst 54 = .ok (.iload_n 2, 1) := by decide +kernel
theorem dX0_uniteFirst_55 : decode cX0_uniteFirst 55 = .ok (.iaload, 1) := by decide +kernel
theorem dX0_uniteFirst_56 : decode cX0_uniteFirst 56 = .ok (.istore_n 3, 1) := by decide +kernel
theorem dX0_uniteFirst_57 : decode cX0_uniteFirst 57 = .ok (.aload_n 0, 1) := by decide +kernel
theorem dX0_uniteFirst_58 : decode cX0_uniteFirst 58 = .ok (.getfield 12, 3) := by decide +kernel
theorem dX0_uniteFirst_61 : decode cX0_uniteFirst 61 = .ok (.getfield 155, 3) := by decide +kernel
theorem dX0_uniteFirst_64 : decode cX0_uniteFirst 64 = .ok (.getfield 165, 3) := by decide +kernel
theorem dX0_uniteFirst_67 : decode cX0_uniteFirst 67 = .ok (.iload_n 2, 1) := by decide +kernel
theorem dX0_uniteFirst_68 : decode cX0_uniteFirst 68 = .ok (.iaload, 1) := by decide +kernel
theorem dX0_uniteFirst_69 : decode cX0_uniteFirst 69 = .ok (.istore 4, 2) := by decide +kernel
theorem dX0_uniteFirst_71 : decode cX0_uniteFirst 71 = .ok (.aload_n 0, 1) := by decide +kernel
theorem dX0_uniteFirst_72 : decode cX0_uniteFirst 72 = .ok (.getfield 37, 3) := by decide +kernel
theorem dX0_uniteFirst_75 : decode cX0_uniteFirst 75 = .ok (.iload_n 3, 1) := by decide +kernel
theorem dX0_uniteFirst_76 : decode cX0_uniteFirst 76 = .ok (.iload 4, 2) := by decide +kernel
theorem dX0_uniteFirst_78 : decode cX0_uniteFirst 78 = .ok (.aload_n 0, 1) := by decide +kernel
theorem dX0_uniteFirst_79 : decode cX0_uniteFirst 79 = .ok (.getfield 59, 3) := by decide +kernel
theorem dX0_uniteFirst_82 : decode cX0_uniteFirst 82 = .ok (.invokevirtual 168, 3) := by decide +kernel
theorem dX0_uniteFirst_85 : decode cX0_uniteFirst 85 = .ok (.ifCond .eq 21, 3) := by decide +kernel
theorem dX0_uniteFirst_88 : decode cX0_uniteFirst 88 = .ok (.aload_n 0, 1) := by decide +kernel
theorem dX0_uniteFirst_89 : decode cX0_uniteFirst 89 = .ok (.iload_n 3, 1) := by decide +kernel
theorem dX0_uniteFirst_90 : decode cX0_uniteFirst 90 = .ok (.iload 4, 2) := by decide +kernel
theorem dX0_uniteFirst_92 : decode cX0_uniteFirst 92 = .ok (.invokestatic 172, 3) := by decide +kernel
theorem dX0_uniteFirst_95 : decode cX0_uniteFirst 95 = .ok (.iload_n 3, 1) := by decide +kernel
theorem dX0_uniteFirst_96 : decode cX0_uniteFirst 96 = .ok (.iload 4, 2) := by decide +kernel
theorem dX0_uniteFirst_98 : decode cX0_uniteFirst 98 = .ok (.invokestatic 177, 3) := by decide +kernel
theorem dX0_uniteFirst_101 : decode cX0_uniteFirst 101 = .ok (.invokevirtual 180, 3) := by decide +kernel
theorem dX0_uniteFirst_104 : decode cX0_uniteFirst 104 = .ok (.iconst 1, 1) := by decide +kernel
theorem dX0_uniteFirst_105 : decode cX0_uniteFirst 105 = .ok (.ireturn, 1) := by decide +kernel
theorem dX0_uniteFirst_106 : decode cX0_uniteFirst 106 = .ok (.aload_n 0, 1) := by decide +kernel
theorem dX0_uniteFirst_107 : decode cX0_uniteFirst 107 = .ok (.getfield 12, 3) := by decide +kernel
theorem dX0_uniteFirst_110 : decode cX0_uniteFirst 110 = .ok (.getfield 155, 3) := by decide +kernel
theorem dX0_uniteFirst_113 : decode cX0_uniteFirst 113 = .ok (.getfield 183, 3) := by decide +kernel
theorem dX0_uniteFirst_116 : decode cX0_uniteFirst 116 = .ok (.iload_n 2, 1) := by decide +kernel
theorem dX0_uniteFirst_117 : decode cX0_uniteFirst 117 = .ok (.iaload, 1) := by decide +kernel
theorem dX0_uniteFirst_118 : decode cX0_uniteFirst 118 = .ok (.istore_n 2, 1) := by decide +kernel
theorem dX0_uniteFirst_119 : decode cX0_uniteFirst 119 = .ok (.goto (-96), 3) := by decide +kernel
theorem dX0_uniteFirst_122 : decode cX0_uniteFirst 122 = .ok (.iinc 1 1, 3) := by decide +kernel
theorem dX0_uniteFirst_125 : decode cX0_uniteFirst 125 = .ok (.goto (-123), 3) := by decide +kernel
theorem dX0_uniteFirst_128 : decode cX0_uniteFirst 128 = .ok (.iconst 0, 1) := by decide +kernel
theorem dX0_uniteFirst_129 : decode cX0_uniteFirst 129 = .ok (.ireturn, 1) := by decide +kernel
theorem dX2_mayUnite_0 : decode cX2_mayUnite 0 = .ok (.iload_n 1, 1) := by decide +kernel
theorem dX2_mayUnite_1 : decode cX2_mayUnite 1 = .ok (.aload_n 0, 1) := by decide +kernel
theorem dX2_mayUnite_2 : decode cX2_mayUnite 2 = .ok (.getfield 58, 3) := by decide +kernel
theorem dX2_mayUnite_5 : decode cX2_mayUnite 5 = .ok (.if_icmp .ge 24, 3) := by decide +kernel
theorem dX2_mayUnite_8 : decode cX2_mayUnite 8 = .ok (.iload_n 2, 1) := by decide +kernel
theorem dX2_mayUnite_9 : decode cX2_mayUnite 9 = .ok (.aload_n 0, 1) := by decide +kernel
theorem dX2_mayUnite_10 : decode cX2_mayUnite 10 = .ok (.getfield 58, 3) := by decide +kernel
theorem dX2_mayUnite_13 : decode cX2_mayUnite 13 = .ok (.if_icmp .ge 16, 3) := by decide +kernel
theorem dX2_mayUnite_16 : decode cX2_mayUnite 16 = .ok (.aload_n 0, 1) := by decide +kernel
theorem dX2_mayUnite_17 : decode cX2_mayUnite 17 = .ok (.aload_n 0, 1) := by decide +kernel
theorem dX2_mayUnite_18 : decode cX2_mayUnite 18 = .ok (.getfield 31, 3) := by decide +kernel
theorem dX2_mayUnite_21 : decode cX2_mayUnite 21 = .ok (.iload_n 1, 1) := by decide +kernel
theorem dX2_mayUnite_22 : decode cX2_mayUnite 22 = .ok (.iload_n 2, 1) := by decide +kernel
theorem dX2_mayUnite_23 : decode cX2_mayUnite 23 = .ok (.invokevirtual 150, 3) := by decide +kernel
theorem dX2_mayUnite_26 : decode cX2_mayUnite 26 = .ok (.ifCond .eq 5, 3) := by decide +kernel
theorem dX2_mayUnite_29 : decode cX2_mayUnite 29 = .ok (.iconst 0, 1) := by decide +kernel
theorem dX2_mayUnite_30 : decode cX2_mayUnite 30 = .ok (.ireturn, 1) := by decide +kernel
theorem dX2_mayUnite_31 : decode cX2_mayUnite 31 = .ok (.iconst 0, 1) := by decide +kernel
theorem dX2_mayUnite_32 : decode cX2_mayUnite 32 = .ok (.istore 4, 2) := by decide +kernel
theorem dX2_mayUnite_34 : decode cX2_mayUnite 34 = .ok (.iconst 0, 1) := by decide +kernel
theorem dX2_mayUnite_35 : decode cX2_mayUnite 35 = .ok (.istore 5, 2) := by decide +kernel
theorem dX2_mayUnite_37 : decode cX2_mayUnite 37 = .ok (.iload 5, 2) := by decide +kernel
theorem dX2_mayUnite_39 : decode cX2_mayUnite 39 = .ok (.aload_n 0, 1) := by decide +kernel
theorem dX2_mayUnite_40 : decode cX2_mayUnite 40 = .ok (.getfield 65, 3) := by decide +kernel
theorem dX2_mayUnite_43 : decode cX2_mayUnite 43 = .ok (.if_icmp .ge 89, 3) := by decide +kernel
theorem dX2_mayUnite_46 : decode cX2_mayUnite 46 = .ok (.aload_n 0, 1) := by decide +kernel
theorem dX2_mayUnite_47 : decode cX2_mayUnite 47 = .ok (.getfield 31, 3) := by decide +kernel
theorem dX2_mayUnite_50 : decode cX2_mayUnite 50 = .ok (.iload_n 1, 1) := by decide +kernel
theorem dX2_mayUnite_51 : decode cX2_mayUnite 51 = .ok (.aload_n 0, 1) := by decide +kernel
theorem dX2_mayUnite_52 : decode cX2_mayUnite 52 = .ok (.getfield 65, 3) := by decide +kernel
theorem dX2_mayUnite_55 : decode cX2_mayUnite 55 = .ok (.imul, 1) := by decide +kernel
theorem dX2_mayUnite_56 : decode cX2_mayUnite 56 = .ok (.iload 5, 2) := by decide +kernel
theorem dX2_mayUnite_58 : decode cX2_mayUnite 58 = .ok (.iadd, 1) := by decide +kernel
theorem dX2_mayUnite_59 : decode cX2_mayUnite 59 = .ok (.laload, 1) := by decide +kernel
theorem dX2_mayUnite_60 : decode cX2_mayUnite 60 = .ok (.aload_n 0, 1) := by decide +kernel
theorem dX2_mayUnite_61 : decode cX2_mayUnite 61 = .ok (.getfield 31, 3) := by decide +kernel
theorem dX2_mayUnite_64 : decode cX2_mayUnite 64 = .ok (.iload_n 2, 1) := by decide +kernel
theorem dX2_mayUnite_65 : decode cX2_mayUnite 65 = .ok (.aload_n 0, 1) := by decide +kernel
theorem dX2_mayUnite_66 : decode cX2_mayUnite 66 = .ok (.getfield 65, 3) := by decide +kernel
theorem dX2_mayUnite_69 : decode cX2_mayUnite 69 = .ok (.imul, 1) := by decide +kernel
theorem dX2_mayUnite_70 : decode cX2_mayUnite 70 = .ok (.iload 5, 2) := by decide +kernel
theorem dX2_mayUnite_72 : decode cX2_mayUnite 72 = .ok (.iadd, 1) := by decide +kernel
theorem dX2_mayUnite_73 : decode cX2_mayUnite 73 = .ok (.laload, 1) := by decide +kernel
theorem dX2_mayUnite_74 : decode cX2_mayUnite 74 = .ok (.lor, 1) := by decide +kernel
theorem dX2_mayUnite_75 : decode cX2_mayUnite 75 = .ok (.lstore 6, 2) := by decide +kernel
theorem dX2_mayUnite_77 : decode cX2_mayUnite 77 = .ok (.lload 6, 2) := by decide +kernel
theorem dX2_mayUnite_79 : decode cX2_mayUnite 79 = .ok (.lconst 0, 1) := by decide +kernel
theorem dX2_mayUnite_80 : decode cX2_mayUnite 80 = .ok (.lcmp, 1) := by decide +kernel
theorem dX2_mayUnite_81 : decode cX2_mayUnite 81 = .ok (.ifCond .eq 45, 3) := by decide +kernel
theorem dX2_mayUnite_84 : decode cX2_mayUnite 84 = .ok (.iload 4, 2) := by decide +kernel
theorem dX2_mayUnite_86 : decode cX2_mayUnite 86 = .ok (.aload_n 0, 1) := by decide +kernel
theorem dX2_mayUnite_87 : decode cX2_mayUnite 87 = .ok (.getfield 37, 3) := by decide +kernel
theorem dX2_mayUnite_90 : decode cX2_mayUnite 90 = .ok (.iload 5, 2) := by decide +kernel
theorem dX2_mayUnite_92 : decode cX2_mayUnite 92 = .ok (.bipush 64, 2) := by decide +kernel
theorem dX2_mayUnite_94 : decode cX2_mayUnite 94 = .ok (.imul, 1) := by decide +kernel
theorem dX2_mayUnite_95 : decode cX2_mayUnite 95 = .ok (.lload 6, 2) := by decide +kernel
theorem dX2_mayUnite_97 : decode cX2_mayUnite 97 = .ok (.invokestatic 203, 3) := by decide +kernel
theorem dX2_mayUnite_100 : decode cX2_mayUnite 100 = .ok (.iadd, 1) := by decide +kernel
theorem dX2_mayUnite_101 : decode cX2_mayUnite 101 = .ok (.iaload, 1) := by decide +kernel
theorem dX2_mayUnite_102 : decode cX2_mayUnite 102 = .ok (.iload_n 3, 1) := by decide +kernel
theorem dX2_mayUnite_103 : decode cX2_mayUnite 103 = .ok (.if_icmp .lt 7, 3) := by decide +kernel
theorem dX2_mayUnite_106 : decode cX2_mayUnite 106 = .ok (.iconst 1, 1) := by decide +kernel
theorem dX2_mayUnite_107 : decode cX2_mayUnite 107 = .ok (.goto 4, 3) := by decide +kernel
theorem dX2_mayUnite_110 : decode cX2_mayUnite 110 = .ok (.iconst 0, 1) := by decide +kernel
theorem dX2_mayUnite_111 : decode cX2_mayUnite 111 = .ok (.iadd, 1) := by decide +kernel
theorem dX2_mayUnite_112 : decode cX2_mayUnite 112 = .ok (.istore 4, 2) := by decide +kernel
theorem dX2_mayUnite_114 : decode cX2_mayUnite 114 = .ok (.lload 6, 2) := by decide +kernel
theorem dX2_mayUnite_116 : decode cX2_mayUnite 116 = .ok (.lload 6, 2) := by decide +kernel
theorem dX2_mayUnite_118 : decode cX2_mayUnite 118 = .ok (.lconst 1, 1) := by decide +kernel
theorem dX2_mayUnite_119 : decode cX2_mayUnite 119 = .ok (.lsub, 1) := by decide +kernel
theorem dX2_mayUnite_120 : decode cX2_mayUnite 120 = .ok (.land, 1) := by decide +kernel
theorem dX2_mayUnite_121 : decode cX2_mayUnite 121 = .ok (.lstore 6, 2) := by decide +kernel
theorem dX2_mayUnite_123 : decode cX2_mayUnite 123 = .ok (.goto (-46), 3) := by decide +kernel
theorem dX2_mayUnite_126 : decode cX2_mayUnite 126 = .ok (.iinc 5 1, 3) := by decide +kernel
theorem dX2_mayUnite_129 : decode cX2_mayUnite 129 = .ok (.goto (-92), 3) := by decide +kernel
theorem dX2_mayUnite_132 : decode cX2_mayUnite 132 = .ok (.aload_n 0, 1) := by decide +kernel
theorem dX2_mayUnite_133 : decode cX2_mayUnite 133 = .ok (.getfield 58, 3) := by decide +kernel
theorem dX2_mayUnite_136 : decode cX2_mayUnite 136 = .ok (.istore 5, 2) := by decide +kernel
theorem dX2_mayUnite_138 : decode cX2_mayUnite 138 = .ok (.iload 5, 2) := by decide +kernel
theorem dX2_mayUnite_140 : decode cX2_mayUnite 140 = .ok (.aload_n 0, 1) := by decide +kernel
theorem dX2_mayUnite_141 : decode cX2_mayUnite 141 = .ok (.getfield 62, 3) := by decide +kernel
theorem dX2_mayUnite_144 : decode cX2_mayUnite 144 = .ok (.if_icmp .ge 51, 3) := by decide +kernel
theorem dX2_mayUnite_147 : decode cX2_mayUnite 147 = .ok (.aload_n 0, 1) := by decide +kernel
theorem dX2_mayUnite_148 : decode cX2_mayUnite 148 = .ok (.getfield 37, 3) := by decide +kernel
theorem dX2_mayUnite_151 : decode cX2_mayUnite 151 = .ok (.iload 5, 2) := by decide +kernel
theorem dX2_mayUnite_153 : decode cX2_mayUnite 153 = .ok (.iaload, 1) := by decide +kernel
theorem dX2_mayUnite_154 : decode cX2_mayUnite 154 = .ok (.iload_n 3, 1) := by decide +kernel
theorem dX2_mayUnite_155 : decode cX2_mayUnite 155 = .ok (.if_icmp .lt 34, 3) := by decide +kernel
theorem dX2_mayUnite_158 : decode cX2_mayUnite 158 = .ok (.aload_n 0, 1) := by decide +kernel
theorem dX2_mayUnite_159 : decode cX2_mayUnite 159 = .ok (.aload_n 0, 1) := by decide +kernel
theorem dX2_mayUnite_160 : decode cX2_mayUnite 160 = .ok (.getfield 31, 3) := by decide +kernel
theorem dX2_mayUnite_163 : decode cX2_mayUnite 163 = .ok (.iload 5, 2) := by decide +kernel
theorem dX2_mayUnite_165 : decode cX2_mayUnite 165 = .ok (.iload_n 1, 1) := by decide +kernel
theorem dX2_mayUnite_166 : decode cX2_mayUnite 166 = .ok (.invokevirtual 150, 3) := by decide +kernel
theorem dX2_mayUnite_169 : decode cX2_mayUnite 169 = .ok (.ifCond .ne 17, 3) := by decide +kernel
theorem dX2_mayUnite_172 : decode cX2_mayUnite 172 = .ok (.aload_n 0, 1) := by decide +kernel
theorem dX2_mayUnite_173 : decode cX2_mayUnite 173 = .ok (.aload_n 0, 1) := by decide +kernel
theorem dX2_mayUnite_174 : decode cX2_mayUnite 174 = .ok (.getfield 31, 3) := by decide +kernel
theorem dX2_mayUnite_177 : decode cX2_mayUnite 177 = .ok (.iload 5, 2) := by decide +kernel
theorem dX2_mayUnite_179 : decode cX2_mayUnite 179 = .ok (.iload_n 2, 1) := by decide +kernel
theorem dX2_mayUnite_180 : decode cX2_mayUnite 180 = .ok (.invokevirtual 150, 3) := by decide +kernel
theorem dX2_mayUnite_183 : decode cX2_mayUnite 183 = .ok (.ifCond .eq 6, 3) := by decide +kernel
theorem dX2_mayUnite_186 : decode cX2_mayUnite 186 = .ok (.iinc 4 1, 3) := by decide +kernel
theorem dX2_mayUnite_189 : decode cX2_mayUnite 189 = .ok (.iinc 5 1, 3) := by decide +kernel
theorem dX2_mayUnite_192 : decode cX2_mayUnite 192 = .ok (.goto (-54), 3) := by decide +kernel
theorem dX2_mayUnite_195 : decode cX2_mayUnite 195 = .ok (.iload 4, 2) := by decide +kernel
theorem dX2_mayUnite_197 : decode cX2_mayUnite 197 = .ok (.iload_n 3, 1) := by decide +kernel
theorem dX2_mayUnite_198 : decode cX2_mayUnite 198 = .ok (.if_icmp .ge 7, 3) := by decide +kernel
theorem dX2_mayUnite_201 : decode cX2_mayUnite 201 = .ok (.iconst 1, 1) := by decide +kernel
theorem dX2_mayUnite_202 : decode cX2_mayUnite 202 = .ok (.goto 4, 3) := by decide +kernel
theorem dX2_mayUnite_205 : decode cX2_mayUnite 205 = .ok (.iconst 0, 1) := by decide +kernel
theorem dX2_mayUnite_206 : decode cX2_mayUnite 206 = .ok (.ireturn, 1) := by decide +kernel
theorem dX2_reckon_0 : decode cX2_reckon 0 = .ok (.aload_n 0, 1) := by decide +kernel
theorem dX2_reckon_1 : decode cX2_reckon 1 = .ok (.iload_n 2, 1) := by decide +kernel
theorem dX2_reckon_2 : decode cX2_reckon 2 = .ok (.putfield 58, 3) := by decide +kernel
theorem dX2_reckon_5 : decode cX2_reckon 5 = .ok (.aload_n 0, 1) := by decide +kernel
theorem dX2_reckon_6 : decode cX2_reckon 6 = .ok (.iload_n 3, 1) := by decide +kernel
theorem dX2_reckon_7 : decode cX2_reckon 7 = .ok (.putfield 62, 3) := by decide +kernel
theorem dX2_reckon_10 : decode cX2_reckon 10 = .ok (.aload_n 0, 1) := by decide +kernel
theorem dX2_reckon_11 : decode cX2_reckon 11 = .ok (.aload_n 0, 1) := by decide +kernel
theorem dX2_reckon_12 : decode cX2_reckon 12 = .ok (.getfield 58, 3) := by decide +kernel
theorem dX2_reckon_15 : decode cX2_reckon 15 = .ok (.bipush 63, 2) := by decide +kernel
theorem dX2_reckon_17 : decode cX2_reckon 17 = .ok (.iadd, 1) := by decide +kernel
theorem dX2_reckon_18 : decode cX2_reckon 18 = .ok (.bipush 6, 2) := by decide +kernel
theorem dX2_reckon_20 : decode cX2_reckon 20 = .ok (.ishr, 1) := by decide +kernel
theorem dX2_reckon_21 : decode cX2_reckon 21 = .ok (.putfield 65, 3) := by decide +kernel
theorem dX2_reckon_24 : decode cX2_reckon 24 = .ok (.aload_n 0, 1) := by decide +kernel
theorem dX2_reckon_25 : decode cX2_reckon 25 = .ok (.aload_n 1, 1) := by decide +kernel
theorem dX2_reckon_26 : decode cX2_reckon 26 = .ok (.getfield 68, 3) := by decide +kernel
theorem dX2_reckon_29 : decode cX2_reckon 29 = .ok (.invokevirtual 73, 3) := by decide +kernel
theorem dX2_reckon_32 : decode cX2_reckon 32 = .ok (.iconst 0, 1) := by decide +kernel
theorem dX2_reckon_33 : decode cX2_reckon 33 = .ok (.istore 4, 2) := by decide +kernel
theorem dX2_reckon_35 : decode cX2_reckon 35 = .ok (.iload 4, 2) := by decide +kernel
theorem dX2_reckon_37 : decode cX2_reckon 37 = .ok (.aload_n 1, 1) := by decide +kernel
theorem dX2_reckon_38 : decode cX2_reckon 38 = .ok (.getfield 68, 3) := by decide +kernel
theorem dX2_reckon_41 : decode cX2_reckon 41 = .ok (.if_icmp .ge 16, 3) := by decide +kernel
theorem dX2_reckon_44 : decode cX2_reckon 44 = .ok (.aload_n 0, 1) := by decide +kernel
theorem dX2_reckon_45 : decode cX2_reckon 45 = .ok (.aload_n 1, 1) := by decide +kernel
theorem dX2_reckon_46 : decode cX2_reckon 46 = .ok (.iload 4, 2) := by decide +kernel
theorem dX2_reckon_48 : decode cX2_reckon 48 = .ok (.invokevirtual 77, 3) := by decide +kernel
theorem dX2_reckon_51 : decode cX2_reckon 51 = .ok (.iinc 4 1, 3) := by decide +kernel
theorem dX2_reckon_54 : decode cX2_reckon 54 = .ok (.goto (-19), 3) := by decide +kernel
theorem dX2_reckon_57 : decode cX2_reckon 57 = .ok (.aload_n 0, 1) := by decide +kernel
theorem dX2_reckon_58 : decode cX2_reckon 58 = .ok (.aload_n 1, 1) := by decide +kernel
theorem dX2_reckon_59 : decode cX2_reckon 59 = .ok (.invokevirtual 81, 3) := by decide +kernel
theorem dX2_reckon_62 : decode cX2_reckon 62 = .ok (.aload_n 0, 1) := by decide +kernel
theorem dX2_reckon_63 : decode cX2_reckon 63 = .ok (.getfield 31, 3) := by decide +kernel
theorem dX2_reckon_66 : decode cX2_reckon 66 = .ok (.iconst 0, 1) := by decide +kernel
theorem dX2_reckon_67 : decode cX2_reckon 67 = .ok (.aload_n 0, 1) := by decide +kernel
theorem dX2_reckon_68 : decode cX2_reckon 68 = .ok (.getfield 62, 3) := by decide +kernel
theorem dX2_reckon_71 : decode cX2_reckon 71 = .ok (.aload_n 0, 1) := by decide +kernel
theorem dX2_reckon_72 : decode cX2_reckon 72 = .ok (.getfield 65, 3) := by decide +kernel
theorem dX2_reckon_75 : decode cX2_reckon 75 = .ok (.imul, 1) := by decide +kernel
theorem dX2_reckon_76 : decode cX2_reckon 76 = .ok (.lconst 0, 1) := by decide +kernel
theorem dX2_reckon_77 : decode cX2_reckon 77 = .ok (.invokestatic 85, 3) := by decide +kernel
theorem dX2_reckon_80 : decode cX2_reckon 80 = .ok (.aload_n 0, 1) := by decide +kernel
theorem dX2_reckon_81 : decode cX2_reckon 81 = .ok (.getfield 34, 3) := by decide +kernel
theorem dX2_reckon_84 : decode cX2_reckon 84 = .ok (.iconst 0, 1) := by decide +kernel
theorem dX2_reckon_85 : decode cX2_reckon 85 = .ok (.aload_n 0, 1) := by decide +kernel
theorem dX2_reckon_86 : decode cX2_reckon 86 = .ok (.getfield 62, 3) := by decide +kernel
theorem dX2_reckon_89 : decode cX2_reckon 89 = .ok (.iconst (-1), 1) := by decide +kernel
theorem dX2_reckon_90 : decode cX2_reckon 90 = .ok (.invokestatic 91, 3) := by decide +kernel
theorem dX2_reckon_93 : decode cX2_reckon 93 = .ok (.iconst 0, 1) := by decide +kernel
theorem dX2_reckon_94 : decode cX2_reckon 94 = .ok (.istore 4, 2) := by decide +kernel
theorem dX2_reckon_96 : decode cX2_reckon 96 = .ok (.iload 4, 2) := by decide +kernel
theorem dX2_reckon_98 : decode cX2_reckon 98 = .ok (.aload_n 1, 1) := by decide +kernel
theorem dX2_reckon_99 : decode cX2_reckon 99 = .ok (.getfield 68, 3) := by decide +kernel
theorem dX2_reckon_102 : decode cX2_reckon 102 = .ok (.if_icmp .ge 16, 3) := by decide +kernel
theorem dX2_reckon_105 : decode cX2_reckon 105 = .ok (.aload_n 0, 1) := by decide +kernel
theorem dX2_reckon_106 : decode cX2_reckon 106 = .ok (.aload_n 1, 1) := by decide +kernel
theorem dX2_reckon_107 : decode cX2_reckon 107 = .ok (.iload 4, 2) := by decide +kernel
theorem dX2_reckon_109 : decode cX2_reckon 109 = .ok (.invokevirtual 94, 3) := by decide +kernel
theorem dX2_reckon_112 : decode cX2_reckon 112 = .ok (.iinc 4 1, 3) := by decide +kernel
theorem dX2_reckon_115 : decode cX2_reckon 115 = .ok (.goto (-19), 3) := by decide +kernel
theorem dX2_reckon_118 : decode cX2_reckon 118 = .ok (.aload_n 0, 1) := by decide +kernel
theorem dX2_reckon_119 : decode cX2_reckon 119 = .ok (.invokevirtual 97, 3) := by decide +kernel
theorem dX2_reckon_122 : decode cX2_reckon 122 = .ok (.aload_n 0, 1) := by decide +kernel
theorem dX2_reckon_123 : decode cX2_reckon 123 = .ok (.invokevirtual 100, 3) := by decide +kernel
theorem dX2_reckon_126 : decode cX2_reckon 126 = .ok (.return_, 1) := by decide +kernel
theorem dX2_weigh_0 : decode cX2_weigh 0 = .ok (.aload_n 0, 1) := by decide +kernel
theorem dX2_weigh_1 : decode cX2_weigh 1 = .ok (.getfield 40, 3) := by decide +kernel
theorem dX2_weigh_4 : decode cX2_weigh 4 = .ok (.iconst 0, 1) := by decide +kernel
theorem dX2_weigh_5 : decode cX2_weigh 5 = .ok (.aload_n 0, 1) := by decide +kernel
theorem dX2_weigh_6 : decode cX2_weigh 6 = .ok (.getfield 62, 3) := by decide +kernel
theorem dX2_weigh_9 : decode cX2_weigh 9 = .ok (.lconst 0, 1) := by decide +kernel
theorem dX2_weigh_10 : decode cX2_weigh 10 = .ok (.invokestatic 85, 3) := by decide +kernel
theorem dX2_weigh_13 : decode cX2_weigh 13 = .ok (.aload_n 0, 1) := by decide +kernel
theorem dX2_weigh_14 : decode cX2_weigh 14 = .ok (.getfield 43, 3) := by decide +kernel
theorem dX2_weigh_17 : decode cX2_weigh 17 = .ok (.iconst 0, 1) := by decide +kernel
theorem dX2_weigh_18 : decode cX2_weigh 18 = .ok (.aload_n 0, 1) := by decide +kernel
theorem dX2_weigh_19 : decode cX2_weigh 19 = .ok (.getfield 62, 3) := by decide +kernel
theorem dX2_weigh_22 : decode cX2_weigh 22 = .ok (.iconst 0, 1) := by decide +kernel
theorem dX2_weigh_23 : decode cX2_weigh 23 = .ok (.invokestatic 91, 3) := by decide +kernel
theorem dX2_weigh_26 : decode cX2_weigh 26 = .ok (.aload_n 1, 1) := by decide +kernel
theorem dX2_weigh_27 : decode cX2_weigh 27 = .ok (.getfield 110, 3) := by decide +kernel
theorem dX2_weigh_30 : decode cX2_weigh 30 = .ok (.astore_n 2, 1) := by decide +kernel
theorem dX2_weigh_31 : decode cX2_weigh 31 = .ok (.iconst 0, 1) := by decide +kernel
theorem dX2_weigh_32 : decode cX2_weigh 32 = .ok (.istore_n 3, 1) := by decide +kernel
theorem dX2_weigh_33 : decode cX2_weigh 33 = .ok (.iload_n 3, 1) := by decide +kernel
theorem dX2_weigh_34 : decode cX2_weigh 34 = .ok (.aload_n 1, 1) := by decide +kernel
theorem dX2_weigh_35 : decode cX2_weigh 35 = .ok (.getfield 68, 3) := by decide +kernel
theorem dX2_weigh_38 : decode cX2_weigh 38 = .ok (.if_icmp .ge 213, 3) := by decide +kernel
theorem dX2_weigh_41 : decode cX2_weigh 41 = .ok (.lconst 1, 1) := by decide +kernel
theorem dX2_weigh_42 : decode cX2_weigh 42 = .ok (.iconst 3, 1) := by decide +kernel
theorem dX2_weigh_43 : decode cX2_weigh 43 = .ok (.aload_n 1, 1) := by decide +kernel
theorem dX2_weigh_44 : decode cX2_weigh 44 = .ok (.getfield 226, 3) := by decide +kernel
theorem dX2_weigh_47 : decode cX2_weigh 47 = .ok (.iload_n 3, 1) := by decide +kernel
theorem dX2_weigh_48 : decode cX2_weigh 48 = .ok (.iaload, 1) := by decide +kernel
theorem dX2_weigh_49 : decode cX2_weigh 49 = .ok (.iconst 4, 1) := by decide +kernel
theorem dX2_weigh_50 : decode cX2_weigh 50 = .ok (.invokestatic 229, 3) := by decide +kernel
theorem dX2_weigh_53 : decode cX2_weigh 53 = .ok (.imul, 1) := by decide +kernel
theorem dX2_weigh_54 : decode cX2_weigh 54 = .ok (.lshl, 1) := by decide +kernel
theorem dX2_weigh_55 : decode cX2_weigh 55 = .ok (.lstore 4, 2) := by decide +kernel
theorem dX2_weigh_57 : decode cX2_weigh 57 = .ok (.aload_n 1, 1) := by decide +kernel
theorem dX2_weigh_58 : decode cX2_weigh 58 = .ok (.getfield 114, 3) := by decide +kernel
theorem dX2_weigh_61 : decode cX2_weigh 61 = .ok (.iload_n 3, 1) := by decide +kernel
theorem dX2_weigh_62 : decode cX2_weigh 62 = .ok (.iaload, 1) := by decide +kernel
theorem dX2_weigh_63 : decode cX2_weigh 63 = .ok (.istore 6, 2) := by decide +kernel
theorem dX2_weigh_65 : decode cX2_weigh 65 = .ok (.iload 6, 2) := by decide +kernel
theorem dX2_weigh_67 : decode cX2_weigh 67 = .ok (.ifCond .lt 153, 3) := by decide +kernel
theorem dX2_weigh_70 : decode cX2_weigh 70 = .ok (.aload_n 2, 1) := by decide +kernel
theorem dX2_weigh_71 : decode cX2_weigh 71 = .ok (.getfield 117, 3) := by decide +kernel
theorem dX2_weigh_74 : decode cX2_weigh 74 = .ok (.iload 6, 2) := by decide +kernel
theorem dX2_weigh_76 : decode cX2_weigh 76 = .ok (.iaload, 1) := by decide +kernel
theorem dX2_weigh_77 : decode cX2_weigh 77 = .ok (.invokestatic 122, 3) := by decide +kernel
theorem dX2_weigh_80 : decode cX2_weigh 80 = .ok (.istore 7, 2) := by decide +kernel
theorem dX2_weigh_82 : decode cX2_weigh 82 = .ok (.iload 7, 2) := by decide +kernel
theorem dX2_weigh_84 : decode cX2_weigh 84 = .ok (.ifCond .eq 20, 3) := by decide +kernel
theorem dX2_weigh_87 : decode cX2_weigh 87 = .ok (.aload_n 0, 1) := by decide +kernel
theorem dX2_weigh_88 : decode cX2_weigh 88 = .ok (.getfield 40, 3) := by decide +kernel
theorem dX2_weigh_91 : decode cX2_weigh 91 = .ok (.aload_n 2, 1) := by decide +kernel
theorem dX2_weigh_92 : decode cX2_weigh 92 = .ok (.getfield 126, 3) := by decide +kernel
theorem dX2_weigh_95 : decode cX2_weigh 95 = .ok (.iload 6, 2) := by decide +kernel
theorem dX2_weigh_97 : decode cX2_weigh 97 = .ok (.iaload, 1) := by decide +kernel
theorem dX2_weigh_98 : decode cX2_weigh 98 = .ok (.dup2, 1) := by decide +kernel
theorem dX2_weigh_99 : decode cX2_weigh 99 = .ok (.laload, 1) := by decide +kernel
theorem dX2_weigh_100 : decode cX2_weigh 100 = .ok (.lload 4, 2) := by decide +kernel
theorem dX2_weigh_102 : decode cX2_weigh 102 = .ok (.ladd, 1) := by decide +kernel
theorem dX2_weigh_103 : decode cX2_weigh 103 = .ok (.lastore, 1) := by decide +kernel
theorem dX2_weigh_104 : decode cX2_weigh 104 = .ok (.aload_n 2, 1) := by decide +kernel
theorem dX2_weigh_105 : decode cX2_weigh 105 = .ok (.getfield 117, 3) := by decide +kernel
theorem dX2_weigh_108 : decode cX2_weigh 108 = .ok (.iload 6, 2) := by decide +kernel
theorem dX2_weigh_110 : decode cX2_weigh 110 = .ok (.iaload, 1) := by decide +kernel
theorem dX2_weigh_111 : decode cX2_weigh 111 = .ok (.invokestatic 131, 3) := by decide +kernel
theorem dX2_weigh_114 : decode cX2_weigh 114 = .ok (.ifCond .eq 37, 3) := by decide +kernel
theorem dX2_weigh_117 : decode cX2_weigh 117 = .ok (.aload_n 2, 1) := by decide +kernel
theorem dX2_weigh_118 : decode cX2_weigh 118 = .ok (.getfield 134, 3) := by decide +kernel
theorem dX2_weigh_121 : decode cX2_weigh 121 = .ok (.iload 6, 2) := by decide +kernel
theorem dX2_weigh_123 : decode cX2_weigh 123 = .ok (.iaload, 1) := by decide +kernel
theorem dX2_weigh_124 : decode cX2_weigh 124 = .ok (.aload_n 2, 1) := by decide +kernel
theorem dX2_weigh_125 : decode cX2_weigh 125 = .ok (.getfield 126, 3) := by decide +kernel
theorem dX2_weigh_128 : decode cX2_weigh 128 = .ok (.iload 6, 2) := by decide +kernel
theorem dX2_weigh_130 : decode cX2_weigh 130 = .ok (.iaload, 1) := by decide +kernel
theorem dX2_weigh_131 : decode cX2_weigh 131 = .ok (.if_icmp .eq 20, 3) := by decide +kernel
theorem dX2_weigh_134 : decode cX2_weigh 134 = .ok (.aload_n 0, 1) := by decide +kernel
theorem dX2_weigh_135 : decode cX2_weigh 135 = .ok (.getfield 40, 3) := by decide +kernel
theorem dX2_weigh_138 : decode cX2_weigh 138 = .ok (.aload_n 2, 1) := by decide +kernel
theorem dX2_weigh_139 : decode cX2_weigh 139 = .ok (.getfield 134, 3) := by decide +kernel
theorem dX2_weigh_142 : decode cX2_weigh 142 = .ok (.iload 6, 2) := by decide +kernel
theorem dX2_weigh_144 : decode cX2_weigh 144 = .ok (.iaload, 1) := by decide +kernel
theorem dX2_weigh_145 : decode cX2_weigh 145 = .ok (.dup2, 1) := by decide +kernel
theorem dX2_weigh_146 : decode cX2_weigh 146 = .ok (.laload, 1) := by decide +kernel
theorem dX2_weigh_147 : decode cX2_weigh 147 = .ok (.lload 4, 2) := by decide +kernel
theorem dX2_weigh_149 : decode cX2_weigh 149 = .ok (.ladd, 1) := by decide +kernel
theorem dX2_weigh_150 : decode cX2_weigh 150 = .ok (.lastore, 1) := by decide +kernel
theorem dX2_weigh_151 : decode cX2_weigh 151 = .ok (.aload_n 2, 1) := by decide +kernel
theorem dX2_weigh_152 : decode cX2_weigh 152 = .ok (.getfield 137, 3) := by decide +kernel
theorem dX2_weigh_155 : decode cX2_weigh 155 = .ok (.iload 6, 2) := by decide +kernel
theorem dX2_weigh_157 : decode cX2_weigh 157 = .ok (.iaload, 1) := by decide +kernel
theorem dX2_weigh_158 : decode cX2_weigh 158 = .ok (.ifCond .lt 50, 3) := by decide +kernel
theorem dX2_weigh_161 : decode cX2_weigh 161 = .ok (.aload_n 0, 1) := by decide +kernel
theorem dX2_weigh_162 : decode cX2_weigh 162 = .ok (.getfield 40, 3) := by decide +kernel
theorem dX2_weigh_165 : decode cX2_weigh 165 = .ok (.aload_n 2, 1) := by decide +kernel
theorem dX2_weigh_166 : decode cX2_weigh 166 = .ok (.getfield 137, 3) := by decide +kernel
theorem dX2_weigh_169 : decode cX2_weigh 169 = .ok (.iload 6, 2) := by decide +kernel
theorem dX2_weigh_171 : decode cX2_weigh 171 = .ok (.iaload, 1) := by decide +kernel
theorem dX2_weigh_172 : decode cX2_weigh 172 = .ok (.dup2, 1) := by decide +kernel
theorem dX2_weigh_173 : decode cX2_weigh 173 = .ok (.laload, 1) := by decide +kernel
theorem dX2_weigh_174 : decode cX2_weigh 174 = .ok (.lload 4, 2) := by decide +kernel
theorem dX2_weigh_176 : decode cX2_weigh 176 = .ok (.ladd, 1) := by decide +kernel
theorem dX2_weigh_177 : decode cX2_weigh 177 = .ok (.lastore, 1) := by decide +kernel
theorem dX2_weigh_178 : decode cX2_weigh 178 = .ok (.aload_n 0, 1) := by decide +kernel
theorem dX2_weigh_179 : decode cX2_weigh 179 = .ok (.getfield 43, 3) := by decide +kernel
theorem dX2_weigh_182 : decode cX2_weigh 182 = .ok (.aload_n 2, 1) := by decide +kernel
theorem dX2_weigh_183 : decode cX2_weigh 183 = .ok (.getfield 137, 3) := by decide +kernel
theorem dX2_weigh_186 : decode cX2_weigh 186 = .ok (.iload 6, 2) := by decide +kernel
theorem dX2_weigh_188 : decode cX2_weigh 188 = .ok (.iaload, 1) := by decide +kernel
theorem dX2_weigh_189 : decode cX2_weigh 189 = .ok (.dup2, 1) := by decide +kernel
theorem dX2_weigh_190 : decode cX2_weigh 190 = .ok (.iaload, 1) := by decide +kernel
theorem dX2_weigh_191 : decode cX2_weigh 191 = .ok (.iconst 1, 1) := by decide +kernel
theorem dX2_weigh_192 : decode cX2_weigh 192 = .ok (.iadd, 1) := by decide +kernel
theorem dX2_weigh_193 : decode cX2_weigh 193 = .ok (.iastore, 1) := by decide +kernel
theorem dX2_weigh_194 : decode cX2_weigh 194 = .ok (.aload_n 0, 1) := by decide +kernel
theorem dX2_weigh_195 : decode cX2_weigh 195 = .ok (.getfield 46, 3) := by decide +kernel
theorem dX2_weigh_198 : decode cX2_weigh 198 = .ok (.aload_n 2, 1) := by decide +kernel
theorem dX2_weigh_199 : decode cX2_weigh 199 = .ok (.getfield 137, 3) := by decide +kernel
theorem dX2_weigh_202 : decode cX2_weigh 202 = .ok (.iload 6, 2) := by decide +kernel
theorem dX2_weigh_204 : decode cX2_weigh 204 = .ok (.iaload, 1) := by decide +kernel
theorem dX2_weigh_205 : decode cX2_weigh 205 = .ok (.iload 6, 2) := by decide +kernel
theorem dX2_weigh_207 : decode cX2_weigh 207 = .ok (.iastore, 1) := by decide +kernel
theorem dX2_weigh_208 : decode cX2_weigh 208 = .ok (.aload_n 2, 1) := by decide +kernel
theorem dX2_weigh_209 : decode cX2_weigh 209 = .ok (.getfield 144, 3) := by decide +kernel
theorem dX2_weigh_212 : decode cX2_weigh 212 = .ok (.iload 6, 2) := by decide +kernel
theorem dX2_weigh_214 : decode cX2_weigh 214 = .ok (.iaload, 1) := by decide +kernel
theorem dX2_weigh_215 : decode cX2_weigh 215 = .ok (.istore 6, 2) := by decide +kernel
theorem dX2_weigh_217 : decode cX2_weigh 217 = .ok (.goto (-152), 3) := by decide +kernel
theorem dX2_weigh_220 : decode cX2_weigh 220 = .ok (.aload_n 1, 1) := by decide +kernel
theorem dX2_weigh_221 : decode cX2_weigh 221 = .ok (.getfield 147, 3) := by decide +kernel
theorem dX2_weigh_224 : decode cX2_weigh 224 = .ok (.iload_n 3, 1) := by decide +kernel
theorem dX2_weigh_225 : decode cX2_weigh 225 = .ok (.iaload, 1) := by decide +kernel
theorem dX2_weigh_226 : decode cX2_weigh 226 = .ok (.ifCond .lt 19, 3) := by decide +kernel
theorem dX2_weigh_229 : decode cX2_weigh 229 = .ok (.aload_n 0, 1) := by decide +kernel
theorem dX2_weigh_230 : decode cX2_weigh 230 = .ok (.getfield 40, 3) := by decide +kernel
theorem dX2_weigh_233 : decode cX2_weigh 233 = .ok (.aload_n 1, 1) := by decide +kernel
theorem dX2_weigh_234 : decode cX2_weigh 234 = .ok (.getfield 147, 3) := by decide +kernel
theorem dX2_weigh_237 : decode cX2_weigh 237 = .ok (.iload_n 3, 1) := by decide +kernel
theorem dX2_weigh_238 : decode cX2_weigh 238 = .ok (.iaload, 1) := by decide +kernel
theorem dX2_weigh_239 : decode cX2_weigh 239 = .ok (.dup2, 1) := by decide +kernel
theorem dX2_weigh_240 : decode cX2_weigh 240 = .ok (.laload, 1) := by decide +kernel
theorem dX2_weigh_241 : decode cX2_weigh 241 = .ok (.lload 4, 2) := by decide +kernel
theorem dX2_weigh_243 : decode cX2_weigh 243 = .ok (.ladd, 1) := by decide +kernel
theorem dX2_weigh_244 : decode cX2_weigh 244 = .ok (.lastore, 1) := by decide +kernel
theorem dX2_weigh_245 : decode cX2_weigh 245 = .ok (.iinc 3 1, 3) := by decide +kernel
theorem dX2_weigh_248 : decode cX2_weigh 248 = .ok (.goto (-215), 3) := by decide +kernel
theorem dX2_weigh_251 : decode cX2_weigh 251 = .ok (.return_, 1) := by decide +kernel
theorem qw637 : Cond.fieldLink RX0 59 "Gearbox$Allocator" "registers" "I" ∈ gw := mq_3 (i := 100) rfl rfl
theorem qw644 : Cond.fieldLink RX0 93 "Gearbox$Flow" "blocks" "I" ∈ gw := mq_1 (i := 214) rfl rfl
theorem qw690 : Cond.code yX2_makeRoom cX2_makeRoom 2 (Option.none : Option Jvm.ClassFile.FieldType) ∈ gw := mq_8 (i := 194) rfl rfl
theorem qw691 : Cond.methodLink RX2 73 yX2_makeRoom ∈ gw := mq_8 (i := 191) rfl rfl
theorem qw692 : Cond.instanceMethod yX2_makeRoom ∈ gw := mq_8 (i := 193) rfl rfl
theorem qw693 : Cond.selects RX2 yX2_makeRoom yX2_makeRoom ∈ gw := mk_s (i := 63) rfl rfl
theorem qw718 : Cond.code yX2_noteBlock cX2_noteBlock 5 (Option.none : Option Jvm.ClassFile.FieldType) ∈ gw := mq_8 (i := 210) rfl rfl
theorem qw719 : Cond.methodLink RX2 77 yX2_noteBlock ∈ gw := mq_8 (i := 207) rfl rfl
theorem qw720 : Cond.instanceMethod yX2_noteBlock ∈ gw := mq_8 (i := 209) rfl rfl
theorem qw721 : Cond.selects RX2 yX2_noteBlock yX2_noteBlock ∈ gw := mk_s (i := 67) rfl rfl
theorem qw731 : Cond.code yX2_spreadLife cX2_spreadLife 6 (Option.none : Option Jvm.ClassFile.FieldType) ∈ gw := mq_8 (i := 232) rfl rfl
theorem qw732 : Cond.methodLink RX2 81 yX2_spreadLife ∈ gw := mq_8 (i := 229) rfl rfl
theorem qw733 : Cond.instanceMethod yX2_spreadLife ∈ gw := mq_8 (i := 231) rfl rfl
theorem qw734 : Cond.selects RX2 yX2_spreadLife yX2_spreadLife ∈ gw := mk_s (i := 69) rfl rfl
theorem qw735 : Cond.methodLink RX2 91 yJ7_fill_fda19 ∈ gw := mq_9 (i := 0) rfl rfl
theorem qw764 : Cond.code yX2_meetInBlock cX2_meetInBlock 7 (Option.none : Option Jvm.ClassFile.FieldType) ∈ gw := mq_9 (i := 4) rfl rfl
theorem qw765 : Cond.methodLink RX2 94 yX2_meetInBlock ∈ gw := mq_9 (i := 1) rfl rfl
theorem qw766 : Cond.instanceMethod yX2_meetInBlock ∈ gw := mq_9 (i := 3) rfl rfl
theorem qw767 : Cond.selects RX2 yX2_meetInBlock yX2_meetInBlock ∈ gw := mk_s (i := 76) rfl rfl
theorem qw777 : Cond.code yX2_mirror cX2_mirror 5 (Option.none : Option Jvm.ClassFile.FieldType) ∈ gw := mq_9 (i := 33) rfl rfl
theorem qw778 : Cond.methodLink RX2 97 yX2_mirror ∈ gw := mq_9 (i := 30) rfl rfl
theorem qw779 : Cond.instanceMethod yX2_mirror ∈ gw := mq_9 (i := 32) rfl rfl
theorem qw780 : Cond.selects RX2 yX2_mirror yX2_mirror ∈ gw := mk_s (i := 77) rfl rfl
theorem qw782 : Cond.code yX2_countDegrees cX2_countDegrees 5 (Option.none : Option Jvm.ClassFile.FieldType) ∈ gw := mq_9 (i := 46) rfl rfl
theorem qw783 : Cond.methodLink RX2 100 yX2_countDegrees ∈ gw := mq_9 (i := 43) rfl rfl
theorem qw784 : Cond.instanceMethod yX2_countDegrees ∈ gw := mq_9 (i := 45) rfl rfl
theorem qw785 : Cond.selects RX2 yX2_countDegrees yX2_countDegrees ∈ gw := mk_s (i := 78) rfl rfl
theorem qw791 : Cond.fieldLink RX0 152 "Gearbox$Flow" "firstStep" "[I" ∈ gw := mq_1 (i := 230) rfl rfl
theorem qw792 : Cond.code yX2_mayUnite cX2_mayUnite 8 (Option.some Jvm.ClassFile.FieldType.boolean) ∈ gw := mq_9 (i := 56) rfl rfl
theorem qw793 : Cond.methodLink RX0 168 yX2_mayUnite ∈ gw := mq_9 (i := 53) rfl rfl
theorem qw794 : Cond.instanceMethod yX2_mayUnite ∈ gw := mq_9 (i := 54) rfl rfl
theorem qw795 : Cond.selects RX2 yX2_mayUnite yX2_mayUnite ∈ gw := mq_9 (i := 55) rfl rfl
theorem qw796 : Cond.fieldLink RX0 183 "Gearbox$Steps" "next" "[I" ∈ gw := mq_1 (i := 193) rfl rfl
theorem qw797 : Cond.methodLink RX0 172 yJ9_min_7cf53 ∈ gw := mq_9 (i := 57) rfl rfl
theorem qw798 : Cond.methodLink RX0 177 yJ9_max_7cf53 ∈ gw := mq_9 (i := 58) rfl rfl
theorem qw799 : Cond.methodLink RX0 186 yX1_takeSteps ∈ gw := mq_9 (i := 63) rfl rfl
theorem qw800 : Cond.methodLink RX0 199 yX1_link ∈ gw := mq_9 (i := 66) rfl rfl
theorem qw801 : Cond.fieldLink RX0 196 "Gearbox$Steps" "right" "[I" ∈ gw := mq_1 (i := 186) rfl rfl
theorem qw802 : Cond.fieldLink RX0 202 "Gearbox$Flow" "endValue" "[I" ∈ gw := mq_2 (i := 14) rfl rfl
theorem qw803 : Cond.code yX0_unite cX0_unite 7 (Option.none : Option Jvm.ClassFile.FieldType) ∈ gw := mq_9 (i := 62) rfl rfl
theorem qw804 : Cond.methodLink RX0 180 yX0_unite ∈ gw := mq_9 (i := 59) rfl rfl
theorem qw805 : Cond.instanceMethod yX0_unite ∈ gw := mq_9 (i := 61) rfl rfl
theorem qw806 : Cond.selects RX0 yX0_unite yX0_unite ∈ gw := mk_s (i := 79) rfl rfl
theorem qw811 : Cond.fieldLink RX2 226 "Gearbox$Flow" "depth" "[I" ∈ gw := mq_2 (i := 42) rfl rfl
theorem qw812 : Cond.methodLink RX2 229 yJ9_min_7cf53 ∈ gw := mq_9 (i := 75) rfl rfl
def fX2_reckon_L35 (p1w : ST) (p1_2n : Nat → Nat) (p1_2w : ST) (o_4 : ST × SL × (Nat → Nat)) : Nat → Int32 → SL → Option SL
  | 0 => fun _ _ => none
  | n_35 + 1 => fun v4_35 p0l_35 => (if (p1w 0 0) ≤ v4_35 then some p0l_35 else ((fX2_noteBlock (o_4.2.2) (o_4.1) p0l_35 p1w v4_35 p1_2n p1_2w).bind fun (o_35 : SL) => ((fX2_reckon_L35 p1w p1_2n p1_2w o_4 n_35) (v4_35 + 1) o_35)))
def fX2_reckon_G112_69 (kk96 : Int32 → ST → SL → (Nat → Nat) → Option (ST × SL × (Nat → Nat))) (v4_96 : Int32) (o_40 : ST × SL × (Nat → Nat)) : Option (ST × SL × (Nat → Nat)) := (kk96 (v4_96 + 1) (o_40.1) (o_40.2.1) (o_40.2.2))
theorem mo_fX2_reckon_G112_69 {kk96 : Int32 → ST → SL → (Nat → Nat) → Option (ST × SL × (Nat → Nat))} {v4_96 : Int32} {o_40 : ST × SL × (Nat → Nat)} {o9q : ST × SL × (Nat → Nat)} (hkk : ∀ (v4_96q : Int32) (p0w_96q : ST) (p0l_96q : SL) (p0n_96q : Nat → Nat) (r9 : ST × SL × (Nat → Nat)), kk96 v4_96q p0w_96q p0l_96q p0n_96q = some r9 → glX2 p0n_96q (r9.2.2)) (hrun : fX2_reckon_G112_69 kk96 v4_96 o_40 = some o9q) : glX2 (o_40.2.2) (o9q.2.2) := by
  unfold fX2_reckon_G112_69 at hrun
  exact (hkk _ _ _ _ _ hrun)
def fX2_reckon_L96 (p1w : ST) (p1_2n : Nat → Nat) (p1_2w : ST) : Nat → Int32 → ST → SL → (Nat → Nat) → Option (ST × SL × (Nat → Nat))
  | 0 => fun _ _ _ _ => none
  | n_96 + 1 => fun v4_96 p0w_96 p0l_96 p0n_96 => (if (p1w 0 0) ≤ v4_96 then some (p0w_96, p0l_96, p0n_96) else ((fX2_meetInBlock p0n_96 p0w_96 p0l_96 p1w v4_96 p1_2n p1_2w).bind fun (o_40 : ST × SL × (Nat → Nat)) => (fX2_reckon_G112_69 (fX2_reckon_L96 p1w p1_2n p1_2w n_96) v4_96 o_40)))
theorem mo_fX2_reckon_L96 {p1w : ST} {p1_2n : Nat → Nat} {p1_2w : ST} : ∀ (n_96 : Nat) (v4_96 : Int32) (p0w_96 : ST) (p0l_96 : SL) (p0n_96 : Nat → Nat) (o9q : ST × SL × (Nat → Nat)), (fX2_reckon_L96 p1w p1_2n p1_2w n_96) v4_96 p0w_96 p0l_96 p0n_96 = some o9q → glX2 p0n_96 (o9q.2.2) := by
  intro n_96
  induction n_96 with
  | zero => intro v4_96 p0w_96 p0l_96 p0n_96 o9q hrun; exact (no9 rfl hrun).elim
  | succ n_96 ih9 =>
    intro v4_96 p0w_96 p0l_96 p0n_96 o9q hrun
    unfold fX2_reckon_L96 at hrun
    rcases br9 hrun with ⟨hc39, hrun⟩ | ⟨hc39, hrun⟩
    · skip
      obtain rfl := (Option.some.inj hrun)
      exact (glX2_rf _)
    · skip
      obtain ⟨o_40, hc_40, hrun⟩ := bnd9 hrun
      exact (glX2_tr (mo_fX2_meetInBlock hc_40) (mo_fX2_reckon_G112_69 ih9 hrun))
def fX2_reckon_G118_70 (o96 : ST × SL × (Nat → Nat)) : Option (ST × SL × (Nat → Nat)) := ((fX2_mirror (o96.2.2) (o96.1) (o96.2.1)).bind fun (o_71 : SL) => ((fX2_countDegrees (o96.2.2) (o96.1) o_71).bind fun (o_72 : ST) => some (o_72, o_71, (o96.2.2))))
theorem mo_fX2_reckon_G118_70 {o96 : ST × SL × (Nat → Nat)} {o9q : ST × SL × (Nat → Nat)} (hrun : fX2_reckon_G118_70 o96 = some o9q) : glX2 (o96.2.2) (o9q.2.2) := by
  unfold fX2_reckon_G118_70 at hrun
  obtain ⟨o_71, hc_71, hrun⟩ := bnd9 hrun
  obtain ⟨o_72, hc_72, hrun⟩ := bnd9 hrun
  obtain rfl := (Option.some.inj hrun)
  exact (glX2_rf _)
def fX2_reckon_G32_33 (p1w : ST) (p1_2n : Nat → Nat) (p1_2w : ST) (o_4 : ST × SL × (Nat → Nat)) : Option (ST × SL × (Nat → Nat)) := ((fX2_reckon_L35 p1w p1_2n p1_2w o_4 NF 0 (o_4.2.1)).bind fun (o35 : SL) => ((fX2_spreadLife (o_4.2.2) (o_4.1) o35 p1w).bind fun (o_36 : SL) => ((fJ7_fill_bad5a ((o_4.2.2) 11) (o_36 11) 0 (((o_4.1) 0 1) * ((o_4.1) 0 2)) 0).bind fun (o_37 : RL) => ((fJ7_fill_fda19 ((o_4.2.2) 12) ((o_4.1) 12) 0 ((o_4.1) 0 1) (-1)).bind fun (o_38 : RI) => ((fX2_reckon_L96 p1w p1_2n p1_2w NF 0 (srw (o_4.1) 12 o_38) (srl o_36 11 o_37) (o_4.2.2)).bind fun (o96 : ST × SL × (Nat → Nat)) => (fX2_reckon_G118_70 o96))))))
theorem mo_fX2_reckon_G32_33 {p1w : ST} {p1_2n : Nat → Nat} {p1_2w : ST} {o_4 : ST × SL × (Nat → Nat)} {o9q : ST × SL × (Nat → Nat)} (hrun : fX2_reckon_G32_33 p1w p1_2n p1_2w o_4 = some o9q) : glX2 (o_4.2.2) (o9q.2.2) := by
  unfold fX2_reckon_G32_33 at hrun
  obtain ⟨o35, hc35, hrun⟩ := bnd9 hrun
  obtain ⟨o_36, hc_36, hrun⟩ := bnd9 hrun
  obtain ⟨o_37, hc_37, hrun⟩ := bnd9 hrun
  obtain ⟨o_38, hc_38, hrun⟩ := bnd9 hrun
  obtain ⟨o96, hc96, hrun⟩ := bnd9 hrun
  exact (glX2_tr (mo_fX2_reckon_L96 _ _ _ _ _ _ hc96) (mo_fX2_reckon_G118_70 hrun))
def fX2_reckon (p0n : Nat → Nat) (p0w : ST) (p0l : SL) (p1w : ST) (p2 : Int32) (p3 : Int32) (p1_2n : Nat → Nat) (p1_2w : ST) : Option (ST × SL × (Nat → Nat)) := (lt9 (upw p0w 0 0 p2) fun (w1 : ST) => (lt9 (upw w1 0 1 p3) fun (w2 : ST) => (lt9 (upw w2 0 2 (((w2 0 0) + 63) >>> (6 &&& 31))) fun (w3 : ST) => ((fX2_makeRoom p0n w3 p0l (p1w 0 0)).bind fun (o_4 : ST × SL × (Nat → Nat)) => (fX2_reckon_G32_33 p1w p1_2n p1_2w o_4)))))
theorem mo_fX2_reckon {p0n : Nat → Nat} {p0w : ST} {p0l : SL} {p1w : ST} {p2 : Int32} {p3 : Int32} {p1_2n : Nat → Nat} {p1_2w : ST} {o9q : ST × SL × (Nat → Nat)} (hrun : fX2_reckon p0n p0w p0l p1w p2 p3 p1_2n p1_2w = some o9q) : glX2 p0n (o9q.2.2) := by
  unfold fX2_reckon at hrun
  obtain ⟨w1, ew1, hrun⟩ := let9 hrun
  obtain ⟨w2, ew2, hrun⟩ := let9 hrun
  obtain ⟨w3, ew3, hrun⟩ := let9 hrun
  obtain ⟨o_4, hc_4, hrun⟩ := bnd9 hrun
  exact (glX2_tr (mo_fX2_makeRoom hc_4) (mo_fX2_reckon_G32_33 hrun))
set_option maxHeartbeats 16000000 in
set_option maxRecDepth 100000 in
theorem kX2_reckon {zs : ZS} (l : Launch) (dC : Nat → ClassId) (dI : Nat → Nat → Nat) (p0a : Nat → Nat) (p0k : Nat → ClassId) (p0n : Nat → Nat) (p0w : ST) (p0l : SL) (p1a : Nat → Nat) (p1k : Nat → ClassId) (p1n : Nat → Nat) (p1w : ST) (p1l : SL) (p2 : Int32) (p3 : Int32) (p1_2a : Nat → Nat) (p1_2k : Nat → ClassId) (p1_2n : Nat → Nat) (p1_2w : ST) (sz : Nat) (o : ST × SL × (Nat → Nat)) (hrun : fX2_reckon p0n p0w p0l p1w p2 p3 p1_2n p1_2w = some o) : Met l yX2_reckon (wz yX2_reckon cX2_reckon 5 (Option.none : Option Jvm.ClassFile.FieldType)) ({ frames := 5, cells := (hcX2 p0n (o.2.2)), slots := (3 * (gcX2 p0n (o.2.2))), locals := 133 } : Room) (va_Pc [.ref (p0a 0), .ref (p1a 0), .int p2, .int p3] (PRE zs dC dI (List.flatten ([(oX2 (p0a 0) p0a p0k p0n p0w p0l), (oX1 (p1a 0) p1a p1k p1n p1w p1l), (oX9 (p1a 3) p1_2a p1_2k p1_2n p1_2w)] : List va_W)) (List.flatten ([(tX2 p0k), (tX1 p1k), (tX9 p1_2k)] : List (List (ClassId × FieldType)))) sz)) (va_Qv (fun (_ : Unit) => True) (fun _ t => ∃ (xp0_3_z : Nat), ∃ (zp0_3_z : ClassId), ∃ (xp0_4_z : Nat), ∃ (zp0_4_z : ClassId), ∃ (xp0_5_z : Nat), ∃ (zp0_5_z : ClassId), ∃ (xp0_6_z : Nat), ∃ (zp0_6_z : ClassId), ∃ (xp0_9_z : Nat), ∃ (zp0_9_z : ClassId), ∃ (xp0_10_z : Nat), ∃ (zp0_10_z : ClassId), ∃ (xp0_11_z : Nat), ∃ (zp0_11_z : ClassId), ∃ (xp0_12_z : Nat), ∃ (zp0_12_z : ClassId), ∃ (xp0_13_z : Nat), ∃ (zp0_13_z : ClassId), ∃ (xp0_14_z : Nat), ∃ (zp0_14_z : ClassId), ∃ (xp0_15_z : Nat), ∃ (zp0_15_z : ClassId), ∃ (xp0_16_z : Nat), ∃ (zp0_16_z : ClassId), ∃ (xp0_17_z : Nat), ∃ (zp0_17_z : ClassId), ∃ (xp0_18_z : Nat), ∃ (zp0_18_z : ClassId), POST dC dI (List.flatten ([(oX2 (p0a 0) (st1 (st1 (st1 (st1 (st1 (st1 (st1 (st1 (st1 (st1 (st1 (st1 (st1 (st1 p0a 4 xp0_3_z) 5 xp0_4_z) 6 xp0_5_z) 7 xp0_6_z) 10 xp0_9_z) 11 xp0_10_z) 12 xp0_11_z) 13 xp0_12_z) 14 xp0_13_z) 15 xp0_14_z) 16 xp0_15_z) 17 xp0_16_z) 18 xp0_17_z) 19 xp0_18_z) (st1 (st1 (st1 (st1 (st1 (st1 (st1 (st1 (st1 (st1 (st1 (st1 (st1 (st1 p0k 4 zp0_3_z) 5 zp0_4_z) 6 zp0_5_z) 7 zp0_6_z) 10 zp0_9_z) 11 zp0_10_z) 12 zp0_11_z) 13 zp0_12_z) 14 zp0_13_z) 15 zp0_14_z) 16 zp0_15_z) 17 zp0_16_z) 18 zp0_17_z) 19 zp0_18_z) (o.2.2) (o.1) (o.2.1)), (oX1 (p1a 0) p1a p1k p1n p1w p1l), (oX9 (p1a 3) p1_2a p1_2k p1_2n p1_2w)] : List va_W)) (List.flatten ([(tX2 (st1 (st1 (st1 (st1 (st1 (st1 (st1 (st1 (st1 (st1 (st1 (st1 (st1 (st1 p0k 4 zp0_3_z) 5 zp0_4_z) 6 zp0_5_z) 7 zp0_6_z) 10 zp0_9_z) 11 zp0_10_z) 12 zp0_11_z) 13 zp0_12_z) 14 zp0_13_z) 15 zp0_14_z) 16 zp0_15_z) 17 zp0_16_z) 18 zp0_17_z) 19 zp0_18_z)), (tX1 p1k), (tX9 p1_2k)] : List (List (ClassId × FieldType)))) (va_A (List.flatten ([(oX2 (p0a 0) p0a p0k p0n p0w p0l), (oX1 (p1a 0) p1a p1k p1n p1w p1l), (oX9 (p1a 3) p1_2a p1_2k p1_2n p1_2w)] : List va_W)) sz) t) (va_A (List.flatten ([(oX2 (p0a 0) p0a p0k p0n p0w p0l), (oX1 (p1a 0) p1a p1k p1n p1w p1l), (oX9 (p1a 3) p1_2a p1_2k p1_2n p1_2w)] : List va_W)) sz)) (hcX2 p0n (o.2.2)) (3 * (gcX2 p0n (o.2.2))) (va_A (List.flatten ([(oX2 (p0a 0) p0a p0k p0n p0w p0l), (oX1 (p1a 0) p1a p1k p1n p1w p1l), (oX9 (p1a 3) p1_2a p1_2k p1_2n p1_2w)] : List va_W)) sz) := by
  refine Met.ofW (cc := cX2_reckon) (maxL := 5) (ret := (Option.none : Option Jvm.ClassFile.FieldType)) (by decide) rfl ?_
  intro p e s m args below meth c s₁ B hml hv
  obtain ⟨rfl, hsz, hP, hK, hD0, hE⟩ := hv
  have hx := B.exec
  have hb := B.bytes
  have hr := B.returns
  have hts0 := atoms_spec (ws := wz yX2_reckon cX2_reckon 5 (Option.none : Option Jvm.ClassFile.FieldType)) B.pre
  have hts : ∀ w ∈ gw, w.before _ s = true := fun w h => hts0 w (List.mem_cons_of_mem _ h)
  have hown : s.vm.findClass RX2 = some m.cls := findClass_of_methodNamed B.named
  have hlocks := B.notSynchronized
  subst hsz
  have hD := hD0.self (sz := s.heap.size)
  refine gQ9 ?_
  intro Q hQ
  generalize hAe : va_A (List.flatten ([(oX2 (p0a 0) p0a p0k p0n p0w p0l), (oX1 (p1a 0) p1a p1k p1n p1w p1l), (oX9 (p1a 3) p1_2a p1_2k p1_2n p1_2w)] : List va_W)) s.heap.size = A at hD hE hQ
  have hA : ∀ q : Nat, s.heap.size ≤ q → A q := fun q h => by rw [← hAe]; exact Or.inr h
  have hS : va_S A s.heap s.heap [] := va_S.rf
  have hP : va_P (dC, dI) cls (List.flatten ([(oX2 (p0a 0) p0a p0k p0n p0w p0l), (oX1 (p1a 0) p1a p1k p1n p1w p1l), (oX9 (p1a 3) p1_2a p1_2k p1_2n p1_2w)] : List va_W)) s.heap := hP
  have hl := lv_entry ([.ref (p0a 0), .ref (p1a 0), .int p2, .int p3]) (n := 5) (Nat.le_of_ble_eq_true rfl)
  rw [lg_entry_eq]
  generalize (lg_sl ([.ref (p0a 0), .ref (p1a 0), .int p2, .int p3]) ++ List.replicate (5 - (lg_sl ([.ref (p0a 0), .ref (p1a 0), .int p2, .int p3])).length) Slot.unset).toArray = ls at hl ⊢
  have hl : lv_has ls 5 [(0, .ref (p0a 0)), (1, .ref (p1a 0)), (2, .int p2), (3, .int p3)] := hl
  obtain ⟨H, hHe⟩ : ∃ H, H = s.heap := ⟨_, rfl⟩
  obtain ⟨locs, hle⟩ : ∃ locs : List Loc, locs = [] := ⟨_, rfl⟩
  rw [← hHe] at hP
  have hS : va_S A s.heap H locs := by rw [hHe, hle]; exact hS
  show W p l e ({ frames := 5, cells := (hcX2 p0n (o.2.2)), slots := (3 * (gcX2 p0n (o.2.2))), locals := 133 } : Room) s m ([.ref (p0a 0), .ref (p1a 0), .int p2, .int p3] : List Value).toArray below meth c s.heap [] 0 0 Q (F0 m 0 ls [])
  rw [← hle]
  refine wH9 hHe ?_
  have hg_p0 := glX2_rf p0n
  have hgn_p0 : glX2 p0n (o.2.2) := (mo_fX2_reckon hrun)
  refine W.widen (k := (hcX2 p0n p0n)) (n := (3 * (gcX2 p0n p0n))) (Nat.zero_le _) (Nat.zero_le _) ?_
  unfold fX2_reckon at hrun
  refine lv_aload_n hx hb dX2_reckon_0 rfl (lv_at hl 0 rfl) ?_
  refine lv_iload_n hx hb dX2_reckon_1 rfl (lv_at hl 2 rfl) ?_
  refine va_put (D := (dC, dI)) (ci := 9) (v := .int p2) (ty := .int) (C := RX2) (T := TX2) (N := 19) hx hb hts i_X2 tyX2 tyX2_ok nmX2 hown hK hP hD hS 0 rfl rfl 0 (by decide) (hts _ qw667) (fun _ h9 => h9) rfl (by decide +kernel) rfl rfl (Nat.le_of_ble_eq_true rfl) dX2_reckon_2 (fun H locs hP hD hS => ?_)
  have hP : va_P (dC, dI) cls (List.flatten ([(oX2 (p0a 0) p0a p0k p0n (upw p0w 0 0 p2) p0l), (oX1 (p1a 0) p1a p1k p1n p1w p1l), (oX9 (p1a 3) p1_2a p1_2k p1_2n p1_2w)] : List va_W)) H := hP
  have hD : va_D A (List.flatten ([(oX2 (p0a 0) p0a p0k p0n (upw p0w 0 0 p2) p0l), (oX1 (p1a 0) p1a p1k p1n p1w p1l), (oX9 (p1a 3) p1_2a p1_2k p1_2n p1_2w)] : List va_W)) := hD
  obtain ⟨w1, ew1, hrun⟩ := let9 hrun
  rw [← ew1] at hP hD
  refine lv_aload_n hx hb dX2_reckon_5 rfl (lv_at hl 0 rfl) ?_
  refine lv_iload_n hx hb dX2_reckon_6 rfl (lv_at hl 3 rfl) ?_
  refine va_put (D := (dC, dI)) (ci := 9) (v := .int p3) (ty := .int) (C := RX2) (T := TX2) (N := 19) hx hb hts i_X2 tyX2 tyX2_ok nmX2 hown hK hP hD hS 0 rfl rfl 1 (by decide) (hts _ qw668) (fun _ h9 => h9) rfl (by decide +kernel) rfl rfl (Nat.le_of_ble_eq_true rfl) dX2_reckon_7 (fun H locs hP hD hS => ?_)
  have hP : va_P (dC, dI) cls (List.flatten ([(oX2 (p0a 0) p0a p0k p0n (upw w1 0 1 p3) p0l), (oX1 (p1a 0) p1a p1k p1n p1w p1l), (oX9 (p1a 3) p1_2a p1_2k p1_2n p1_2w)] : List va_W)) H := hP
  have hD : va_D A (List.flatten ([(oX2 (p0a 0) p0a p0k p0n (upw w1 0 1 p3) p0l), (oX1 (p1a 0) p1a p1k p1n p1w p1l), (oX9 (p1a 3) p1_2a p1_2k p1_2n p1_2w)] : List va_W)) := hD
  obtain ⟨w2, ew2, hrun⟩ := let9 hrun
  rw [← ew2] at hP hD
  refine lv_aload_n hx hb dX2_reckon_10 rfl (lv_at hl 0 rfl) ?_
  refine lv_aload_n hx hb dX2_reckon_11 rfl (lv_at hl 0 rfl) ?_
  refine va_get (D := (dC, dI)) (ci := 9) (v := .int (w2 0 0)) (C := RX2) (T := TX2) (N := 19) hx hb hts i_X2 hown hK hP 0 rfl rfl 0 (by decide) (hts _ qw667) (fun _ h9 => h9) rfl dX2_reckon_12 ?_
  refine lv_bipush (v := 63) hx hb dX2_reckon_15 (by decide) ?_
  refine lv_iadd hx hb dX2_reckon_17 ?_
  refine lv_bipush (v := 6) hx hb dX2_reckon_18 (by decide) ?_
  refine lv_ishr hx hb dX2_reckon_20 ?_
  refine va_put (D := (dC, dI)) (ci := 9) (v := .int (((w2 0 0) + 63) >>> (6 &&& 31))) (ty := .int) (C := RX2) (T := TX2) (N := 19) hx hb hts i_X2 tyX2 tyX2_ok nmX2 hown hK hP hD hS 0 rfl rfl 2 (by decide) (hts _ qw669) (fun _ h9 => h9) rfl (by decide +kernel) rfl rfl (Nat.le_of_ble_eq_true rfl) dX2_reckon_21 (fun H locs hP hD hS => ?_)
  have hP : va_P (dC, dI) cls (List.flatten ([(oX2 (p0a 0) p0a p0k p0n (upw w2 0 2 (((w2 0 0) + 63) >>> (6 &&& 31))) p0l), (oX1 (p1a 0) p1a p1k p1n p1w p1l), (oX9 (p1a 3) p1_2a p1_2k p1_2n p1_2w)] : List va_W)) H := hP
  have hD : va_D A (List.flatten ([(oX2 (p0a 0) p0a p0k p0n (upw w2 0 2 (((w2 0 0) + 63) >>> (6 &&& 31))) p0l), (oX1 (p1a 0) p1a p1k p1n p1w p1l), (oX9 (p1a 3) p1_2a p1_2k p1_2n p1_2w)] : List va_W)) := hD
  obtain ⟨w3, ew3, hrun⟩ := let9 hrun
  rw [← ew3] at hP hD
  refine lv_aload_n hx hb dX2_reckon_24 rfl (lv_at hl 0 rfl) ?_
  refine lv_aload_n hx hb dX2_reckon_25 rfl (lv_at hl 1 rfl) ?_
  refine va_get (D := (dC, dI)) (ci := 4) (v := .int (p1w 0 0)) (C := RX1) (T := TX1) (N := 21) hx hb hts i_X1 hown hK hP 16 rfl rfl 0 (by decide) (hts _ qw670) (fun _ h9 => h9) rfl dX2_reckon_26 ?_
  obtain ⟨o_4, hc_4, hrun⟩ := bnd9 hrun
  have hPx : va_P (dC, dI) cls ((List.flatten ([(oX2 (p0a 0) p0a p0k p0n w3 p0l)] : List va_W)) ++ (List.flatten ([(oX1 (p1a 0) p1a p1k p1n p1w p1l), (oX9 (p1a 3) p1_2a p1_2k p1_2n p1_2w)] : List va_W))) H := vP_fa (vP_perm hP (bP (List.Perm.refl _)))
  have hDx : va_D A ((List.flatten ([(oX2 (p0a 0) p0a p0k p0n w3 p0l)] : List va_W)) ++ (List.flatten ([(oX1 (p1a 0) p1a p1k p1n p1w p1l), (oX9 (p1a 3) p1_2a p1_2k p1_2n p1_2w)] : List va_W))) := vD_fa (vD_perm hD (bP (List.Perm.refl _)))
  have hKx : va_K (dC, dI) cls ((List.flatten ([(tX2 p0k)] : List (List (ClassId × FieldType)))) ++ (List.flatten ([(tX1 p1k), (tX9 p1_2k)] : List (List (ClassId × FieldType))))) s := vK_fa (vK_perm hK (bP (List.Perm.refl _)))
  have hPc := vP_l hPx
  have hDc := vD_l hDx
  have hKc := vK_l hKx
  have hFc := vfree hDx hS hA
  have hgn_p0 : glX2 (o_4.2.2) (o.2.2) := (mo_fX2_reckon_G32_33 hrun)
  refine va_callv (va_runV (As := [.int (p1w 0 0)]) (rest := []) ⟨hx, hb, hml, hown, hts⟩ (kX2_makeRoom l dC dI (p0a := p0a) (p0k := p0k) (p0n := p0n) (p0w := w3) (p0l := p0l) (p1 := (p1w 0 0)) (sz := _) (o := o_4) (hrun := hc_4)) (cwV 1 hts (gi_V qw691 qw692 qw693 qw694 (gi_z qw690)) rfl rfl rfl (by decide +kernel) ⟨Nat.le_of_ble_eq_true rfl, Nat.le_of_ble_eq_true rfl⟩) ⟨PRE.blind, va_recv hKc hPc (ci := 9) (q0 := 0) rfl rfl, PRE.of hE hS hFc hPc hKc hDc⟩ rfl rfl hl.1 rfl (lv_room (Nat.le_of_ble_eq_true rfl)) dX2_reckon_29 ⟨(show (hcX2 p0n p0n) + (hcX2 p0n (o_4.2.2)) ≤ (hcX2 p0n (o.2.2)) from by have q0 := gsX2 hg_p0 (mo_fX2_makeRoom hc_4) hgn_p0; omega), (show (3 * (gcX2 p0n p0n)) + (3 * (gcX2 p0n (o_4.2.2))) ≤ (3 * (gcX2 p0n (o.2.2))) from by have q0 := gsX2 hg_p0 (mo_fX2_makeRoom hc_4) hgn_p0; omega)⟩) hS (fun q _ h => hFc q h) hFc (fun u t H locs ht hvm hw hB hz1 hk1 hS => ?_)
  obtain ⟨x5, z6, x7, z8, x9, z10, x11, z12, x13, z14, x15, z16, x17, z18, x19, z20, x21, z22, x23, z24, x25, z26, x27, z28, x29, z30, x31, z32, hB⟩ := hB
  obtain ⟨b1, b2, b3⟩ := hB
  rw [ht] at b1
  obtain ⟨hP, hD, hK⟩ := JOINC (wc := (List.flatten ([(oX2 (p0a 0) p0a p0k p0n w3 p0l)] : List va_W))) (wr := (List.flatten ([(oX1 (p1a 0) p1a p1k p1n p1w p1l), (oX9 (p1a 3) p1_2a p1_2k p1_2n p1_2w)] : List va_W))) (w1 := (List.flatten ([(oX2 (p0a 0) (st1 (st1 (st1 (st1 (st1 (st1 (st1 (st1 (st1 (st1 (st1 (st1 (st1 (st1 p0a 4 x5) 5 x7) 6 x9) 7 x11) 10 x13) 11 x15) 12 x17) 13 x19) 14 x21) 15 x23) 16 x25) 17 x27) 18 x29) 19 x31) (st1 (st1 (st1 (st1 (st1 (st1 (st1 (st1 (st1 (st1 (st1 (st1 (st1 (st1 p0k 4 z6) 5 z8) 6 z10) 7 z12) 10 z14) 11 z16) 12 z18) 13 z20) 14 z22) 15 z24) 16 z26) 17 z28) 18 z30) 19 z32) (o_4.2.2) (o_4.1) (o_4.2.1))] : List va_W))) (t1 := (List.flatten ([(tX2 (st1 (st1 (st1 (st1 (st1 (st1 (st1 (st1 (st1 (st1 (st1 (st1 (st1 (st1 p0k 4 z6) 5 z8) 6 z10) 7 z12) 10 z14) 11 z16) 12 z18) 13 z20) 14 z22) 15 z24) 16 z26) 17 z28) 18 z30) 19 z32))] : List (List (ClassId × FieldType))))) hPx hDx hKx hk1 hFc b1 (va_K.moved hvm.symm b2) b3
  have hP : va_P (dC, dI) cls (List.flatten ([(oX2 (p0a 0) (st1 (st1 (st1 (st1 (st1 (st1 (st1 (st1 (st1 (st1 (st1 (st1 (st1 (st1 p0a 4 x5) 5 x7) 6 x9) 7 x11) 10 x13) 11 x15) 12 x17) 13 x19) 14 x21) 15 x23) 16 x25) 17 x27) 18 x29) 19 x31) (st1 (st1 (st1 (st1 (st1 (st1 (st1 (st1 (st1 (st1 (st1 (st1 (st1 (st1 p0k 4 z6) 5 z8) 6 z10) 7 z12) 10 z14) 11 z16) 12 z18) 13 z20) 14 z22) 15 z24) 16 z26) 17 z28) 18 z30) 19 z32) (o_4.2.2) (o_4.1) (o_4.2.1)), (oX1 (p1a 0) p1a p1k p1n p1w p1l), (oX9 (p1a 3) p1_2a p1_2k p1_2n p1_2w)] : List va_W)) H := vP_perm (vP_fb hP) (bP (List.Perm.refl _))
  have hD : va_D A (List.flatten ([(oX2 (p0a 0) (st1 (st1 (st1 (st1 (st1 (st1 (st1 (st1 (st1 (st1 (st1 (st1 (st1 (st1 p0a 4 x5) 5 x7) 6 x9) 7 x11) 10 x13) 11 x15) 12 x17) 13 x19) 14 x21) 15 x23) 16 x25) 17 x27) 18 x29) 19 x31) (st1 (st1 (st1 (st1 (st1 (st1 (st1 (st1 (st1 (st1 (st1 (st1 (st1 (st1 p0k 4 z6) 5 z8) 6 z10) 7 z12) 10 z14) 11 z16) 12 z18) 13 z20) 14 z22) 15 z24) 16 z26) 17 z28) 18 z30) 19 z32) (o_4.2.2) (o_4.1) (o_4.2.1)), (oX1 (p1a 0) p1a p1k p1n p1w p1l), (oX9 (p1a 3) p1_2a p1_2k p1_2n p1_2w)] : List va_W)) := vD_perm (vD_fb hD) (bP (List.Perm.refl _))
  have hK : va_K (dC, dI) cls (List.flatten ([(tX2 (st1 (st1 (st1 (st1 (st1 (st1 (st1 (st1 (st1 (st1 (st1 (st1 (st1 (st1 p0k 4 z6) 5 z8) 6 z10) 7 z12) 10 z14) 11 z16) 12 z18) 13 z20) 14 z22) 15 z24) 16 z26) 17 z28) 18 z30) 19 z32)), (tX1 p1k), (tX9 p1_2k)] : List (List (ClassId × FieldType)))) s := vK_perm (vK_fb hK) (bP (List.Perm.refl _))
  refine W.widen (k := (hcX2 p0n (o_4.2.2))) (n := (3 * (gcX2 p0n (o_4.2.2)))) (by have a0 := gcX2_add hg_p0 (mo_fX2_makeRoom hc_4); omega) (by have a0 := gcX2_add hg_p0 (mo_fX2_makeRoom hc_4); omega) ?_
  have hg_p0 : glX2 p0n (o_4.2.2) := glX2_tr hg_p0 (mo_fX2_makeRoom hc_4)
  unfold fX2_reckon_G32_33 at hrun
  refine lv_iconst (v := 0) hx hb dX2_reckon_32 (by decide) ?_
  refine lv_istore (lv' := [(4, .int 0), (0, .ref (p0a 0)), (1, .ref (p1a 0)), (2, .int p2), (3, .int p3)]) hx hb dX2_reckon_33 hl (by decide) rfl (fun ls hl => ?_)
  have L35 : ∀ (n_35 : Nat) (v4_35 : Int32) (p0l_35 : SL) (o35 : SL) (H : Heap) (locs : List Loc) (ls : Array Slot), (fX2_reckon_L35 p1w p1_2n p1_2w o_4 n_35) v4_35 p0l_35 = some o35 → va_P (dC, dI) cls (List.flatten ([(oX2 (p0a 0) (st1 (st1 (st1 (st1 (st1 (st1 (st1 (st1 (st1 (st1 (st1 (st1 (st1 (st1 p0a 4 x5) 5 x7) 6 x9) 7 x11) 10 x13) 11 x15) 12 x17) 13 x19) 14 x21) 15 x23) 16 x25) 17 x27) 18 x29) 19 x31) (st1 (st1 (st1 (st1 (st1 (st1 (st1 (st1 (st1 (st1 (st1 (st1 (st1 (st1 p0k 4 z6) 5 z8) 6 z10) 7 z12) 10 z14) 11 z16) 12 z18) 13 z20) 14 z22) 15 z24) 16 z26) 17 z28) 18 z30) 19 z32) (o_4.2.2) (o_4.1) p0l_35), (oX1 (p1a 0) p1a p1k p1n p1w p1l), (oX9 (p1a 3) p1_2a p1_2k p1_2n p1_2w)] : List va_W)) H → va_D A (List.flatten ([(oX2 (p0a 0) (st1 (st1 (st1 (st1 (st1 (st1 (st1 (st1 (st1 (st1 (st1 (st1 (st1 (st1 p0a 4 x5) 5 x7) 6 x9) 7 x11) 10 x13) 11 x15) 12 x17) 13 x19) 14 x21) 15 x23) 16 x25) 17 x27) 18 x29) 19 x31) (st1 (st1 (st1 (st1 (st1 (st1 (st1 (st1 (st1 (st1 (st1 (st1 (st1 (st1 p0k 4 z6) 5 z8) 6 z10) 7 z12) 10 z14) 11 z16) 12 z18) 13 z20) 14 z22) 15 z24) 16 z26) 17 z28) 18 z30) 19 z32) (o_4.2.2) (o_4.1) p0l_35), (oX1 (p1a 0) p1a p1k p1n p1w p1l), (oX9 (p1a 3) p1_2a p1_2k p1_2n p1_2w)] : List va_W)) → va_K (dC, dI) cls (List.flatten ([(tX2 (st1 (st1 (st1 (st1 (st1 (st1 (st1 (st1 (st1 (st1 (st1 (st1 (st1 (st1 p0k 4 z6) 5 z8) 6 z10) 7 z12) 10 z14) 11 z16) 12 z18) 13 z20) 14 z22) 15 z24) 16 z26) 17 z28) 18 z30) 19 z32)), (tX1 p1k), (tX9 p1_2k)] : List (List (ClassId × FieldType)))) s → va_S A s.heap H locs → lv_has ls 5 [(0, .ref (p0a 0)), (1, .ref (p1a 0)), (4, .int v4_35)] → glX2 p0n (o_4.2.2) → (∀ (H : Heap) (locs : List Loc) (ls : Array Slot), va_P (dC, dI) cls (List.flatten ([(oX2 (p0a 0) (st1 (st1 (st1 (st1 (st1 (st1 (st1 (st1 (st1 (st1 (st1 (st1 (st1 (st1 p0a 4 x5) 5 x7) 6 x9) 7 x11) 10 x13) 11 x15) 12 x17) 13 x19) 14 x21) 15 x23) 16 x25) 17 x27) 18 x29) 19 x31) (st1 (st1 (st1 (st1 (st1 (st1 (st1 (st1 (st1 (st1 (st1 (st1 (st1 (st1 p0k 4 z6) 5 z8) 6 z10) 7 z12) 10 z14) 11 z16) 12 z18) 13 z20) 14 z22) 15 z24) 16 z26) 17 z28) 18 z30) 19 z32) (o_4.2.2) (o_4.1) o35), (oX1 (p1a 0) p1a p1k p1n p1w p1l), (oX9 (p1a 3) p1_2a p1_2k p1_2n p1_2w)] : List va_W)) H → va_D A (List.flatten ([(oX2 (p0a 0) (st1 (st1 (st1 (st1 (st1 (st1 (st1 (st1 (st1 (st1 (st1 (st1 (st1 (st1 p0a 4 x5) 5 x7) 6 x9) 7 x11) 10 x13) 11 x15) 12 x17) 13 x19) 14 x21) 15 x23) 16 x25) 17 x27) 18 x29) 19 x31) (st1 (st1 (st1 (st1 (st1 (st1 (st1 (st1 (st1 (st1 (st1 (st1 (st1 (st1 p0k 4 z6) 5 z8) 6 z10) 7 z12) 10 z14) 11 z16) 12 z18) 13 z20) 14 z22) 15 z24) 16 z26) 17 z28) 18 z30) 19 z32) (o_4.2.2) (o_4.1) o35), (oX1 (p1a 0) p1a p1k p1n p1w p1l), (oX9 (p1a 3) p1_2a p1_2k p1_2n p1_2w)] : List va_W)) → va_K (dC, dI) cls (List.flatten ([(tX2 (st1 (st1 (st1 (st1 (st1 (st1 (st1 (st1 (st1 (st1 (st1 (st1 (st1 (st1 p0k 4 z6) 5 z8) 6 z10) 7 z12) 10 z14) 11 z16) 12 z18) 13 z20) 14 z22) 15 z24) 16 z26) 17 z28) 18 z30) 19 z32)), (tX1 p1k), (tX9 p1_2k)] : List (List (ClassId × FieldType)))) s → va_S A s.heap H locs → lv_has ls 5 [(0, .ref (p0a 0)), (1, .ref (p1a 0))] → glX2 p0n (o_4.2.2) → W p l e ({ frames := 5, cells := (hcX2 p0n (o.2.2)), slots := (3 * (gcX2 p0n (o.2.2))), locals := 133 } : Room) s m ([.ref (p0a 0), .ref (p1a 0), .int p2, .int p3] : List Value).toArray below meth c H locs (hcX2 p0n (o_4.2.2)) (3 * (gcX2 p0n (o_4.2.2))) Q (F0 m 57 ls [])) → W p l e ({ frames := 5, cells := (hcX2 p0n (o.2.2)), slots := (3 * (gcX2 p0n (o.2.2))), locals := 133 } : Room) s m ([.ref (p0a 0), .ref (p1a 0), .int p2, .int p3] : List Value).toArray below meth c H locs (hcX2 p0n (o_4.2.2)) (3 * (gcX2 p0n (o_4.2.2))) Q (F0 m 35 ls []) := by
    intro n_35
    induction n_35 with
    | zero => intro v4_35 p0l_35 o35 H locs ls hrun; exact (no9 rfl hrun).elim
    | succ n_35 IH35 =>
      intro v4_35 p0l_35 o35 H locs ls hrun hP hD hK hS hl hg_p0 hk35
      unfold fX2_reckon_L35 at hrun
      refine lv_iload hx hb dX2_reckon_35 (lv_at hl 2 rfl) ?_
      refine lv_aload_n hx hb dX2_reckon_37 rfl (lv_at hl 1 rfl) ?_
      refine va_get (D := (dC, dI)) (ci := 4) (v := .int (p1w 0 0)) (C := RX1) (T := TX1) (N := 21) hx hb hts i_X1 hown hK hP 16 rfl rfl 0 (by decide) (hts _ qw670) (fun _ h9 => h9) rfl dX2_reckon_38 ?_
      rcases br9 hrun with ⟨hc34, hrun⟩ | ⟨hc34, hrun⟩
      · refine lv_icmp_ge (tgt := 57) hx hb dX2_reckon_41 (by decide) (fun _ => ?_) (fun c => absurd hc34 c)
        obtain rfl := (Option.some.inj hrun)
        exact hk35 _ _ _ hP hD hK hS (lv_sub hl [0, 1] rfl) hg_p0
      · refine lv_icmp_ge (tgt := 57) hx hb dX2_reckon_41 (by decide) (fun c => absurd c hc34) (fun _ => ?_)
        refine lv_aload_n hx hb dX2_reckon_44 rfl (lv_at hl 0 rfl) ?_
        refine lv_aload_n hx hb dX2_reckon_45 rfl (lv_at hl 1 rfl) ?_
        refine lv_iload hx hb dX2_reckon_46 (lv_at hl 2 rfl) ?_
        obtain ⟨o_35, hc_35, hrun⟩ := bnd9 hrun
        have hPx : va_P (dC, dI) cls ((List.flatten ([(oX2 (p0a 0) (st1 (st1 (st1 (st1 (st1 (st1 (st1 (st1 (st1 (st1 (st1 (st1 (st1 (st1 p0a 4 x5) 5 x7) 6 x9) 7 x11) 10 x13) 11 x15) 12 x17) 13 x19) 14 x21) 15 x23) 16 x25) 17 x27) 18 x29) 19 x31) (st1 (st1 (st1 (st1 (st1 (st1 (st1 (st1 (st1 (st1 (st1 (st1 (st1 (st1 p0k 4 z6) 5 z8) 6 z10) 7 z12) 10 z14) 11 z16) 12 z18) 13 z20) 14 z22) 15 z24) 16 z26) 17 z28) 18 z30) 19 z32) (o_4.2.2) (o_4.1) p0l_35), (oX1 (p1a 0) p1a p1k p1n p1w p1l), (oX9 (p1a 3) p1_2a p1_2k p1_2n p1_2w)] : List va_W)) ++ (List.flatten ([] : List va_W))) H := vP_fa (vP_perm hP (bP (List.Perm.refl _)))
        have hDx : va_D A ((List.flatten ([(oX2 (p0a 0) (st1 (st1 (st1 (st1 (st1 (st1 (st1 (st1 (st1 (st1 (st1 (st1 (st1 (st1 p0a 4 x5) 5 x7) 6 x9) 7 x11) 10 x13) 11 x15) 12 x17) 13 x19) 14 x21) 15 x23) 16 x25) 17 x27) 18 x29) 19 x31) (st1 (st1 (st1 (st1 (st1 (st1 (st1 (st1 (st1 (st1 (st1 (st1 (st1 (st1 p0k 4 z6) 5 z8) 6 z10) 7 z12) 10 z14) 11 z16) 12 z18) 13 z20) 14 z22) 15 z24) 16 z26) 17 z28) 18 z30) 19 z32) (o_4.2.2) (o_4.1) p0l_35), (oX1 (p1a 0) p1a p1k p1n p1w p1l), (oX9 (p1a 3) p1_2a p1_2k p1_2n p1_2w)] : List va_W)) ++ (List.flatten ([] : List va_W))) := vD_fa (vD_perm hD (bP (List.Perm.refl _)))
        have hKx : va_K (dC, dI) cls ((List.flatten ([(tX2 (st1 (st1 (st1 (st1 (st1 (st1 (st1 (st1 (st1 (st1 (st1 (st1 (st1 (st1 p0k 4 z6) 5 z8) 6 z10) 7 z12) 10 z14) 11 z16) 12 z18) 13 z20) 14 z22) 15 z24) 16 z26) 17 z28) 18 z30) 19 z32)), (tX1 p1k), (tX9 p1_2k)] : List (List (ClassId × FieldType)))) ++ (List.flatten ([] : List (List (ClassId × FieldType))))) s := vK_fa (vK_perm hK (bP (List.Perm.refl _)))
        have hPc := vP_l hPx
        have hDc := vD_l hDx
        have hKc := vK_l hKx
        have hFc := vfree hDx hS hA
        refine va_callv (va_runV (As := [.ref (p1a 0), .int v4_35]) (rest := []) ⟨hx, hb, hml, hown, hts⟩ (kX2_noteBlock l dC dI (p0a := (st0 (p0a 0) (st1 (st1 (st1 (st1 (st1 (st1 (st1 (st1 (st1 (st1 (st1 (st1 (st1 (st1 p0a 4 x5) 5 x7) 6 x9) 7 x11) 10 x13) 11 x15) 12 x17) 13 x19) 14 x21) 15 x23) 16 x25) 17 x27) 18 x29) 19 x31))) (p0k := (st1 (st1 (st1 (st1 (st1 (st1 (st1 (st1 (st1 (st1 (st1 (st1 (st1 (st1 p0k 4 z6) 5 z8) 6 z10) 7 z12) 10 z14) 11 z16) 12 z18) 13 z20) 14 z22) 15 z24) 16 z26) 17 z28) 18 z30) 19 z32)) (p0n := (o_4.2.2)) (p0w := (o_4.1)) (p0l := p0l_35) (p1a := p1a) (p1k := p1k) (p1n := p1n) (p1w := p1w) (p1l := p1l) (p2 := v4_35) (p1_2a := p1_2a) (p1_2k := p1_2k) (p1_2n := p1_2n) (p1_2w := p1_2w) (sz := _) (o := o_35) (hrun := hc_35)) (cwV 2 hts (gi_V qw719 qw720 qw721 qw694 (gi_z qw718)) rfl rfl rfl (by decide +kernel) ⟨Nat.le_of_ble_eq_true rfl, Nat.le_of_ble_eq_true rfl⟩) ⟨PRE.blind, va_recv hKc hPc (ci := 9) (q0 := 0) rfl rfl, PRE.of hE hS hFc hPc hKc hDc⟩ rfl rfl hl.1 rfl (lv_room (Nat.le_of_ble_eq_true rfl)) dX2_reckon_48 ⟨(show (hcX2 p0n (o_4.2.2)) + 0 ≤ (hcX2 p0n (o.2.2)) from by have q0 := gmX2 hg_p0 hgn_p0; omega), (show (3 * (gcX2 p0n (o_4.2.2))) + 0 ≤ (3 * (gcX2 p0n (o.2.2))) from by have q0 := gmX2 hg_p0 hgn_p0; omega)⟩) hS (fun q _ h => hFc q h) hFc (fun u t H locs ht hvm hw hB hz1 hk1 hS => ?_)
        obtain ⟨b1, b2, b3⟩ := hB
        rw [ht] at b1
        obtain ⟨hP, hD, hK⟩ := JOINC (wc := (List.flatten ([(oX2 (p0a 0) (st1 (st1 (st1 (st1 (st1 (st1 (st1 (st1 (st1 (st1 (st1 (st1 (st1 (st1 p0a 4 x5) 5 x7) 6 x9) 7 x11) 10 x13) 11 x15) 12 x17) 13 x19) 14 x21) 15 x23) 16 x25) 17 x27) 18 x29) 19 x31) (st1 (st1 (st1 (st1 (st1 (st1 (st1 (st1 (st1 (st1 (st1 (st1 (st1 (st1 p0k 4 z6) 5 z8) 6 z10) 7 z12) 10 z14) 11 z16) 12 z18) 13 z20) 14 z22) 15 z24) 16 z26) 17 z28) 18 z30) 19 z32) (o_4.2.2) (o_4.1) p0l_35), (oX1 (p1a 0) p1a p1k p1n p1w p1l), (oX9 (p1a 3) p1_2a p1_2k p1_2n p1_2w)] : List va_W))) (wr := (List.flatten ([] : List va_W))) (w1 := (List.flatten ([(oX2 (p0a 0) (st1 (st1 (st1 (st1 (st1 (st1 (st1 (st1 (st1 (st1 (st1 (st1 (st1 (st1 p0a 4 x5) 5 x7) 6 x9) 7 x11) 10 x13) 11 x15) 12 x17) 13 x19) 14 x21) 15 x23) 16 x25) 17 x27) 18 x29) 19 x31) (st1 (st1 (st1 (st1 (st1 (st1 (st1 (st1 (st1 (st1 (st1 (st1 (st1 (st1 p0k 4 z6) 5 z8) 6 z10) 7 z12) 10 z14) 11 z16) 12 z18) 13 z20) 14 z22) 15 z24) 16 z26) 17 z28) 18 z30) 19 z32) (o_4.2.2) (o_4.1) o_35), (oX1 (p1a 0) p1a p1k p1n p1w p1l), (oX9 (p1a 3) p1_2a p1_2k p1_2n p1_2w)] : List va_W))) (t1 := (List.flatten ([(tX2 (st1 (st1 (st1 (st1 (st1 (st1 (st1 (st1 (st1 (st1 (st1 (st1 (st1 (st1 p0k 4 z6) 5 z8) 6 z10) 7 z12) 10 z14) 11 z16) 12 z18) 13 z20) 14 z22) 15 z24) 16 z26) 17 z28) 18 z30) 19 z32)), (tX1 p1k), (tX9 p1_2k)] : List (List (ClassId × FieldType))))) hPx hDx hKx hk1 hFc b1 (va_K.moved hvm.symm b2) b3
        have hP : va_P (dC, dI) cls (List.flatten ([(oX2 (p0a 0) (st1 (st1 (st1 (st1 (st1 (st1 (st1 (st1 (st1 (st1 (st1 (st1 (st1 (st1 p0a 4 x5) 5 x7) 6 x9) 7 x11) 10 x13) 11 x15) 12 x17) 13 x19) 14 x21) 15 x23) 16 x25) 17 x27) 18 x29) 19 x31) (st1 (st1 (st1 (st1 (st1 (st1 (st1 (st1 (st1 (st1 (st1 (st1 (st1 (st1 p0k 4 z6) 5 z8) 6 z10) 7 z12) 10 z14) 11 z16) 12 z18) 13 z20) 14 z22) 15 z24) 16 z26) 17 z28) 18 z30) 19 z32) (o_4.2.2) (o_4.1) o_35), (oX1 (p1a 0) p1a p1k p1n p1w p1l), (oX9 (p1a 3) p1_2a p1_2k p1_2n p1_2w)] : List va_W)) H := vP_perm (vP_fb hP) (bP (List.Perm.refl _))
        have hD : va_D A (List.flatten ([(oX2 (p0a 0) (st1 (st1 (st1 (st1 (st1 (st1 (st1 (st1 (st1 (st1 (st1 (st1 (st1 (st1 p0a 4 x5) 5 x7) 6 x9) 7 x11) 10 x13) 11 x15) 12 x17) 13 x19) 14 x21) 15 x23) 16 x25) 17 x27) 18 x29) 19 x31) (st1 (st1 (st1 (st1 (st1 (st1 (st1 (st1 (st1 (st1 (st1 (st1 (st1 (st1 p0k 4 z6) 5 z8) 6 z10) 7 z12) 10 z14) 11 z16) 12 z18) 13 z20) 14 z22) 15 z24) 16 z26) 17 z28) 18 z30) 19 z32) (o_4.2.2) (o_4.1) o_35), (oX1 (p1a 0) p1a p1k p1n p1w p1l), (oX9 (p1a 3) p1_2a p1_2k p1_2n p1_2w)] : List va_W)) := vD_perm (vD_fb hD) (bP (List.Perm.refl _))
        have hK : va_K (dC, dI) cls (List.flatten ([(tX2 (st1 (st1 (st1 (st1 (st1 (st1 (st1 (st1 (st1 (st1 (st1 (st1 (st1 (st1 p0k 4 z6) 5 z8) 6 z10) 7 z12) 10 z14) 11 z16) 12 z18) 13 z20) 14 z22) 15 z24) 16 z26) 17 z28) 18 z30) 19 z32)), (tX1 p1k), (tX9 p1_2k)] : List (List (ClassId × FieldType)))) s := vK_perm (vK_fb hK) (bP (List.Perm.refl _))
        refine lv_iinc (v := (v4_35 + 1)) (lv' := [(4, .int (v4_35 + 1)), (0, .ref (p0a 0)), (1, .ref (p1a 0))]) hx hb dX2_reckon_51 hl (k := 2) rfl rfl (by decide) rfl (fun ls hl => ?_)
        refine lv_goto (tgt := 35) hx hb dX2_reckon_54 (by decide) ?_
        exact IH35 (v4_35 + 1) o_35 o35 _ _ _ hrun hP hD hK hS (lv_sub hl [1, 2, 0] rfl) hg_p0 hk35
  obtain ⟨o35, hc35, hrun⟩ := bnd9 hrun
  refine L35 NF 0 (o_4.2.1) o35 _ _ _ hc35 hP hD hK hS (lv_sub hl [1, 2, 0] rfl) hg_p0 ?_
  intro H locs ls hP hD hK hS hl hg_p0
  have hl := hl
  refine lv_aload_n hx hb dX2_reckon_57 rfl (lv_at hl 0 rfl) ?_
  refine lv_aload_n hx hb dX2_reckon_58 rfl (lv_at hl 1 rfl) ?_
  obtain ⟨o_36, hc_36, hrun⟩ := bnd9 hrun
  have hPx : va_P (dC, dI) cls ((List.flatten ([(oX2 (p0a 0) (st1 (st1 (st1 (st1 (st1 (st1 (st1 (st1 (st1 (st1 (st1 (st1 (st1 (st1 p0a 4 x5) 5 x7) 6 x9) 7 x11) 10 x13) 11 x15) 12 x17) 13 x19) 14 x21) 15 x23) 16 x25) 17 x27) 18 x29) 19 x31) (st1 (st1 (st1 (st1 (st1 (st1 (st1 (st1 (st1 (st1 (st1 (st1 (st1 (st1 p0k 4 z6) 5 z8) 6 z10) 7 z12) 10 z14) 11 z16) 12 z18) 13 z20) 14 z22) 15 z24) 16 z26) 17 z28) 18 z30) 19 z32) (o_4.2.2) (o_4.1) o35), (oX1 (p1a 0) p1a p1k p1n p1w p1l)] : List va_W)) ++ (List.flatten ([(oX9 (p1a 3) p1_2a p1_2k p1_2n p1_2w)] : List va_W))) H := vP_fa (vP_perm hP (bP (List.Perm.refl _)))
  have hDx : va_D A ((List.flatten ([(oX2 (p0a 0) (st1 (st1 (st1 (st1 (st1 (st1 (st1 (st1 (st1 (st1 (st1 (st1 (st1 (st1 p0a 4 x5) 5 x7) 6 x9) 7 x11) 10 x13) 11 x15) 12 x17) 13 x19) 14 x21) 15 x23) 16 x25) 17 x27) 18 x29) 19 x31) (st1 (st1 (st1 (st1 (st1 (st1 (st1 (st1 (st1 (st1 (st1 (st1 (st1 (st1 p0k 4 z6) 5 z8) 6 z10) 7 z12) 10 z14) 11 z16) 12 z18) 13 z20) 14 z22) 15 z24) 16 z26) 17 z28) 18 z30) 19 z32) (o_4.2.2) (o_4.1) o35), (oX1 (p1a 0) p1a p1k p1n p1w p1l)] : List va_W)) ++ (List.flatten ([(oX9 (p1a 3) p1_2a p1_2k p1_2n p1_2w)] : List va_W))) := vD_fa (vD_perm hD (bP (List.Perm.refl _)))
  have hKx : va_K (dC, dI) cls ((List.flatten ([(tX2 (st1 (st1 (st1 (st1 (st1 (st1 (st1 (st1 (st1 (st1 (st1 (st1 (st1 (st1 p0k 4 z6) 5 z8) 6 z10) 7 z12) 10 z14) 11 z16) 12 z18) 13 z20) 14 z22) 15 z24) 16 z26) 17 z28) 18 z30) 19 z32)), (tX1 p1k)] : List (List (ClassId × FieldType)))) ++ (List.flatten ([(tX9 p1_2k)] : List (List (ClassId × FieldType))))) s := vK_fa (vK_perm hK (bP (List.Perm.refl _)))
  have hPc := vP_l hPx
  have hDc := vD_l hDx
  have hKc := vK_l hKx
  have hFc := vfree hDx hS hA
  refine va_callv (va_runV (As := [.ref (p1a 0)]) (rest := []) ⟨hx, hb, hml, hown, hts⟩ (kX2_spreadLife l dC dI (p0a := (st0 (p0a 0) (st1 (st1 (st1 (st1 (st1 (st1 (st1 (st1 (st1 (st1 (st1 (st1 (st1 (st1 p0a 4 x5) 5 x7) 6 x9) 7 x11) 10 x13) 11 x15) 12 x17) 13 x19) 14 x21) 15 x23) 16 x25) 17 x27) 18 x29) 19 x31))) (p0k := (st1 (st1 (st1 (st1 (st1 (st1 (st1 (st1 (st1 (st1 (st1 (st1 (st1 (st1 p0k 4 z6) 5 z8) 6 z10) 7 z12) 10 z14) 11 z16) 12 z18) 13 z20) 14 z22) 15 z24) 16 z26) 17 z28) 18 z30) 19 z32)) (p0n := (o_4.2.2)) (p0w := (o_4.1)) (p0l := o35) (p1a := p1a) (p1k := p1k) (p1n := p1n) (p1w := p1w) (p1l := p1l) (sz := _) (o := o_36) (hrun := hc_36)) (cwV 1 hts (gi_V qw732 qw733 qw734 qw694 (gi_z qw731)) rfl rfl rfl (by decide +kernel) ⟨Nat.le_of_ble_eq_true rfl, Nat.le_of_ble_eq_true rfl⟩) ⟨PRE.blind, va_recv hKc hPc (ci := 9) (q0 := 0) rfl rfl, PRE.of hE hS hFc hPc hKc hDc⟩ rfl rfl hl.1 rfl (lv_room (Nat.le_of_ble_eq_true rfl)) dX2_reckon_59 ⟨(show (hcX2 p0n (o_4.2.2)) + 0 ≤ (hcX2 p0n (o.2.2)) from by have q0 := gmX2 hg_p0 hgn_p0; omega), (show (3 * (gcX2 p0n (o_4.2.2))) + 0 ≤ (3 * (gcX2 p0n (o.2.2))) from by have q0 := gmX2 hg_p0 hgn_p0; omega)⟩) hS (fun q _ h => hFc q h) hFc (fun u t H locs ht hvm hw hB hz1 hk1 hS => ?_)
  obtain ⟨b1, b2, b3⟩ := hB
  rw [ht] at b1
  obtain ⟨hP, hD, hK⟩ := JOINC (wc := (List.flatten ([(oX2 (p0a 0) (st1 (st1 (st1 (st1 (st1 (st1 (st1 (st1 (st1 (st1 (st1 (st1 (st1 (st1 p0a 4 x5) 5 x7) 6 x9) 7 x11) 10 x13) 11 x15) 12 x17) 13 x19) 14 x21) 15 x23) 16 x25) 17 x27) 18 x29) 19 x31) (st1 (st1 (st1 (st1 (st1 (st1 (st1 (st1 (st1 (st1 (st1 (st1 (st1 (st1 p0k 4 z6) 5 z8) 6 z10) 7 z12) 10 z14) 11 z16) 12 z18) 13 z20) 14 z22) 15 z24) 16 z26) 17 z28) 18 z30) 19 z32) (o_4.2.2) (o_4.1) o35), (oX1 (p1a 0) p1a p1k p1n p1w p1l)] : List va_W))) (wr := (List.flatten ([(oX9 (p1a 3) p1_2a p1_2k p1_2n p1_2w)] : List va_W))) (w1 := (List.flatten ([(oX2 (p0a 0) (st1 (st1 (st1 (st1 (st1 (st1 (st1 (st1 (st1 (st1 (st1 (st1 (st1 (st1 p0a 4 x5) 5 x7) 6 x9) 7 x11) 10 x13) 11 x15) 12 x17) 13 x19) 14 x21) 15 x23) 16 x25) 17 x27) 18 x29) 19 x31) (st1 (st1 (st1 (st1 (st1 (st1 (st1 (st1 (st1 (st1 (st1 (st1 (st1 (st1 p0k 4 z6) 5 z8) 6 z10) 7 z12) 10 z14) 11 z16) 12 z18) 13 z20) 14 z22) 15 z24) 16 z26) 17 z28) 18 z30) 19 z32) (o_4.2.2) (o_4.1) o_36), (oX1 (p1a 0) p1a p1k p1n p1w p1l)] : List va_W))) (t1 := (List.flatten ([(tX2 (st1 (st1 (st1 (st1 (st1 (st1 (st1 (st1 (st1 (st1 (st1 (st1 (st1 (st1 p0k 4 z6) 5 z8) 6 z10) 7 z12) 10 z14) 11 z16) 12 z18) 13 z20) 14 z22) 15 z24) 16 z26) 17 z28) 18 z30) 19 z32)), (tX1 p1k)] : List (List (ClassId × FieldType))))) hPx hDx hKx hk1 hFc b1 (va_K.moved hvm.symm b2) b3
  have hP : va_P (dC, dI) cls (List.flatten ([(oX2 (p0a 0) (st1 (st1 (st1 (st1 (st1 (st1 (st1 (st1 (st1 (st1 (st1 (st1 (st1 (st1 p0a 4 x5) 5 x7) 6 x9) 7 x11) 10 x13) 11 x15) 12 x17) 13 x19) 14 x21) 15 x23) 16 x25) 17 x27) 18 x29) 19 x31) (st1 (st1 (st1 (st1 (st1 (st1 (st1 (st1 (st1 (st1 (st1 (st1 (st1 (st1 p0k 4 z6) 5 z8) 6 z10) 7 z12) 10 z14) 11 z16) 12 z18) 13 z20) 14 z22) 15 z24) 16 z26) 17 z28) 18 z30) 19 z32) (o_4.2.2) (o_4.1) o_36), (oX1 (p1a 0) p1a p1k p1n p1w p1l), (oX9 (p1a 3) p1_2a p1_2k p1_2n p1_2w)] : List va_W)) H := vP_perm (vP_fb hP) (bP (List.Perm.refl _))
  have hD : va_D A (List.flatten ([(oX2 (p0a 0) (st1 (st1 (st1 (st1 (st1 (st1 (st1 (st1 (st1 (st1 (st1 (st1 (st1 (st1 p0a 4 x5) 5 x7) 6 x9) 7 x11) 10 x13) 11 x15) 12 x17) 13 x19) 14 x21) 15 x23) 16 x25) 17 x27) 18 x29) 19 x31) (st1 (st1 (st1 (st1 (st1 (st1 (st1 (st1 (st1 (st1 (st1 (st1 (st1 (st1 p0k 4 z6) 5 z8) 6 z10) 7 z12) 10 z14) 11 z16) 12 z18) 13 z20) 14 z22) 15 z24) 16 z26) 17 z28) 18 z30) 19 z32) (o_4.2.2) (o_4.1) o_36), (oX1 (p1a 0) p1a p1k p1n p1w p1l), (oX9 (p1a 3) p1_2a p1_2k p1_2n p1_2w)] : List va_W)) := vD_perm (vD_fb hD) (bP (List.Perm.refl _))
  have hK : va_K (dC, dI) cls (List.flatten ([(tX2 (st1 (st1 (st1 (st1 (st1 (st1 (st1 (st1 (st1 (st1 (st1 (st1 (st1 (st1 p0k 4 z6) 5 z8) 6 z10) 7 z12) 10 z14) 11 z16) 12 z18) 13 z20) 14 z22) 15 z24) 16 z26) 17 z28) 18 z30) 19 z32)), (tX1 p1k), (tX9 p1_2k)] : List (List (ClassId × FieldType)))) s := vK_perm (vK_fb hK) (bP (List.Perm.refl _))
  refine lv_aload_n hx hb dX2_reckon_62 rfl (lv_at hl 0 rfl) ?_
  refine va_get (D := (dC, dI)) (ci := 9) (v := .ref x15) (C := RX2) (T := TX2) (N := 19) hx hb hts i_X2 hown hK hP 0 rfl rfl 10 (by decide) (hts _ qw681) (fun _ h9 => h9) rfl dX2_reckon_63 ?_
  refine lv_iconst (v := 0) hx hb dX2_reckon_66 (by decide) ?_
  refine lv_aload_n hx hb dX2_reckon_67 rfl (lv_at hl 0 rfl) ?_
  refine va_get (D := (dC, dI)) (ci := 9) (v := .int ((o_4.1) 0 1)) (C := RX2) (T := TX2) (N := 19) hx hb hts i_X2 hown hK hP 0 rfl rfl 1 (by decide) (hts _ qw668) (fun _ h9 => h9) rfl dX2_reckon_68 ?_
  refine lv_aload_n hx hb dX2_reckon_71 rfl (lv_at hl 0 rfl) ?_
  refine va_get (D := (dC, dI)) (ci := 9) (v := .int ((o_4.1) 0 2)) (C := RX2) (T := TX2) (N := 19) hx hb hts i_X2 hown hK hP 0 rfl rfl 2 (by decide) (hts _ qw669) (fun _ h9 => h9) rfl dX2_reckon_72 ?_
  refine lv_imul hx hb dX2_reckon_75 ?_
  refine lv_lconst (v := 0) hx hb dX2_reckon_76 (by decide) ?_
  obtain ⟨o_37, hc_37, hrun⟩ := bnd9 hrun
  have hP2 : va_P (dC, dI) cls (List.flatten ([[(x15, .inl (z16, ((o_4.2.2) 11), .inr (.inl (o_36 11))))], [((p0a 0), .inr (9, [.int ((o_4.1) 0 0), .int ((o_4.1) 0 1), .int ((o_4.1) 0 2), .ref x5, .ref x7, .ref x9, .ref x11, .ref (p0a 8), .int ((o_4.1) 0 8), .ref x13, .ref x15, .ref x17, .ref x19, .ref x21, .ref x23, .ref x25, .ref x27, .ref x29, .ref x31])), (x5, .inl (z6, ((o_4.2.2) 4), .inr (.inl (o_36 4)))), (x7, .inl (z8, ((o_4.2.2) 5), .inr (.inl (o_36 5)))), (x9, .inl (z10, ((o_4.2.2) 6), .inr (.inl (o_36 6)))), (x11, .inl (z12, ((o_4.2.2) 7), .inr (.inl (o_36 7)))), ((p0a 8), .inl ((p0k 8), 2, .inl ((o_4.1) 8))), (x13, .inl (z14, ((o_4.2.2) 10), .inl ((o_4.1) 10))), (x17, .inl (z18, ((o_4.2.2) 12), .inl ((o_4.1) 12))), (x19, .inl (z20, ((o_4.2.2) 13), .inl ((o_4.1) 13))), (x21, .inl (z22, ((o_4.2.2) 14), .inr (.inl (o_36 14)))), (x23, .inl (z24, ((o_4.2.2) 15), .inl ((o_4.1) 15))), (x25, .inl (z26, ((o_4.2.2) 16), .inl ((o_4.1) 16))), (x27, .inl (z28, ((o_4.2.2) 17), .inl ((o_4.1) 17))), (x29, .inl (z30, ((o_4.2.2) 18), .inl ((o_4.1) 18))), (x31, .inl (z32, ((o_4.2.2) 19), .inl ((o_4.1) 19)))], (oX1 (p1a 0) p1a p1k p1n p1w p1l), (oX9 (p1a 3) p1_2a p1_2k p1_2n p1_2w)] : List va_W)) H := vP_perm hP ((bP (List.Perm.refl _)).trans (List.Perm.append_right _ (List.perm_middle (a := ((x15, .inl (z16, ((o_4.2.2) 11), .inr (.inl (o_36 11)))) : Nat × va_E)) (l₁ := ([((p0a 0), .inr (9, [.int ((o_4.1) 0 0), .int ((o_4.1) 0 1), .int ((o_4.1) 0 2), .ref x5, .ref x7, .ref x9, .ref x11, .ref (p0a 8), .int ((o_4.1) 0 8), .ref x13, .ref x15, .ref x17, .ref x19, .ref x21, .ref x23, .ref x25, .ref x27, .ref x29, .ref x31])), (x5, .inl (z6, ((o_4.2.2) 4), .inr (.inl (o_36 4)))), (x7, .inl (z8, ((o_4.2.2) 5), .inr (.inl (o_36 5)))), (x9, .inl (z10, ((o_4.2.2) 6), .inr (.inl (o_36 6)))), (x11, .inl (z12, ((o_4.2.2) 7), .inr (.inl (o_36 7)))), ((p0a 8), .inl ((p0k 8), 2, .inl ((o_4.1) 8))), (x13, .inl (z14, ((o_4.2.2) 10), .inl ((o_4.1) 10)))] : va_W)) (l₂ := ([(x17, .inl (z18, ((o_4.2.2) 12), .inl ((o_4.1) 12))), (x19, .inl (z20, ((o_4.2.2) 13), .inl ((o_4.1) 13))), (x21, .inl (z22, ((o_4.2.2) 14), .inr (.inl (o_36 14)))), (x23, .inl (z24, ((o_4.2.2) 15), .inl ((o_4.1) 15))), (x25, .inl (z26, ((o_4.2.2) 16), .inl ((o_4.1) 16))), (x27, .inl (z28, ((o_4.2.2) 17), .inl ((o_4.1) 17))), (x29, .inl (z30, ((o_4.2.2) 18), .inl ((o_4.1) 18))), (x31, .inl (z32, ((o_4.2.2) 19), .inl ((o_4.1) 19)))] : va_W)))))
  have hD2 : va_D A (List.flatten ([[(x15, .inl (z16, ((o_4.2.2) 11), .inr (.inl (o_36 11))))], [((p0a 0), .inr (9, [.int ((o_4.1) 0 0), .int ((o_4.1) 0 1), .int ((o_4.1) 0 2), .ref x5, .ref x7, .ref x9, .ref x11, .ref (p0a 8), .int ((o_4.1) 0 8), .ref x13, .ref x15, .ref x17, .ref x19, .ref x21, .ref x23, .ref x25, .ref x27, .ref x29, .ref x31])), (x5, .inl (z6, ((o_4.2.2) 4), .inr (.inl (o_36 4)))), (x7, .inl (z8, ((o_4.2.2) 5), .inr (.inl (o_36 5)))), (x9, .inl (z10, ((o_4.2.2) 6), .inr (.inl (o_36 6)))), (x11, .inl (z12, ((o_4.2.2) 7), .inr (.inl (o_36 7)))), ((p0a 8), .inl ((p0k 8), 2, .inl ((o_4.1) 8))), (x13, .inl (z14, ((o_4.2.2) 10), .inl ((o_4.1) 10))), (x17, .inl (z18, ((o_4.2.2) 12), .inl ((o_4.1) 12))), (x19, .inl (z20, ((o_4.2.2) 13), .inl ((o_4.1) 13))), (x21, .inl (z22, ((o_4.2.2) 14), .inr (.inl (o_36 14)))), (x23, .inl (z24, ((o_4.2.2) 15), .inl ((o_4.1) 15))), (x25, .inl (z26, ((o_4.2.2) 16), .inl ((o_4.1) 16))), (x27, .inl (z28, ((o_4.2.2) 17), .inl ((o_4.1) 17))), (x29, .inl (z30, ((o_4.2.2) 18), .inl ((o_4.1) 18))), (x31, .inl (z32, ((o_4.2.2) 19), .inl ((o_4.1) 19)))], (oX1 (p1a 0) p1a p1k p1n p1w p1l), (oX9 (p1a 3) p1_2a p1_2k p1_2n p1_2w)] : List va_W)) := vD_perm hD ((bP (List.Perm.refl _)).trans (List.Perm.append_right _ (List.perm_middle (a := ((x15, .inl (z16, ((o_4.2.2) 11), .inr (.inl (o_36 11)))) : Nat × va_E)) (l₁ := ([((p0a 0), .inr (9, [.int ((o_4.1) 0 0), .int ((o_4.1) 0 1), .int ((o_4.1) 0 2), .ref x5, .ref x7, .ref x9, .ref x11, .ref (p0a 8), .int ((o_4.1) 0 8), .ref x13, .ref x15, .ref x17, .ref x19, .ref x21, .ref x23, .ref x25, .ref x27, .ref x29, .ref x31])), (x5, .inl (z6, ((o_4.2.2) 4), .inr (.inl (o_36 4)))), (x7, .inl (z8, ((o_4.2.2) 5), .inr (.inl (o_36 5)))), (x9, .inl (z10, ((o_4.2.2) 6), .inr (.inl (o_36 6)))), (x11, .inl (z12, ((o_4.2.2) 7), .inr (.inl (o_36 7)))), ((p0a 8), .inl ((p0k 8), 2, .inl ((o_4.1) 8))), (x13, .inl (z14, ((o_4.2.2) 10), .inl ((o_4.1) 10)))] : va_W)) (l₂ := ([(x17, .inl (z18, ((o_4.2.2) 12), .inl ((o_4.1) 12))), (x19, .inl (z20, ((o_4.2.2) 13), .inl ((o_4.1) 13))), (x21, .inl (z22, ((o_4.2.2) 14), .inr (.inl (o_36 14)))), (x23, .inl (z24, ((o_4.2.2) 15), .inl ((o_4.1) 15))), (x25, .inl (z26, ((o_4.2.2) 16), .inl ((o_4.1) 16))), (x27, .inl (z28, ((o_4.2.2) 17), .inl ((o_4.1) 17))), (x29, .inl (z30, ((o_4.2.2) 18), .inl ((o_4.1) 18))), (x31, .inl (z32, ((o_4.2.2) 19), .inl ((o_4.1) 19)))] : va_W)))))
  have hK2 : va_K (dC, dI) cls (List.flatten ([[(z16, .long)], [(z6, .long), (z8, .long), (z10, .long), (z12, .long), ((p0k 8), .int), (z14, .int), (z18, .int), (z20, .int), (z22, .long), (z24, .int), (z26, .int), (z28, .int), (z30, .int), (z32, .int)], (tX1 p1k), (tX9 p1_2k)] : List (List (ClassId × FieldType)))) s := vK_perm hK ((bP (List.Perm.refl _)).trans (List.Perm.append_right _ (List.perm_middle (a := ((z16, .long) : ClassId × FieldType)) (l₁ := ([(z6, .long), (z8, .long), (z10, .long), (z12, .long), ((p0k 8), .int), (z14, .int)] : List (ClassId × FieldType))) (l₂ := ([(z18, .int), (z20, .int), (z22, .long), (z24, .int), (z26, .int), (z28, .int), (z30, .int), (z32, .int)] : List (ClassId × FieldType))))))
  have hPx : va_P (dC, dI) cls ((List.flatten ([[(x15, .inl (z16, ((o_4.2.2) 11), .inr (.inl (o_36 11))))]] : List va_W)) ++ (List.flatten ([[((p0a 0), .inr (9, [.int ((o_4.1) 0 0), .int ((o_4.1) 0 1), .int ((o_4.1) 0 2), .ref x5, .ref x7, .ref x9, .ref x11, .ref (p0a 8), .int ((o_4.1) 0 8), .ref x13, .ref x15, .ref x17, .ref x19, .ref x21, .ref x23, .ref x25, .ref x27, .ref x29, .ref x31])), (x5, .inl (z6, ((o_4.2.2) 4), .inr (.inl (o_36 4)))), (x7, .inl (z8, ((o_4.2.2) 5), .inr (.inl (o_36 5)))), (x9, .inl (z10, ((o_4.2.2) 6), .inr (.inl (o_36 6)))), (x11, .inl (z12, ((o_4.2.2) 7), .inr (.inl (o_36 7)))), ((p0a 8), .inl ((p0k 8), 2, .inl ((o_4.1) 8))), (x13, .inl (z14, ((o_4.2.2) 10), .inl ((o_4.1) 10))), (x17, .inl (z18, ((o_4.2.2) 12), .inl ((o_4.1) 12))), (x19, .inl (z20, ((o_4.2.2) 13), .inl ((o_4.1) 13))), (x21, .inl (z22, ((o_4.2.2) 14), .inr (.inl (o_36 14)))), (x23, .inl (z24, ((o_4.2.2) 15), .inl ((o_4.1) 15))), (x25, .inl (z26, ((o_4.2.2) 16), .inl ((o_4.1) 16))), (x27, .inl (z28, ((o_4.2.2) 17), .inl ((o_4.1) 17))), (x29, .inl (z30, ((o_4.2.2) 18), .inl ((o_4.1) 18))), (x31, .inl (z32, ((o_4.2.2) 19), .inl ((o_4.1) 19)))], (oX1 (p1a 0) p1a p1k p1n p1w p1l), (oX9 (p1a 3) p1_2a p1_2k p1_2n p1_2w)] : List va_W))) H := vP_fa (vP_perm hP2 (bP (List.Perm.refl _)))
  have hDx : va_D A ((List.flatten ([[(x15, .inl (z16, ((o_4.2.2) 11), .inr (.inl (o_36 11))))]] : List va_W)) ++ (List.flatten ([[((p0a 0), .inr (9, [.int ((o_4.1) 0 0), .int ((o_4.1) 0 1), .int ((o_4.1) 0 2), .ref x5, .ref x7, .ref x9, .ref x11, .ref (p0a 8), .int ((o_4.1) 0 8), .ref x13, .ref x15, .ref x17, .ref x19, .ref x21, .ref x23, .ref x25, .ref x27, .ref x29, .ref x31])), (x5, .inl (z6, ((o_4.2.2) 4), .inr (.inl (o_36 4)))), (x7, .inl (z8, ((o_4.2.2) 5), .inr (.inl (o_36 5)))), (x9, .inl (z10, ((o_4.2.2) 6), .inr (.inl (o_36 6)))), (x11, .inl (z12, ((o_4.2.2) 7), .inr (.inl (o_36 7)))), ((p0a 8), .inl ((p0k 8), 2, .inl ((o_4.1) 8))), (x13, .inl (z14, ((o_4.2.2) 10), .inl ((o_4.1) 10))), (x17, .inl (z18, ((o_4.2.2) 12), .inl ((o_4.1) 12))), (x19, .inl (z20, ((o_4.2.2) 13), .inl ((o_4.1) 13))), (x21, .inl (z22, ((o_4.2.2) 14), .inr (.inl (o_36 14)))), (x23, .inl (z24, ((o_4.2.2) 15), .inl ((o_4.1) 15))), (x25, .inl (z26, ((o_4.2.2) 16), .inl ((o_4.1) 16))), (x27, .inl (z28, ((o_4.2.2) 17), .inl ((o_4.1) 17))), (x29, .inl (z30, ((o_4.2.2) 18), .inl ((o_4.1) 18))), (x31, .inl (z32, ((o_4.2.2) 19), .inl ((o_4.1) 19)))], (oX1 (p1a 0) p1a p1k p1n p1w p1l), (oX9 (p1a 3) p1_2a p1_2k p1_2n p1_2w)] : List va_W))) := vD_fa (vD_perm hD2 (bP (List.Perm.refl _)))
  have hKx : va_K (dC, dI) cls ((List.flatten ([[(z16, .long)]] : List (List (ClassId × FieldType)))) ++ (List.flatten ([[(z6, .long), (z8, .long), (z10, .long), (z12, .long), ((p0k 8), .int), (z14, .int), (z18, .int), (z20, .int), (z22, .long), (z24, .int), (z26, .int), (z28, .int), (z30, .int), (z32, .int)], (tX1 p1k), (tX9 p1_2k)] : List (List (ClassId × FieldType))))) s := vK_fa (vK_perm hK2 (bP (List.Perm.refl _)))
  have hPc := vP_l hPx
  have hDc := vD_l hDx
  have hKc := vK_l hKx
  have hFc := vfree hDx hS hA
  refine va_callv (va_runS (As := [.ref x15, .int 0, .int (((o_4.1) 0 1) * ((o_4.1) 0 2)), .long 0]) (rest := []) ⟨hx, hb, hml, hown, hts⟩ (kJ7_fill_bad5a l dC dI (p0a := x15) (p0k := z16) (p0n := ((o_4.2.2) 11)) (p0f := (o_36 11)) (p1 := 0) (p2 := (((o_4.1) 0 1) * ((o_4.1) 0 2))) (p3 := 0) (sz := _) (o := o_37) (hrun := hc_37)) (va_cwS 4 hts (gi_S qw696 qw697 qw109 (gi_z qw695)) rfl rfl rfl (by decide +kernel) ⟨Nat.le_of_ble_eq_true rfl, Nat.le_of_ble_eq_true rfl⟩) ⟨PRE.blind, PRE.of hE hS hFc hPc hKc hDc⟩ rfl rfl hl.1 rfl (lv_room (Nat.le_of_ble_eq_true rfl)) dX2_reckon_77 ⟨(show (hcX2 p0n (o_4.2.2)) + 0 ≤ (hcX2 p0n (o.2.2)) from by have q0 := gmX2 hg_p0 hgn_p0; omega), (show (3 * (gcX2 p0n (o_4.2.2))) + 0 ≤ (3 * (gcX2 p0n (o.2.2))) from by have q0 := gmX2 hg_p0 hgn_p0; omega)⟩) hS (fun q _ h => hFc q h) hFc (fun u t H locs ht hvm hw hB hz1 hk1 hS => ?_)
  obtain ⟨b1, b2, b3⟩ := hB
  rw [ht] at b1
  obtain ⟨hP, hD, hK⟩ := JOINC (wc := (List.flatten ([[(x15, .inl (z16, ((o_4.2.2) 11), .inr (.inl (o_36 11))))]] : List va_W))) (wr := (List.flatten ([[((p0a 0), .inr (9, [.int ((o_4.1) 0 0), .int ((o_4.1) 0 1), .int ((o_4.1) 0 2), .ref x5, .ref x7, .ref x9, .ref x11, .ref (p0a 8), .int ((o_4.1) 0 8), .ref x13, .ref x15, .ref x17, .ref x19, .ref x21, .ref x23, .ref x25, .ref x27, .ref x29, .ref x31])), (x5, .inl (z6, ((o_4.2.2) 4), .inr (.inl (o_36 4)))), (x7, .inl (z8, ((o_4.2.2) 5), .inr (.inl (o_36 5)))), (x9, .inl (z10, ((o_4.2.2) 6), .inr (.inl (o_36 6)))), (x11, .inl (z12, ((o_4.2.2) 7), .inr (.inl (o_36 7)))), ((p0a 8), .inl ((p0k 8), 2, .inl ((o_4.1) 8))), (x13, .inl (z14, ((o_4.2.2) 10), .inl ((o_4.1) 10))), (x17, .inl (z18, ((o_4.2.2) 12), .inl ((o_4.1) 12))), (x19, .inl (z20, ((o_4.2.2) 13), .inl ((o_4.1) 13))), (x21, .inl (z22, ((o_4.2.2) 14), .inr (.inl (o_36 14)))), (x23, .inl (z24, ((o_4.2.2) 15), .inl ((o_4.1) 15))), (x25, .inl (z26, ((o_4.2.2) 16), .inl ((o_4.1) 16))), (x27, .inl (z28, ((o_4.2.2) 17), .inl ((o_4.1) 17))), (x29, .inl (z30, ((o_4.2.2) 18), .inl ((o_4.1) 18))), (x31, .inl (z32, ((o_4.2.2) 19), .inl ((o_4.1) 19)))], (oX1 (p1a 0) p1a p1k p1n p1w p1l), (oX9 (p1a 3) p1_2a p1_2k p1_2n p1_2w)] : List va_W))) (w1 := (List.flatten ([[(x15, .inl (z16, ((o_4.2.2) 11), .inr (.inl ((srl o_36 11 o_37) 11))))]] : List va_W))) (t1 := (List.flatten ([[(z16, .long)]] : List (List (ClassId × FieldType))))) hPx hDx hKx hk1 hFc b1 (va_K.moved hvm.symm b2) b3
  have hP3 : va_P (dC, dI) cls (List.flatten ([(oX2 (p0a 0) (st1 (st1 (st1 (st1 (st1 (st1 (st1 (st1 (st1 (st1 (st1 (st1 (st1 (st1 p0a 4 x5) 5 x7) 6 x9) 7 x11) 10 x13) 11 x15) 12 x17) 13 x19) 14 x21) 15 x23) 16 x25) 17 x27) 18 x29) 19 x31) (st1 (st1 (st1 (st1 (st1 (st1 (st1 (st1 (st1 (st1 (st1 (st1 (st1 (st1 p0k 4 z6) 5 z8) 6 z10) 7 z12) 10 z14) 11 z16) 12 z18) 13 z20) 14 z22) 15 z24) 16 z26) 17 z28) 18 z30) 19 z32) (o_4.2.2) (o_4.1) (srl o_36 11 o_37)), (oX1 (p1a 0) p1a p1k p1n p1w p1l), (oX9 (p1a 3) p1_2a p1_2k p1_2n p1_2w)] : List va_W)) H := vP_perm (vP_fb hP) ((bP (List.Perm.refl _)).trans (List.Perm.append_right _ (List.perm_middle (a := ((x15, .inl (z16, ((o_4.2.2) 11), .inr (.inl ((srl o_36 11 o_37) 11)))) : Nat × va_E)) (l₁ := ([((p0a 0), .inr (9, [.int ((o_4.1) 0 0), .int ((o_4.1) 0 1), .int ((o_4.1) 0 2), .ref x5, .ref x7, .ref x9, .ref x11, .ref (p0a 8), .int ((o_4.1) 0 8), .ref x13, .ref x15, .ref x17, .ref x19, .ref x21, .ref x23, .ref x25, .ref x27, .ref x29, .ref x31])), (x5, .inl (z6, ((o_4.2.2) 4), .inr (.inl ((srl o_36 11 o_37) 4)))), (x7, .inl (z8, ((o_4.2.2) 5), .inr (.inl ((srl o_36 11 o_37) 5)))), (x9, .inl (z10, ((o_4.2.2) 6), .inr (.inl ((srl o_36 11 o_37) 6)))), (x11, .inl (z12, ((o_4.2.2) 7), .inr (.inl ((srl o_36 11 o_37) 7)))), ((p0a 8), .inl ((p0k 8), 2, .inl ((o_4.1) 8))), (x13, .inl (z14, ((o_4.2.2) 10), .inl ((o_4.1) 10)))] : va_W)) (l₂ := ([(x17, .inl (z18, ((o_4.2.2) 12), .inl ((o_4.1) 12))), (x19, .inl (z20, ((o_4.2.2) 13), .inl ((o_4.1) 13))), (x21, .inl (z22, ((o_4.2.2) 14), .inr (.inl ((srl o_36 11 o_37) 14)))), (x23, .inl (z24, ((o_4.2.2) 15), .inl ((o_4.1) 15))), (x25, .inl (z26, ((o_4.2.2) 16), .inl ((o_4.1) 16))), (x27, .inl (z28, ((o_4.2.2) 17), .inl ((o_4.1) 17))), (x29, .inl (z30, ((o_4.2.2) 18), .inl ((o_4.1) 18))), (x31, .inl (z32, ((o_4.2.2) 19), .inl ((o_4.1) 19)))] : va_W))).symm))
  have hD3 : va_D A (List.flatten ([(oX2 (p0a 0) (st1 (st1 (st1 (st1 (st1 (st1 (st1 (st1 (st1 (st1 (st1 (st1 (st1 (st1 p0a 4 x5) 5 x7) 6 x9) 7 x11) 10 x13) 11 x15) 12 x17) 13 x19) 14 x21) 15 x23) 16 x25) 17 x27) 18 x29) 19 x31) (st1 (st1 (st1 (st1 (st1 (st1 (st1 (st1 (st1 (st1 (st1 (st1 (st1 (st1 p0k 4 z6) 5 z8) 6 z10) 7 z12) 10 z14) 11 z16) 12 z18) 13 z20) 14 z22) 15 z24) 16 z26) 17 z28) 18 z30) 19 z32) (o_4.2.2) (o_4.1) (srl o_36 11 o_37)), (oX1 (p1a 0) p1a p1k p1n p1w p1l), (oX9 (p1a 3) p1_2a p1_2k p1_2n p1_2w)] : List va_W)) := vD_perm (vD_fb hD) ((bP (List.Perm.refl _)).trans (List.Perm.append_right _ (List.perm_middle (a := ((x15, .inl (z16, ((o_4.2.2) 11), .inr (.inl ((srl o_36 11 o_37) 11)))) : Nat × va_E)) (l₁ := ([((p0a 0), .inr (9, [.int ((o_4.1) 0 0), .int ((o_4.1) 0 1), .int ((o_4.1) 0 2), .ref x5, .ref x7, .ref x9, .ref x11, .ref (p0a 8), .int ((o_4.1) 0 8), .ref x13, .ref x15, .ref x17, .ref x19, .ref x21, .ref x23, .ref x25, .ref x27, .ref x29, .ref x31])), (x5, .inl (z6, ((o_4.2.2) 4), .inr (.inl ((srl o_36 11 o_37) 4)))), (x7, .inl (z8, ((o_4.2.2) 5), .inr (.inl ((srl o_36 11 o_37) 5)))), (x9, .inl (z10, ((o_4.2.2) 6), .inr (.inl ((srl o_36 11 o_37) 6)))), (x11, .inl (z12, ((o_4.2.2) 7), .inr (.inl ((srl o_36 11 o_37) 7)))), ((p0a 8), .inl ((p0k 8), 2, .inl ((o_4.1) 8))), (x13, .inl (z14, ((o_4.2.2) 10), .inl ((o_4.1) 10)))] : va_W)) (l₂ := ([(x17, .inl (z18, ((o_4.2.2) 12), .inl ((o_4.1) 12))), (x19, .inl (z20, ((o_4.2.2) 13), .inl ((o_4.1) 13))), (x21, .inl (z22, ((o_4.2.2) 14), .inr (.inl ((srl o_36 11 o_37) 14)))), (x23, .inl (z24, ((o_4.2.2) 15), .inl ((o_4.1) 15))), (x25, .inl (z26, ((o_4.2.2) 16), .inl ((o_4.1) 16))), (x27, .inl (z28, ((o_4.2.2) 17), .inl ((o_4.1) 17))), (x29, .inl (z30, ((o_4.2.2) 18), .inl ((o_4.1) 18))), (x31, .inl (z32, ((o_4.2.2) 19), .inl ((o_4.1) 19)))] : va_W))).symm))
  have hK3 : va_K (dC, dI) cls (List.flatten ([(tX2 (st1 (st1 (st1 (st1 (st1 (st1 (st1 (st1 (st1 (st1 (st1 (st1 (st1 (st1 p0k 4 z6) 5 z8) 6 z10) 7 z12) 10 z14) 11 z16) 12 z18) 13 z20) 14 z22) 15 z24) 16 z26) 17 z28) 18 z30) 19 z32)), (tX1 p1k), (tX9 p1_2k)] : List (List (ClassId × FieldType)))) s := vK_perm (vK_fb hK) ((bP (List.Perm.refl _)).trans (List.Perm.append_right _ (List.perm_middle (a := ((z16, .long) : ClassId × FieldType)) (l₁ := ([(z6, .long), (z8, .long), (z10, .long), (z12, .long), ((p0k 8), .int), (z14, .int)] : List (ClassId × FieldType))) (l₂ := ([(z18, .int), (z20, .int), (z22, .long), (z24, .int), (z26, .int), (z28, .int), (z30, .int), (z32, .int)] : List (ClassId × FieldType)))).symm))
  have hP : va_P (dC, dI) cls (List.flatten ([(oX2 (p0a 0) (st1 (st1 (st1 (st1 (st1 (st1 (st1 (st1 (st1 (st1 (st1 (st1 (st1 (st1 p0a 4 x5) 5 x7) 6 x9) 7 x11) 10 x13) 11 x15) 12 x17) 13 x19) 14 x21) 15 x23) 16 x25) 17 x27) 18 x29) 19 x31) (st1 (st1 (st1 (st1 (st1 (st1 (st1 (st1 (st1 (st1 (st1 (st1 (st1 (st1 p0k 4 z6) 5 z8) 6 z10) 7 z12) 10 z14) 11 z16) 12 z18) 13 z20) 14 z22) 15 z24) 16 z26) 17 z28) 18 z30) 19 z32) (o_4.2.2) (o_4.1) (srl o_36 11 o_37)), (oX1 (p1a 0) p1a p1k p1n p1w p1l), (oX9 (p1a 3) p1_2a p1_2k p1_2n p1_2w)] : List va_W)) H := vP_perm hP3 (bP (List.Perm.refl _))
  have hD : va_D A (List.flatten ([(oX2 (p0a 0) (st1 (st1 (st1 (st1 (st1 (st1 (st1 (st1 (st1 (st1 (st1 (st1 (st1 (st1 p0a 4 x5) 5 x7) 6 x9) 7 x11) 10 x13) 11 x15) 12 x17) 13 x19) 14 x21) 15 x23) 16 x25) 17 x27) 18 x29) 19 x31) (st1 (st1 (st1 (st1 (st1 (st1 (st1 (st1 (st1 (st1 (st1 (st1 (st1 (st1 p0k 4 z6) 5 z8) 6 z10) 7 z12) 10 z14) 11 z16) 12 z18) 13 z20) 14 z22) 15 z24) 16 z26) 17 z28) 18 z30) 19 z32) (o_4.2.2) (o_4.1) (srl o_36 11 o_37)), (oX1 (p1a 0) p1a p1k p1n p1w p1l), (oX9 (p1a 3) p1_2a p1_2k p1_2n p1_2w)] : List va_W)) := vD_perm hD3 (bP (List.Perm.refl _))
  have hK : va_K (dC, dI) cls (List.flatten ([(tX2 (st1 (st1 (st1 (st1 (st1 (st1 (st1 (st1 (st1 (st1 (st1 (st1 (st1 (st1 p0k 4 z6) 5 z8) 6 z10) 7 z12) 10 z14) 11 z16) 12 z18) 13 z20) 14 z22) 15 z24) 16 z26) 17 z28) 18 z30) 19 z32)), (tX1 p1k), (tX9 p1_2k)] : List (List (ClassId × FieldType)))) s := vK_perm hK3 (bP (List.Perm.refl _))
  refine lv_aload_n hx hb dX2_reckon_80 rfl (lv_at hl 0 rfl) ?_
  refine va_get (D := (dC, dI)) (ci := 9) (v := .ref x17) (C := RX2) (T := TX2) (N := 19) hx hb hts i_X2 hown hK hP 0 rfl rfl 11 (by decide) (hts _ qw682) (fun _ h9 => h9) rfl dX2_reckon_81 ?_
  refine lv_iconst (v := 0) hx hb dX2_reckon_84 (by decide) ?_
  refine lv_aload_n hx hb dX2_reckon_85 rfl (lv_at hl 0 rfl) ?_
  refine va_get (D := (dC, dI)) (ci := 9) (v := .int ((o_4.1) 0 1)) (C := RX2) (T := TX2) (N := 19) hx hb hts i_X2 hown hK hP 0 rfl rfl 1 (by decide) (hts _ qw668) (fun _ h9 => h9) rfl dX2_reckon_86 ?_
  refine lv_iconst (v := (-1)) hx hb dX2_reckon_89 (by decide) ?_
  obtain ⟨o_38, hc_38, hrun⟩ := bnd9 hrun
  have hP2 : va_P (dC, dI) cls (List.flatten ([[(x17, .inl (z18, ((o_4.2.2) 12), .inl ((o_4.1) 12)))], [((p0a 0), .inr (9, [.int ((o_4.1) 0 0), .int ((o_4.1) 0 1), .int ((o_4.1) 0 2), .ref x5, .ref x7, .ref x9, .ref x11, .ref (p0a 8), .int ((o_4.1) 0 8), .ref x13, .ref x15, .ref x17, .ref x19, .ref x21, .ref x23, .ref x25, .ref x27, .ref x29, .ref x31])), (x5, .inl (z6, ((o_4.2.2) 4), .inr (.inl ((srl o_36 11 o_37) 4)))), (x7, .inl (z8, ((o_4.2.2) 5), .inr (.inl ((srl o_36 11 o_37) 5)))), (x9, .inl (z10, ((o_4.2.2) 6), .inr (.inl ((srl o_36 11 o_37) 6)))), (x11, .inl (z12, ((o_4.2.2) 7), .inr (.inl ((srl o_36 11 o_37) 7)))), ((p0a 8), .inl ((p0k 8), 2, .inl ((o_4.1) 8))), (x13, .inl (z14, ((o_4.2.2) 10), .inl ((o_4.1) 10))), (x15, .inl (z16, ((o_4.2.2) 11), .inr (.inl ((srl o_36 11 o_37) 11)))), (x19, .inl (z20, ((o_4.2.2) 13), .inl ((o_4.1) 13))), (x21, .inl (z22, ((o_4.2.2) 14), .inr (.inl ((srl o_36 11 o_37) 14)))), (x23, .inl (z24, ((o_4.2.2) 15), .inl ((o_4.1) 15))), (x25, .inl (z26, ((o_4.2.2) 16), .inl ((o_4.1) 16))), (x27, .inl (z28, ((o_4.2.2) 17), .inl ((o_4.1) 17))), (x29, .inl (z30, ((o_4.2.2) 18), .inl ((o_4.1) 18))), (x31, .inl (z32, ((o_4.2.2) 19), .inl ((o_4.1) 19)))], (oX1 (p1a 0) p1a p1k p1n p1w p1l), (oX9 (p1a 3) p1_2a p1_2k p1_2n p1_2w)] : List va_W)) H := vP_perm hP ((bP (List.Perm.refl _)).trans (List.Perm.append_right _ (List.perm_middle (a := ((x17, .inl (z18, ((o_4.2.2) 12), .inl ((o_4.1) 12))) : Nat × va_E)) (l₁ := ([((p0a 0), .inr (9, [.int ((o_4.1) 0 0), .int ((o_4.1) 0 1), .int ((o_4.1) 0 2), .ref x5, .ref x7, .ref x9, .ref x11, .ref (p0a 8), .int ((o_4.1) 0 8), .ref x13, .ref x15, .ref x17, .ref x19, .ref x21, .ref x23, .ref x25, .ref x27, .ref x29, .ref x31])), (x5, .inl (z6, ((o_4.2.2) 4), .inr (.inl ((srl o_36 11 o_37) 4)))), (x7, .inl (z8, ((o_4.2.2) 5), .inr (.inl ((srl o_36 11 o_37) 5)))), (x9, .inl (z10, ((o_4.2.2) 6), .inr (.inl ((srl o_36 11 o_37) 6)))), (x11, .inl (z12, ((o_4.2.2) 7), .inr (.inl ((srl o_36 11 o_37) 7)))), ((p0a 8), .inl ((p0k 8), 2, .inl ((o_4.1) 8))), (x13, .inl (z14, ((o_4.2.2) 10), .inl ((o_4.1) 10))), (x15, .inl (z16, ((o_4.2.2) 11), .inr (.inl ((srl o_36 11 o_37) 11))))] : va_W)) (l₂ := ([(x19, .inl (z20, ((o_4.2.2) 13), .inl ((o_4.1) 13))), (x21, .inl (z22, ((o_4.2.2) 14), .inr (.inl ((srl o_36 11 o_37) 14)))), (x23, .inl (z24, ((o_4.2.2) 15), .inl ((o_4.1) 15))), (x25, .inl (z26, ((o_4.2.2) 16), .inl ((o_4.1) 16))), (x27, .inl (z28, ((o_4.2.2) 17), .inl ((o_4.1) 17))), (x29, .inl (z30, ((o_4.2.2) 18), .inl ((o_4.1) 18))), (x31, .inl (z32, ((o_4.2.2) 19), .inl ((o_4.1) 19)))] : va_W)))))
  have hD2 : va_D A (List.flatten ([[(x17, .inl (z18, ((o_4.2.2) 12), .inl ((o_4.1) 12)))], [((p0a 0), .inr (9, [.int ((o_4.1) 0 0), .int ((o_4.1) 0 1), .int ((o_4.1) 0 2), .ref x5, .ref x7, .ref x9, .ref x11, .ref (p0a 8), .int ((o_4.1) 0 8), .ref x13, .ref x15, .ref x17, .ref x19, .ref x21, .ref x23, .ref x25, .ref x27, .ref x29, .ref x31])), (x5, .inl (z6, ((o_4.2.2) 4), .inr (.inl ((srl o_36 11 o_37) 4)))), (x7, .inl (z8, ((o_4.2.2) 5), .inr (.inl ((srl o_36 11 o_37) 5)))), (x9, .inl (z10, ((o_4.2.2) 6), .inr (.inl ((srl o_36 11 o_37) 6)))), (x11, .inl (z12, ((o_4.2.2) 7), .inr (.inl ((srl o_36 11 o_37) 7)))), ((p0a 8), .inl ((p0k 8), 2, .inl ((o_4.1) 8))), (x13, .inl (z14, ((o_4.2.2) 10), .inl ((o_4.1) 10))), (x15, .inl (z16, ((o_4.2.2) 11), .inr (.inl ((srl o_36 11 o_37) 11)))), (x19, .inl (z20, ((o_4.2.2) 13), .inl ((o_4.1) 13))), (x21, .inl (z22, ((o_4.2.2) 14), .inr (.inl ((srl o_36 11 o_37) 14)))), (x23, .inl (z24, ((o_4.2.2) 15), .inl ((o_4.1) 15))), (x25, .inl (z26, ((o_4.2.2) 16), .inl ((o_4.1) 16))), (x27, .inl (z28, ((o_4.2.2) 17), .inl ((o_4.1) 17))), (x29, .inl (z30, ((o_4.2.2) 18), .inl ((o_4.1) 18))), (x31, .inl (z32, ((o_4.2.2) 19), .inl ((o_4.1) 19)))], (oX1 (p1a 0) p1a p1k p1n p1w p1l), (oX9 (p1a 3) p1_2a p1_2k p1_2n p1_2w)] : List va_W)) := vD_perm hD ((bP (List.Perm.refl _)).trans (List.Perm.append_right _ (List.perm_middle (a := ((x17, .inl (z18, ((o_4.2.2) 12), .inl ((o_4.1) 12))) : Nat × va_E)) (l₁ := ([((p0a 0), .inr (9, [.int ((o_4.1) 0 0), .int ((o_4.1) 0 1), .int ((o_4.1) 0 2), .ref x5, .ref x7, .ref x9, .ref x11, .ref (p0a 8), .int ((o_4.1) 0 8), .ref x13, .ref x15, .ref x17, .ref x19, .ref x21, .ref x23, .ref x25, .ref x27, .ref x29, .ref x31])), (x5, .inl (z6, ((o_4.2.2) 4), .inr (.inl ((srl o_36 11 o_37) 4)))), (x7, .inl (z8, ((o_4.2.2) 5), .inr (.inl ((srl o_36 11 o_37) 5)))), (x9, .inl (z10, ((o_4.2.2) 6), .inr (.inl ((srl o_36 11 o_37) 6)))), (x11, .inl (z12, ((o_4.2.2) 7), .inr (.inl ((srl o_36 11 o_37) 7)))), ((p0a 8), .inl ((p0k 8), 2, .inl ((o_4.1) 8))), (x13, .inl (z14, ((o_4.2.2) 10), .inl ((o_4.1) 10))), (x15, .inl (z16, ((o_4.2.2) 11), .inr (.inl ((srl o_36 11 o_37) 11))))] : va_W)) (l₂ := ([(x19, .inl (z20, ((o_4.2.2) 13), .inl ((o_4.1) 13))), (x21, .inl (z22, ((o_4.2.2) 14), .inr (.inl ((srl o_36 11 o_37) 14)))), (x23, .inl (z24, ((o_4.2.2) 15), .inl ((o_4.1) 15))), (x25, .inl (z26, ((o_4.2.2) 16), .inl ((o_4.1) 16))), (x27, .inl (z28, ((o_4.2.2) 17), .inl ((o_4.1) 17))), (x29, .inl (z30, ((o_4.2.2) 18), .inl ((o_4.1) 18))), (x31, .inl (z32, ((o_4.2.2) 19), .inl ((o_4.1) 19)))] : va_W)))))
  have hK2 : va_K (dC, dI) cls (List.flatten ([[(z18, .int)], [(z6, .long), (z8, .long), (z10, .long), (z12, .long), ((p0k 8), .int), (z14, .int), (z16, .long), (z20, .int), (z22, .long), (z24, .int), (z26, .int), (z28, .int), (z30, .int), (z32, .int)], (tX1 p1k), (tX9 p1_2k)] : List (List (ClassId × FieldType)))) s := vK_perm hK ((bP (List.Perm.refl _)).trans (List.Perm.append_right _ (List.perm_middle (a := ((z18, .int) : ClassId × FieldType)) (l₁ := ([(z6, .long), (z8, .long), (z10, .long), (z12, .long), ((p0k 8), .int), (z14, .int), (z16, .long)] : List (ClassId × FieldType))) (l₂ := ([(z20, .int), (z22, .long), (z24, .int), (z26, .int), (z28, .int), (z30, .int), (z32, .int)] : List (ClassId × FieldType))))))
  have hPx : va_P (dC, dI) cls ((List.flatten ([[(x17, .inl (z18, ((o_4.2.2) 12), .inl ((o_4.1) 12)))]] : List va_W)) ++ (List.flatten ([[((p0a 0), .inr (9, [.int ((o_4.1) 0 0), .int ((o_4.1) 0 1), .int ((o_4.1) 0 2), .ref x5, .ref x7, .ref x9, .ref x11, .ref (p0a 8), .int ((o_4.1) 0 8), .ref x13, .ref x15, .ref x17, .ref x19, .ref x21, .ref x23, .ref x25, .ref x27, .ref x29, .ref x31])), (x5, .inl (z6, ((o_4.2.2) 4), .inr (.inl ((srl o_36 11 o_37) 4)))), (x7, .inl (z8, ((o_4.2.2) 5), .inr (.inl ((srl o_36 11 o_37) 5)))), (x9, .inl (z10, ((o_4.2.2) 6), .inr (.inl ((srl o_36 11 o_37) 6)))), (x11, .inl (z12, ((o_4.2.2) 7), .inr (.inl ((srl o_36 11 o_37) 7)))), ((p0a 8), .inl ((p0k 8), 2, .inl ((o_4.1) 8))), (x13, .inl (z14, ((o_4.2.2) 10), .inl ((o_4.1) 10))), (x15, .inl (z16, ((o_4.2.2) 11), .inr (.inl ((srl o_36 11 o_37) 11)))), (x19, .inl (z20, ((o_4.2.2) 13), .inl ((o_4.1) 13))), (x21, .inl (z22, ((o_4.2.2) 14), .inr (.inl ((srl o_36 11 o_37) 14)))), (x23, .inl (z24, ((o_4.2.2) 15), .inl ((o_4.1) 15))), (x25, .inl (z26, ((o_4.2.2) 16), .inl ((o_4.1) 16))), (x27, .inl (z28, ((o_4.2.2) 17), .inl ((o_4.1) 17))), (x29, .inl (z30, ((o_4.2.2) 18), .inl ((o_4.1) 18))), (x31, .inl (z32, ((o_4.2.2) 19), .inl ((o_4.1) 19)))], (oX1 (p1a 0) p1a p1k p1n p1w p1l), (oX9 (p1a 3) p1_2a p1_2k p1_2n p1_2w)] : List va_W))) H := vP_fa (vP_perm hP2 (bP (List.Perm.refl _)))
  have hDx : va_D A ((List.flatten ([[(x17, .inl (z18, ((o_4.2.2) 12), .inl ((o_4.1) 12)))]] : List va_W)) ++ (List.flatten ([[((p0a 0), .inr (9, [.int ((o_4.1) 0 0), .int ((o_4.1) 0 1), .int ((o_4.1) 0 2), .ref x5, .ref x7, .ref x9, .ref x11, .ref (p0a 8), .int ((o_4.1) 0 8), .ref x13, .ref x15, .ref x17, .ref x19, .ref x21, .ref x23, .ref x25, .ref x27, .ref x29, .ref x31])), (x5, .inl (z6, ((o_4.2.2) 4), .inr (.inl ((srl o_36 11 o_37) 4)))), (x7, .inl (z8, ((o_4.2.2) 5), .inr (.inl ((srl o_36 11 o_37) 5)))), (x9, .inl (z10, ((o_4.2.2) 6), .inr (.inl ((srl o_36 11 o_37) 6)))), (x11, .inl (z12, ((o_4.2.2) 7), .inr (.inl ((srl o_36 11 o_37) 7)))), ((p0a 8), .inl ((p0k 8), 2, .inl ((o_4.1) 8))), (x13, .inl (z14, ((o_4.2.2) 10), .inl ((o_4.1) 10))), (x15, .inl (z16, ((o_4.2.2) 11), .inr (.inl ((srl o_36 11 o_37) 11)))), (x19, .inl (z20, ((o_4.2.2) 13), .inl ((o_4.1) 13))), (x21, .inl (z22, ((o_4.2.2) 14), .inr (.inl ((srl o_36 11 o_37) 14)))), (x23, .inl (z24, ((o_4.2.2) 15), .inl ((o_4.1) 15))), (x25, .inl (z26, ((o_4.2.2) 16), .inl ((o_4.1) 16))), (x27, .inl (z28, ((o_4.2.2) 17), .inl ((o_4.1) 17))), (x29, .inl (z30, ((o_4.2.2) 18), .inl ((o_4.1) 18))), (x31, .inl (z32, ((o_4.2.2) 19), .inl ((o_4.1) 19)))], (oX1 (p1a 0) p1a p1k p1n p1w p1l), (oX9 (p1a 3) p1_2a p1_2k p1_2n p1_2w)] : List va_W))) := vD_fa (vD_perm hD2 (bP (List.Perm.refl _)))
  have hKx : va_K (dC, dI) cls ((List.flatten ([[(z18, .int)]] : List (List (ClassId × FieldType)))) ++ (List.flatten ([[(z6, .long), (z8, .long), (z10, .long), (z12, .long), ((p0k 8), .int), (z14, .int), (z16, .long), (z20, .int), (z22, .long), (z24, .int), (z26, .int), (z28, .int), (z30, .int), (z32, .int)], (tX1 p1k), (tX9 p1_2k)] : List (List (ClassId × FieldType))))) s := vK_fa (vK_perm hK2 (bP (List.Perm.refl _)))
  have hPc := vP_l hPx
  have hDc := vD_l hDx
  have hKc := vK_l hKx
  have hFc := vfree hDx hS hA
  refine va_callv (va_runS (As := [.ref x17, .int 0, .int ((o_4.1) 0 1), .int (-1)]) (rest := []) ⟨hx, hb, hml, hown, hts⟩ (kJ7_fill_fda19 l dC dI (p0a := x17) (p0k := z18) (p0n := ((o_4.2.2) 12)) (p0f := ((o_4.1) 12)) (p1 := 0) (p2 := ((o_4.1) 0 1)) (p3 := (-1)) (sz := _) (o := o_38) (hrun := hc_38)) (va_cwS 4 hts (gi_S qw735 qw281 qw109 (gi_z qw279)) rfl rfl rfl (by decide +kernel) ⟨Nat.le_of_ble_eq_true rfl, Nat.le_of_ble_eq_true rfl⟩) ⟨PRE.blind, PRE.of hE hS hFc hPc hKc hDc⟩ rfl rfl hl.1 rfl (lv_room (Nat.le_of_ble_eq_true rfl)) dX2_reckon_90 ⟨(show (hcX2 p0n (o_4.2.2)) + 0 ≤ (hcX2 p0n (o.2.2)) from by have q0 := gmX2 hg_p0 hgn_p0; omega), (show (3 * (gcX2 p0n (o_4.2.2))) + 0 ≤ (3 * (gcX2 p0n (o.2.2))) from by have q0 := gmX2 hg_p0 hgn_p0; omega)⟩) hS (fun q _ h => hFc q h) hFc (fun u t H locs ht hvm hw hB hz1 hk1 hS => ?_)
  obtain ⟨b1, b2, b3⟩ := hB
  rw [ht] at b1
  obtain ⟨hP, hD, hK⟩ := JOINC (wc := (List.flatten ([[(x17, .inl (z18, ((o_4.2.2) 12), .inl ((o_4.1) 12)))]] : List va_W))) (wr := (List.flatten ([[((p0a 0), .inr (9, [.int ((o_4.1) 0 0), .int ((o_4.1) 0 1), .int ((o_4.1) 0 2), .ref x5, .ref x7, .ref x9, .ref x11, .ref (p0a 8), .int ((o_4.1) 0 8), .ref x13, .ref x15, .ref x17, .ref x19, .ref x21, .ref x23, .ref x25, .ref x27, .ref x29, .ref x31])), (x5, .inl (z6, ((o_4.2.2) 4), .inr (.inl ((srl o_36 11 o_37) 4)))), (x7, .inl (z8, ((o_4.2.2) 5), .inr (.inl ((srl o_36 11 o_37) 5)))), (x9, .inl (z10, ((o_4.2.2) 6), .inr (.inl ((srl o_36 11 o_37) 6)))), (x11, .inl (z12, ((o_4.2.2) 7), .inr (.inl ((srl o_36 11 o_37) 7)))), ((p0a 8), .inl ((p0k 8), 2, .inl ((o_4.1) 8))), (x13, .inl (z14, ((o_4.2.2) 10), .inl ((o_4.1) 10))), (x15, .inl (z16, ((o_4.2.2) 11), .inr (.inl ((srl o_36 11 o_37) 11)))), (x19, .inl (z20, ((o_4.2.2) 13), .inl ((o_4.1) 13))), (x21, .inl (z22, ((o_4.2.2) 14), .inr (.inl ((srl o_36 11 o_37) 14)))), (x23, .inl (z24, ((o_4.2.2) 15), .inl ((o_4.1) 15))), (x25, .inl (z26, ((o_4.2.2) 16), .inl ((o_4.1) 16))), (x27, .inl (z28, ((o_4.2.2) 17), .inl ((o_4.1) 17))), (x29, .inl (z30, ((o_4.2.2) 18), .inl ((o_4.1) 18))), (x31, .inl (z32, ((o_4.2.2) 19), .inl ((o_4.1) 19)))], (oX1 (p1a 0) p1a p1k p1n p1w p1l), (oX9 (p1a 3) p1_2a p1_2k p1_2n p1_2w)] : List va_W))) (w1 := (List.flatten ([[(x17, .inl (z18, ((o_4.2.2) 12), .inl ((srw (o_4.1) 12 o_38) 12)))]] : List va_W))) (t1 := (List.flatten ([[(z18, .int)]] : List (List (ClassId × FieldType))))) hPx hDx hKx hk1 hFc b1 (va_K.moved hvm.symm b2) b3
  have hP3 : va_P (dC, dI) cls (List.flatten ([(oX2 (p0a 0) (st1 (st1 (st1 (st1 (st1 (st1 (st1 (st1 (st1 (st1 (st1 (st1 (st1 (st1 p0a 4 x5) 5 x7) 6 x9) 7 x11) 10 x13) 11 x15) 12 x17) 13 x19) 14 x21) 15 x23) 16 x25) 17 x27) 18 x29) 19 x31) (st1 (st1 (st1 (st1 (st1 (st1 (st1 (st1 (st1 (st1 (st1 (st1 (st1 (st1 p0k 4 z6) 5 z8) 6 z10) 7 z12) 10 z14) 11 z16) 12 z18) 13 z20) 14 z22) 15 z24) 16 z26) 17 z28) 18 z30) 19 z32) (o_4.2.2) (srw (o_4.1) 12 o_38) (srl o_36 11 o_37)), (oX1 (p1a 0) p1a p1k p1n p1w p1l), (oX9 (p1a 3) p1_2a p1_2k p1_2n p1_2w)] : List va_W)) H := vP_perm (vP_fb hP) ((bP (List.Perm.refl _)).trans (List.Perm.append_right _ (List.perm_middle (a := ((x17, .inl (z18, ((o_4.2.2) 12), .inl ((srw (o_4.1) 12 o_38) 12))) : Nat × va_E)) (l₁ := ([((p0a 0), .inr (9, [.int ((srw (o_4.1) 12 o_38) 0 0), .int ((srw (o_4.1) 12 o_38) 0 1), .int ((srw (o_4.1) 12 o_38) 0 2), .ref x5, .ref x7, .ref x9, .ref x11, .ref (p0a 8), .int ((srw (o_4.1) 12 o_38) 0 8), .ref x13, .ref x15, .ref x17, .ref x19, .ref x21, .ref x23, .ref x25, .ref x27, .ref x29, .ref x31])), (x5, .inl (z6, ((o_4.2.2) 4), .inr (.inl ((srl o_36 11 o_37) 4)))), (x7, .inl (z8, ((o_4.2.2) 5), .inr (.inl ((srl o_36 11 o_37) 5)))), (x9, .inl (z10, ((o_4.2.2) 6), .inr (.inl ((srl o_36 11 o_37) 6)))), (x11, .inl (z12, ((o_4.2.2) 7), .inr (.inl ((srl o_36 11 o_37) 7)))), ((p0a 8), .inl ((p0k 8), 2, .inl ((srw (o_4.1) 12 o_38) 8))), (x13, .inl (z14, ((o_4.2.2) 10), .inl ((srw (o_4.1) 12 o_38) 10))), (x15, .inl (z16, ((o_4.2.2) 11), .inr (.inl ((srl o_36 11 o_37) 11))))] : va_W)) (l₂ := ([(x19, .inl (z20, ((o_4.2.2) 13), .inl ((srw (o_4.1) 12 o_38) 13))), (x21, .inl (z22, ((o_4.2.2) 14), .inr (.inl ((srl o_36 11 o_37) 14)))), (x23, .inl (z24, ((o_4.2.2) 15), .inl ((srw (o_4.1) 12 o_38) 15))), (x25, .inl (z26, ((o_4.2.2) 16), .inl ((srw (o_4.1) 12 o_38) 16))), (x27, .inl (z28, ((o_4.2.2) 17), .inl ((srw (o_4.1) 12 o_38) 17))), (x29, .inl (z30, ((o_4.2.2) 18), .inl ((srw (o_4.1) 12 o_38) 18))), (x31, .inl (z32, ((o_4.2.2) 19), .inl ((srw (o_4.1) 12 o_38) 19)))] : va_W))).symm))
  have hD3 : va_D A (List.flatten ([(oX2 (p0a 0) (st1 (st1 (st1 (st1 (st1 (st1 (st1 (st1 (st1 (st1 (st1 (st1 (st1 (st1 p0a 4 x5) 5 x7) 6 x9) 7 x11) 10 x13) 11 x15) 12 x17) 13 x19) 14 x21) 15 x23) 16 x25) 17 x27) 18 x29) 19 x31) (st1 (st1 (st1 (st1 (st1 (st1 (st1 (st1 (st1 (st1 (st1 (st1 (st1 (st1 p0k 4 z6) 5 z8) 6 z10) 7 z12) 10 z14) 11 z16) 12 z18) 13 z20) 14 z22) 15 z24) 16 z26) 17 z28) 18 z30) 19 z32) (o_4.2.2) (srw (o_4.1) 12 o_38) (srl o_36 11 o_37)), (oX1 (p1a 0) p1a p1k p1n p1w p1l), (oX9 (p1a 3) p1_2a p1_2k p1_2n p1_2w)] : List va_W)) := vD_perm (vD_fb hD) ((bP (List.Perm.refl _)).trans (List.Perm.append_right _ (List.perm_middle (a := ((x17, .inl (z18, ((o_4.2.2) 12), .inl ((srw (o_4.1) 12 o_38) 12))) : Nat × va_E)) (l₁ := ([((p0a 0), .inr (9, [.int ((srw (o_4.1) 12 o_38) 0 0), .int ((srw (o_4.1) 12 o_38) 0 1), .int ((srw (o_4.1) 12 o_38) 0 2), .ref x5, .ref x7, .ref x9, .ref x11, .ref (p0a 8), .int ((srw (o_4.1) 12 o_38) 0 8), .ref x13, .ref x15, .ref x17, .ref x19, .ref x21, .ref x23, .ref x25, .ref x27, .ref x29, .ref x31])), (x5, .inl (z6, ((o_4.2.2) 4), .inr (.inl ((srl o_36 11 o_37) 4)))), (x7, .inl (z8, ((o_4.2.2) 5), .inr (.inl ((srl o_36 11 o_37) 5)))), (x9, .inl (z10, ((o_4.2.2) 6), .inr (.inl ((srl o_36 11 o_37) 6)))), (x11, .inl (z12, ((o_4.2.2) 7), .inr (.inl ((srl o_36 11 o_37) 7)))), ((p0a 8), .inl ((p0k 8), 2, .inl ((srw (o_4.1) 12 o_38) 8))), (x13, .inl (z14, ((o_4.2.2) 10), .inl ((srw (o_4.1) 12 o_38) 10))), (x15, .inl (z16, ((o_4.2.2) 11), .inr (.inl ((srl o_36 11 o_37) 11))))] : va_W)) (l₂ := ([(x19, .inl (z20, ((o_4.2.2) 13), .inl ((srw (o_4.1) 12 o_38) 13))), (x21, .inl (z22, ((o_4.2.2) 14), .inr (.inl ((srl o_36 11 o_37) 14)))), (x23, .inl (z24, ((o_4.2.2) 15), .inl ((srw (o_4.1) 12 o_38) 15))), (x25, .inl (z26, ((o_4.2.2) 16), .inl ((srw (o_4.1) 12 o_38) 16))), (x27, .inl (z28, ((o_4.2.2) 17), .inl ((srw (o_4.1) 12 o_38) 17))), (x29, .inl (z30, ((o_4.2.2) 18), .inl ((srw (o_4.1) 12 o_38) 18))), (x31, .inl (z32, ((o_4.2.2) 19), .inl ((srw (o_4.1) 12 o_38) 19)))] : va_W))).symm))
  have hK3 : va_K (dC, dI) cls (List.flatten ([(tX2 (st1 (st1 (st1 (st1 (st1 (st1 (st1 (st1 (st1 (st1 (st1 (st1 (st1 (st1 p0k 4 z6) 5 z8) 6 z10) 7 z12) 10 z14) 11 z16) 12 z18) 13 z20) 14 z22) 15 z24) 16 z26) 17 z28) 18 z30) 19 z32)), (tX1 p1k), (tX9 p1_2k)] : List (List (ClassId × FieldType)))) s := vK_perm (vK_fb hK) ((bP (List.Perm.refl _)).trans (List.Perm.append_right _ (List.perm_middle (a := ((z18, .int) : ClassId × FieldType)) (l₁ := ([(z6, .long), (z8, .long), (z10, .long), (z12, .long), ((p0k 8), .int), (z14, .int), (z16, .long)] : List (ClassId × FieldType))) (l₂ := ([(z20, .int), (z22, .long), (z24, .int), (z26, .int), (z28, .int), (z30, .int), (z32, .int)] : List (ClassId × FieldType)))).symm))
  have hP : va_P (dC, dI) cls (List.flatten ([(oX2 (p0a 0) (st1 (st1 (st1 (st1 (st1 (st1 (st1 (st1 (st1 (st1 (st1 (st1 (st1 (st1 p0a 4 x5) 5 x7) 6 x9) 7 x11) 10 x13) 11 x15) 12 x17) 13 x19) 14 x21) 15 x23) 16 x25) 17 x27) 18 x29) 19 x31) (st1 (st1 (st1 (st1 (st1 (st1 (st1 (st1 (st1 (st1 (st1 (st1 (st1 (st1 p0k 4 z6) 5 z8) 6 z10) 7 z12) 10 z14) 11 z16) 12 z18) 13 z20) 14 z22) 15 z24) 16 z26) 17 z28) 18 z30) 19 z32) (o_4.2.2) (srw (o_4.1) 12 o_38) (srl o_36 11 o_37)), (oX1 (p1a 0) p1a p1k p1n p1w p1l), (oX9 (p1a 3) p1_2a p1_2k p1_2n p1_2w)] : List va_W)) H := vP_perm hP3 (bP (List.Perm.refl _))
  have hD : va_D A (List.flatten ([(oX2 (p0a 0) (st1 (st1 (st1 (st1 (st1 (st1 (st1 (st1 (st1 (st1 (st1 (st1 (st1 (st1 p0a 4 x5) 5 x7) 6 x9) 7 x11) 10 x13) 11 x15) 12 x17) 13 x19) 14 x21) 15 x23) 16 x25) 17 x27) 18 x29) 19 x31) (st1 (st1 (st1 (st1 (st1 (st1 (st1 (st1 (st1 (st1 (st1 (st1 (st1 (st1 p0k 4 z6) 5 z8) 6 z10) 7 z12) 10 z14) 11 z16) 12 z18) 13 z20) 14 z22) 15 z24) 16 z26) 17 z28) 18 z30) 19 z32) (o_4.2.2) (srw (o_4.1) 12 o_38) (srl o_36 11 o_37)), (oX1 (p1a 0) p1a p1k p1n p1w p1l), (oX9 (p1a 3) p1_2a p1_2k p1_2n p1_2w)] : List va_W)) := vD_perm hD3 (bP (List.Perm.refl _))
  have hK : va_K (dC, dI) cls (List.flatten ([(tX2 (st1 (st1 (st1 (st1 (st1 (st1 (st1 (st1 (st1 (st1 (st1 (st1 (st1 (st1 p0k 4 z6) 5 z8) 6 z10) 7 z12) 10 z14) 11 z16) 12 z18) 13 z20) 14 z22) 15 z24) 16 z26) 17 z28) 18 z30) 19 z32)), (tX1 p1k), (tX9 p1_2k)] : List (List (ClassId × FieldType)))) s := vK_perm hK3 (bP (List.Perm.refl _))
  refine lv_iconst (v := 0) hx hb dX2_reckon_93 (by decide) ?_
  refine lv_istore (lv' := [(4, .int 0), (0, .ref (p0a 0)), (1, .ref (p1a 0))]) hx hb dX2_reckon_94 hl (by decide) rfl (fun ls hl => ?_)
  obtain ⟨o96, hc96, hrun⟩ := bnd9 hrun
  have hgn_p0 : glX2 (o96.2.2) (o.2.2) := (mo_fX2_reckon_G118_70 hrun)
  have L96 : ∀ (n_96 : Nat) (v4_96 : Int32) (p0w_96 : ST) (p0l_96 : SL) (p0n_96 : Nat → Nat) (xp0_3_96 : Nat) (zp0_3_96 : ClassId) (xp0_4_96 : Nat) (zp0_4_96 : ClassId) (xp0_5_96 : Nat) (zp0_5_96 : ClassId) (xp0_6_96 : Nat) (zp0_6_96 : ClassId) (xp0_9_96 : Nat) (zp0_9_96 : ClassId) (xp0_10_96 : Nat) (zp0_10_96 : ClassId) (xp0_11_96 : Nat) (zp0_11_96 : ClassId) (xp0_12_96 : Nat) (zp0_12_96 : ClassId) (xp0_13_96 : Nat) (zp0_13_96 : ClassId) (xp0_14_96 : Nat) (zp0_14_96 : ClassId) (xp0_15_96 : Nat) (zp0_15_96 : ClassId) (xp0_16_96 : Nat) (zp0_16_96 : ClassId) (xp0_17_96 : Nat) (zp0_17_96 : ClassId) (xp0_18_96 : Nat) (zp0_18_96 : ClassId) (o96 : ST × SL × (Nat → Nat)) (H : Heap) (locs : List Loc) (ls : Array Slot), (fX2_reckon_L96 p1w p1_2n p1_2w n_96) v4_96 p0w_96 p0l_96 p0n_96 = some o96 → va_P (dC, dI) cls (List.flatten ([(oX2 (p0a 0) (st1 (st1 (st1 (st1 (st1 (st1 (st1 (st1 (st1 (st1 (st1 (st1 (st1 (st1 p0a 4 xp0_3_96) 5 xp0_4_96) 6 xp0_5_96) 7 xp0_6_96) 10 xp0_9_96) 11 xp0_10_96) 12 xp0_11_96) 13 xp0_12_96) 14 xp0_13_96) 15 xp0_14_96) 16 xp0_15_96) 17 xp0_16_96) 18 xp0_17_96) 19 xp0_18_96) (st1 (st1 (st1 (st1 (st1 (st1 (st1 (st1 (st1 (st1 (st1 (st1 (st1 (st1 p0k 4 zp0_3_96) 5 zp0_4_96) 6 zp0_5_96) 7 zp0_6_96) 10 zp0_9_96) 11 zp0_10_96) 12 zp0_11_96) 13 zp0_12_96) 14 zp0_13_96) 15 zp0_14_96) 16 zp0_15_96) 17 zp0_16_96) 18 zp0_17_96) 19 zp0_18_96) p0n_96 p0w_96 p0l_96), (oX1 (p1a 0) p1a p1k p1n p1w p1l), (oX9 (p1a 3) p1_2a p1_2k p1_2n p1_2w)] : List va_W)) H → va_D A (List.flatten ([(oX2 (p0a 0) (st1 (st1 (st1 (st1 (st1 (st1 (st1 (st1 (st1 (st1 (st1 (st1 (st1 (st1 p0a 4 xp0_3_96) 5 xp0_4_96) 6 xp0_5_96) 7 xp0_6_96) 10 xp0_9_96) 11 xp0_10_96) 12 xp0_11_96) 13 xp0_12_96) 14 xp0_13_96) 15 xp0_14_96) 16 xp0_15_96) 17 xp0_16_96) 18 xp0_17_96) 19 xp0_18_96) (st1 (st1 (st1 (st1 (st1 (st1 (st1 (st1 (st1 (st1 (st1 (st1 (st1 (st1 p0k 4 zp0_3_96) 5 zp0_4_96) 6 zp0_5_96) 7 zp0_6_96) 10 zp0_9_96) 11 zp0_10_96) 12 zp0_11_96) 13 zp0_12_96) 14 zp0_13_96) 15 zp0_14_96) 16 zp0_15_96) 17 zp0_16_96) 18 zp0_17_96) 19 zp0_18_96) p0n_96 p0w_96 p0l_96), (oX1 (p1a 0) p1a p1k p1n p1w p1l), (oX9 (p1a 3) p1_2a p1_2k p1_2n p1_2w)] : List va_W)) → va_K (dC, dI) cls (List.flatten ([(tX2 (st1 (st1 (st1 (st1 (st1 (st1 (st1 (st1 (st1 (st1 (st1 (st1 (st1 (st1 p0k 4 zp0_3_96) 5 zp0_4_96) 6 zp0_5_96) 7 zp0_6_96) 10 zp0_9_96) 11 zp0_10_96) 12 zp0_11_96) 13 zp0_12_96) 14 zp0_13_96) 15 zp0_14_96) 16 zp0_15_96) 17 zp0_16_96) 18 zp0_17_96) 19 zp0_18_96)), (tX1 p1k), (tX9 p1_2k)] : List (List (ClassId × FieldType)))) s → va_S A s.heap H locs → lv_has ls 5 [(0, .ref (p0a 0)), (1, .ref (p1a 0)), (4, .int v4_96)] → glX2 p0n p0n_96 → glX2 (o96.2.2) (o.2.2) → (∀ (xp0_3_96x : Nat) (zp0_3_96x : ClassId) (xp0_4_96x : Nat) (zp0_4_96x : ClassId) (xp0_5_96x : Nat) (zp0_5_96x : ClassId) (xp0_6_96x : Nat) (zp0_6_96x : ClassId) (xp0_9_96x : Nat) (zp0_9_96x : ClassId) (xp0_10_96x : Nat) (zp0_10_96x : ClassId) (xp0_11_96x : Nat) (zp0_11_96x : ClassId) (xp0_12_96x : Nat) (zp0_12_96x : ClassId) (xp0_13_96x : Nat) (zp0_13_96x : ClassId) (xp0_14_96x : Nat) (zp0_14_96x : ClassId) (xp0_15_96x : Nat) (zp0_15_96x : ClassId) (xp0_16_96x : Nat) (zp0_16_96x : ClassId) (xp0_17_96x : Nat) (zp0_17_96x : ClassId) (xp0_18_96x : Nat) (zp0_18_96x : ClassId) (H : Heap) (locs : List Loc) (ls : Array Slot), va_P (dC, dI) cls (List.flatten ([(oX2 (p0a 0) (st1 (st1 (st1 (st1 (st1 (st1 (st1 (st1 (st1 (st1 (st1 (st1 (st1 (st1 p0a 4 xp0_3_96x) 5 xp0_4_96x) 6 xp0_5_96x) 7 xp0_6_96x) 10 xp0_9_96x) 11 xp0_10_96x) 12 xp0_11_96x) 13 xp0_12_96x) 14 xp0_13_96x) 15 xp0_14_96x) 16 xp0_15_96x) 17 xp0_16_96x) 18 xp0_17_96x) 19 xp0_18_96x) (st1 (st1 (st1 (st1 (st1 (st1 (st1 (st1 (st1 (st1 (st1 (st1 (st1 (st1 p0k 4 zp0_3_96x) 5 zp0_4_96x) 6 zp0_5_96x) 7 zp0_6_96x) 10 zp0_9_96x) 11 zp0_10_96x) 12 zp0_11_96x) 13 zp0_12_96x) 14 zp0_13_96x) 15 zp0_14_96x) 16 zp0_15_96x) 17 zp0_16_96x) 18 zp0_17_96x) 19 zp0_18_96x) (o96.2.2) (o96.1) (o96.2.1)), (oX1 (p1a 0) p1a p1k p1n p1w p1l), (oX9 (p1a 3) p1_2a p1_2k p1_2n p1_2w)] : List va_W)) H → va_D A (List.flatten ([(oX2 (p0a 0) (st1 (st1 (st1 (st1 (st1 (st1 (st1 (st1 (st1 (st1 (st1 (st1 (st1 (st1 p0a 4 xp0_3_96x) 5 xp0_4_96x) 6 xp0_5_96x) 7 xp0_6_96x) 10 xp0_9_96x) 11 xp0_10_96x) 12 xp0_11_96x) 13 xp0_12_96x) 14 xp0_13_96x) 15 xp0_14_96x) 16 xp0_15_96x) 17 xp0_16_96x) 18 xp0_17_96x) 19 xp0_18_96x) (st1 (st1 (st1 (st1 (st1 (st1 (st1 (st1 (st1 (st1 (st1 (st1 (st1 (st1 p0k 4 zp0_3_96x) 5 zp0_4_96x) 6 zp0_5_96x) 7 zp0_6_96x) 10 zp0_9_96x) 11 zp0_10_96x) 12 zp0_11_96x) 13 zp0_12_96x) 14 zp0_13_96x) 15 zp0_14_96x) 16 zp0_15_96x) 17 zp0_16_96x) 18 zp0_17_96x) 19 zp0_18_96x) (o96.2.2) (o96.1) (o96.2.1)), (oX1 (p1a 0) p1a p1k p1n p1w p1l), (oX9 (p1a 3) p1_2a p1_2k p1_2n p1_2w)] : List va_W)) → va_K (dC, dI) cls (List.flatten ([(tX2 (st1 (st1 (st1 (st1 (st1 (st1 (st1 (st1 (st1 (st1 (st1 (st1 (st1 (st1 p0k 4 zp0_3_96x) 5 zp0_4_96x) 6 zp0_5_96x) 7 zp0_6_96x) 10 zp0_9_96x) 11 zp0_10_96x) 12 zp0_11_96x) 13 zp0_12_96x) 14 zp0_13_96x) 15 zp0_14_96x) 16 zp0_15_96x) 17 zp0_16_96x) 18 zp0_17_96x) 19 zp0_18_96x)), (tX1 p1k), (tX9 p1_2k)] : List (List (ClassId × FieldType)))) s → va_S A s.heap H locs → lv_has ls 5 [(0, .ref (p0a 0))] → glX2 p0n (o96.2.2) → W p l e ({ frames := 5, cells := (hcX2 p0n (o.2.2)), slots := (3 * (gcX2 p0n (o.2.2))), locals := 133 } : Room) s m ([.ref (p0a 0), .ref (p1a 0), .int p2, .int p3] : List Value).toArray below meth c H locs (hcX2 p0n (o96.2.2)) (3 * (gcX2 p0n (o96.2.2))) Q (F0 m 118 ls [])) → W p l e ({ frames := 5, cells := (hcX2 p0n (o.2.2)), slots := (3 * (gcX2 p0n (o.2.2))), locals := 133 } : Room) s m ([.ref (p0a 0), .ref (p1a 0), .int p2, .int p3] : List Value).toArray below meth c H locs (hcX2 p0n p0n_96) (3 * (gcX2 p0n p0n_96)) Q (F0 m 96 ls []) := by
    intro n_96
    induction n_96 with
    | zero => intro v4_96 p0w_96 p0l_96 p0n_96 xp0_3_96 zp0_3_96 xp0_4_96 zp0_4_96 xp0_5_96 zp0_5_96 xp0_6_96 zp0_6_96 xp0_9_96 zp0_9_96 xp0_10_96 zp0_10_96 xp0_11_96 zp0_11_96 xp0_12_96 zp0_12_96 xp0_13_96 zp0_13_96 xp0_14_96 zp0_14_96 xp0_15_96 zp0_15_96 xp0_16_96 zp0_16_96 xp0_17_96 zp0_17_96 xp0_18_96 zp0_18_96 o96 H locs ls hrun; exact (no9 rfl hrun).elim
    | succ n_96 IH96 =>
      intro v4_96 p0w_96 p0l_96 p0n_96 xp0_3_96 zp0_3_96 xp0_4_96 zp0_4_96 xp0_5_96 zp0_5_96 xp0_6_96 zp0_6_96 xp0_9_96 zp0_9_96 xp0_10_96 zp0_10_96 xp0_11_96 zp0_11_96 xp0_12_96 zp0_12_96 xp0_13_96 zp0_13_96 xp0_14_96 zp0_14_96 xp0_15_96 zp0_15_96 xp0_16_96 zp0_16_96 xp0_17_96 zp0_17_96 xp0_18_96 zp0_18_96 o96 H locs ls hrun hP hD hK hS hl hg_p0 hgo_p0 hk96
      have hgn_p0 : glX2 p0n_96 (o.2.2) := (glX2_tr (mo_fX2_reckon_L96 (n_96 + 1) _ _ _ _ _ hrun) hgo_p0)
      unfold fX2_reckon_L96 at hrun
      refine lv_iload hx hb dX2_reckon_96 (lv_at hl 2 rfl) ?_
      refine lv_aload_n hx hb dX2_reckon_98 rfl (lv_at hl 1 rfl) ?_
      refine va_get (D := (dC, dI)) (ci := 4) (v := .int (p1w 0 0)) (C := RX1) (T := TX1) (N := 21) hx hb hts i_X1 hown hK hP 16 rfl rfl 0 (by decide) (hts _ qw670) (fun _ h9 => h9) rfl dX2_reckon_99 ?_
      rcases br9 hrun with ⟨hc39, hrun⟩ | ⟨hc39, hrun⟩
      · refine lv_icmp_ge (tgt := 118) hx hb dX2_reckon_102 (by decide) (fun _ => ?_) (fun c => absurd hc39 c)
        obtain rfl := (Option.some.inj hrun)
        exact hk96 xp0_3_96 zp0_3_96 xp0_4_96 zp0_4_96 xp0_5_96 zp0_5_96 xp0_6_96 zp0_6_96 xp0_9_96 zp0_9_96 xp0_10_96 zp0_10_96 xp0_11_96 zp0_11_96 xp0_12_96 zp0_12_96 xp0_13_96 zp0_13_96 xp0_14_96 zp0_14_96 xp0_15_96 zp0_15_96 xp0_16_96 zp0_16_96 xp0_17_96 zp0_17_96 xp0_18_96 zp0_18_96 _ _ _ hP hD hK hS (lv_sub hl [0] rfl) hg_p0
      · refine lv_icmp_ge (tgt := 118) hx hb dX2_reckon_102 (by decide) (fun c => absurd c hc39) (fun _ => ?_)
        refine lv_aload_n hx hb dX2_reckon_105 rfl (lv_at hl 0 rfl) ?_
        refine lv_aload_n hx hb dX2_reckon_106 rfl (lv_at hl 1 rfl) ?_
        refine lv_iload hx hb dX2_reckon_107 (lv_at hl 2 rfl) ?_
        obtain ⟨o_40, hc_40, hrun⟩ := bnd9 hrun
        have hPx : va_P (dC, dI) cls ((List.flatten ([(oX2 (p0a 0) (st1 (st1 (st1 (st1 (st1 (st1 (st1 (st1 (st1 (st1 (st1 (st1 (st1 (st1 p0a 4 xp0_3_96) 5 xp0_4_96) 6 xp0_5_96) 7 xp0_6_96) 10 xp0_9_96) 11 xp0_10_96) 12 xp0_11_96) 13 xp0_12_96) 14 xp0_13_96) 15 xp0_14_96) 16 xp0_15_96) 17 xp0_16_96) 18 xp0_17_96) 19 xp0_18_96) (st1 (st1 (st1 (st1 (st1 (st1 (st1 (st1 (st1 (st1 (st1 (st1 (st1 (st1 p0k 4 zp0_3_96) 5 zp0_4_96) 6 zp0_5_96) 7 zp0_6_96) 10 zp0_9_96) 11 zp0_10_96) 12 zp0_11_96) 13 zp0_12_96) 14 zp0_13_96) 15 zp0_14_96) 16 zp0_15_96) 17 zp0_16_96) 18 zp0_17_96) 19 zp0_18_96) p0n_96 p0w_96 p0l_96), (oX1 (p1a 0) p1a p1k p1n p1w p1l), (oX9 (p1a 3) p1_2a p1_2k p1_2n p1_2w)] : List va_W)) ++ (List.flatten ([] : List va_W))) H := vP_fa (vP_perm hP (bP (List.Perm.refl _)))
        have hDx : va_D A ((List.flatten ([(oX2 (p0a 0) (st1 (st1 (st1 (st1 (st1 (st1 (st1 (st1 (st1 (st1 (st1 (st1 (st1 (st1 p0a 4 xp0_3_96) 5 xp0_4_96) 6 xp0_5_96) 7 xp0_6_96) 10 xp0_9_96) 11 xp0_10_96) 12 xp0_11_96) 13 xp0_12_96) 14 xp0_13_96) 15 xp0_14_96) 16 xp0_15_96) 17 xp0_16_96) 18 xp0_17_96) 19 xp0_18_96) (st1 (st1 (st1 (st1 (st1 (st1 (st1 (st1 (st1 (st1 (st1 (st1 (st1 (st1 p0k 4 zp0_3_96) 5 zp0_4_96) 6 zp0_5_96) 7 zp0_6_96) 10 zp0_9_96) 11 zp0_10_96) 12 zp0_11_96) 13 zp0_12_96) 14 zp0_13_96) 15 zp0_14_96) 16 zp0_15_96) 17 zp0_16_96) 18 zp0_17_96) 19 zp0_18_96) p0n_96 p0w_96 p0l_96), (oX1 (p1a 0) p1a p1k p1n p1w p1l), (oX9 (p1a 3) p1_2a p1_2k p1_2n p1_2w)] : List va_W)) ++ (List.flatten ([] : List va_W))) := vD_fa (vD_perm hD (bP (List.Perm.refl _)))
        have hKx : va_K (dC, dI) cls ((List.flatten ([(tX2 (st1 (st1 (st1 (st1 (st1 (st1 (st1 (st1 (st1 (st1 (st1 (st1 (st1 (st1 p0k 4 zp0_3_96) 5 zp0_4_96) 6 zp0_5_96) 7 zp0_6_96) 10 zp0_9_96) 11 zp0_10_96) 12 zp0_11_96) 13 zp0_12_96) 14 zp0_13_96) 15 zp0_14_96) 16 zp0_15_96) 17 zp0_16_96) 18 zp0_17_96) 19 zp0_18_96)), (tX1 p1k), (tX9 p1_2k)] : List (List (ClassId × FieldType)))) ++ (List.flatten ([] : List (List (ClassId × FieldType))))) s := vK_fa (vK_perm hK (bP (List.Perm.refl _)))
        have hPc := vP_l hPx
        have hDc := vD_l hDx
        have hKc := vK_l hKx
        have hFc := vfree hDx hS hA
        have hgn_p0 : glX2 (o_40.2.2) (o.2.2) := (glX2_tr (mo_fX2_reckon_G112_69 (mo_fX2_reckon_L96 n_96) hrun) hgo_p0)
        refine va_callv (va_runV (As := [.ref (p1a 0), .int v4_96]) (rest := []) ⟨hx, hb, hml, hown, hts⟩ (kX2_meetInBlock l dC dI (p0a := (st0 (p0a 0) (st1 (st1 (st1 (st1 (st1 (st1 (st1 (st1 (st1 (st1 (st1 (st1 (st1 (st1 p0a 4 xp0_3_96) 5 xp0_4_96) 6 xp0_5_96) 7 xp0_6_96) 10 xp0_9_96) 11 xp0_10_96) 12 xp0_11_96) 13 xp0_12_96) 14 xp0_13_96) 15 xp0_14_96) 16 xp0_15_96) 17 xp0_16_96) 18 xp0_17_96) 19 xp0_18_96))) (p0k := (st1 (st1 (st1 (st1 (st1 (st1 (st1 (st1 (st1 (st1 (st1 (st1 (st1 (st1 p0k 4 zp0_3_96) 5 zp0_4_96) 6 zp0_5_96) 7 zp0_6_96) 10 zp0_9_96) 11 zp0_10_96) 12 zp0_11_96) 13 zp0_12_96) 14 zp0_13_96) 15 zp0_14_96) 16 zp0_15_96) 17 zp0_16_96) 18 zp0_17_96) 19 zp0_18_96)) (p0n := p0n_96) (p0w := p0w_96) (p0l := p0l_96) (p1a := p1a) (p1k := p1k) (p1n := p1n) (p1w := p1w) (p1l := p1l) (p2 := v4_96) (p1_2a := p1_2a) (p1_2k := p1_2k) (p1_2n := p1_2n) (p1_2w := p1_2w) (sz := _) (o := o_40) (hrun := hc_40)) (cwV 2 hts (gi_V qw765 qw766 qw767 qw694 (gi_z qw764)) rfl rfl rfl (by decide +kernel) ⟨Nat.le_of_ble_eq_true rfl, Nat.le_of_ble_eq_true rfl⟩) ⟨PRE.blind, va_recv hKc hPc (ci := 9) (q0 := 0) rfl rfl, PRE.of hE hS hFc hPc hKc hDc⟩ rfl rfl hl.1 rfl (lv_room (Nat.le_of_ble_eq_true rfl)) dX2_reckon_109 ⟨(show (hcX2 p0n p0n_96) + (hcX2 p0n_96 (o_40.2.2)) ≤ (hcX2 p0n (o.2.2)) from by have q0 := gsX2 hg_p0 (mo_fX2_meetInBlock hc_40) hgn_p0; omega), (show (3 * (gcX2 p0n p0n_96)) + (3 * (gcX2 p0n_96 (o_40.2.2))) ≤ (3 * (gcX2 p0n (o.2.2))) from by have q0 := gsX2 hg_p0 (mo_fX2_meetInBlock hc_40) hgn_p0; omega)⟩) hS (fun q _ h => hFc q h) hFc (fun u t H locs ht hvm hw hB hz1 hk1 hS => ?_)
        obtain ⟨x41, z42, x43, z44, x45, z46, x47, z48, x49, z50, x51, z52, x53, z54, x55, z56, x57, z58, x59, z60, x61, z62, x63, z64, x65, z66, x67, z68, hB⟩ := hB
        obtain ⟨b1, b2, b3⟩ := hB
        rw [ht] at b1
        obtain ⟨hP, hD, hK⟩ := JOINC (wc := (List.flatten ([(oX2 (p0a 0) (st1 (st1 (st1 (st1 (st1 (st1 (st1 (st1 (st1 (st1 (st1 (st1 (st1 (st1 p0a 4 xp0_3_96) 5 xp0_4_96) 6 xp0_5_96) 7 xp0_6_96) 10 xp0_9_96) 11 xp0_10_96) 12 xp0_11_96) 13 xp0_12_96) 14 xp0_13_96) 15 xp0_14_96) 16 xp0_15_96) 17 xp0_16_96) 18 xp0_17_96) 19 xp0_18_96) (st1 (st1 (st1 (st1 (st1 (st1 (st1 (st1 (st1 (st1 (st1 (st1 (st1 (st1 p0k 4 zp0_3_96) 5 zp0_4_96) 6 zp0_5_96) 7 zp0_6_96) 10 zp0_9_96) 11 zp0_10_96) 12 zp0_11_96) 13 zp0_12_96) 14 zp0_13_96) 15 zp0_14_96) 16 zp0_15_96) 17 zp0_16_96) 18 zp0_17_96) 19 zp0_18_96) p0n_96 p0w_96 p0l_96), (oX1 (p1a 0) p1a p1k p1n p1w p1l), (oX9 (p1a 3) p1_2a p1_2k p1_2n p1_2w)] : List va_W))) (wr := (List.flatten ([] : List va_W))) (w1 := (List.flatten ([(oX2 (p0a 0) (st1 (st1 (st1 (st1 (st1 (st1 (st1 (st1 (st1 (st1 (st1 (st1 (st1 (st1 p0a 4 x41) 5 x43) 6 x45) 7 x47) 10 x49) 11 x51) 12 x53) 13 x55) 14 x57) 15 x59) 16 x61) 17 x63) 18 x65) 19 x67) (st1 (st1 (st1 (st1 (st1 (st1 (st1 (st1 (st1 (st1 (st1 (st1 (st1 (st1 p0k 4 z42) 5 z44) 6 z46) 7 z48) 10 z50) 11 z52) 12 z54) 13 z56) 14 z58) 15 z60) 16 z62) 17 z64) 18 z66) 19 z68) (o_40.2.2) (o_40.1) (o_40.2.1)), (oX1 (p1a 0) p1a p1k p1n p1w p1l), (oX9 (p1a 3) p1_2a p1_2k p1_2n p1_2w)] : List va_W))) (t1 := (List.flatten ([(tX2 (st1 (st1 (st1 (st1 (st1 (st1 (st1 (st1 (st1 (st1 (st1 (st1 (st1 (st1 p0k 4 z42) 5 z44) 6 z46) 7 z48) 10 z50) 11 z52) 12 z54) 13 z56) 14 z58) 15 z60) 16 z62) 17 z64) 18 z66) 19 z68)), (tX1 p1k), (tX9 p1_2k)] : List (List (ClassId × FieldType))))) hPx hDx hKx hk1 hFc b1 (va_K.moved hvm.symm b2) b3
        have hP : va_P (dC, dI) cls (List.flatten ([(oX2 (p0a 0) (st1 (st1 (st1 (st1 (st1 (st1 (st1 (st1 (st1 (st1 (st1 (st1 (st1 (st1 p0a 4 x41) 5 x43) 6 x45) 7 x47) 10 x49) 11 x51) 12 x53) 13 x55) 14 x57) 15 x59) 16 x61) 17 x63) 18 x65) 19 x67) (st1 (st1 (st1 (st1 (st1 (st1 (st1 (st1 (st1 (st1 (st1 (st1 (st1 (st1 p0k 4 z42) 5 z44) 6 z46) 7 z48) 10 z50) 11 z52) 12 z54) 13 z56) 14 z58) 15 z60) 16 z62) 17 z64) 18 z66) 19 z68) (o_40.2.2) (o_40.1) (o_40.2.1)), (oX1 (p1a 0) p1a p1k p1n p1w p1l), (oX9 (p1a 3) p1_2a p1_2k p1_2n p1_2w)] : List va_W)) H := vP_perm (vP_fb hP) (bP (List.Perm.refl _))
        have hD : va_D A (List.flatten ([(oX2 (p0a 0) (st1 (st1 (st1 (st1 (st1 (st1 (st1 (st1 (st1 (st1 (st1 (st1 (st1 (st1 p0a 4 x41) 5 x43) 6 x45) 7 x47) 10 x49) 11 x51) 12 x53) 13 x55) 14 x57) 15 x59) 16 x61) 17 x63) 18 x65) 19 x67) (st1 (st1 (st1 (st1 (st1 (st1 (st1 (st1 (st1 (st1 (st1 (st1 (st1 (st1 p0k 4 z42) 5 z44) 6 z46) 7 z48) 10 z50) 11 z52) 12 z54) 13 z56) 14 z58) 15 z60) 16 z62) 17 z64) 18 z66) 19 z68) (o_40.2.2) (o_40.1) (o_40.2.1)), (oX1 (p1a 0) p1a p1k p1n p1w p1l), (oX9 (p1a 3) p1_2a p1_2k p1_2n p1_2w)] : List va_W)) := vD_perm (vD_fb hD) (bP (List.Perm.refl _))
        have hK : va_K (dC, dI) cls (List.flatten ([(tX2 (st1 (st1 (st1 (st1 (st1 (st1 (st1 (st1 (st1 (st1 (st1 (st1 (st1 (st1 p0k 4 z42) 5 z44) 6 z46) 7 z48) 10 z50) 11 z52) 12 z54) 13 z56) 14 z58) 15 z60) 16 z62) 17 z64) 18 z66) 19 z68)), (tX1 p1k), (tX9 p1_2k)] : List (List (ClassId × FieldType)))) s := vK_perm (vK_fb hK) (bP (List.Perm.refl _))
        refine W.widen (k := (hcX2 p0n (o_40.2.2))) (n := (3 * (gcX2 p0n (o_40.2.2)))) (by have a0 := gcX2_add hg_p0 (mo_fX2_meetInBlock hc_40); omega) (by have a0 := gcX2_add hg_p0 (mo_fX2_meetInBlock hc_40); omega) ?_
        have hg_p0 : glX2 p0n (o_40.2.2) := glX2_tr hg_p0 (mo_fX2_meetInBlock hc_40)
        unfold fX2_reckon_G112_69 at hrun
        refine lv_iinc (v := (v4_96 + 1)) (lv' := [(4, .int (v4_96 + 1)), (0, .ref (p0a 0)), (1, .ref (p1a 0))]) hx hb dX2_reckon_112 hl (k := 2) rfl rfl (by decide) rfl (fun ls hl => ?_)
        refine lv_goto (tgt := 96) hx hb dX2_reckon_115 (by decide) ?_
        exact IH96 (v4_96 + 1) (o_40.1) (o_40.2.1) (o_40.2.2) x41 z42 x43 z44 x45 z46 x47 z48 x49 z50 x51 z52 x53 z54 x55 z56 x57 z58 x59 z60 x61 z62 x63 z64 x65 z66 x67 z68 o96 _ _ _ hrun hP hD hK hS (lv_sub hl [1, 2, 0] rfl) hg_p0 hgo_p0 hk96
  refine L96 NF 0 (srw (o_4.1) 12 o_38) (srl o_36 11 o_37) (o_4.2.2) x5 z6 x7 z8 x9 z10 x11 z12 x13 z14 x15 z16 x17 z18 x19 z20 x21 z22 x23 z24 x25 z26 x27 z28 x29 z30 x31 z32 o96 _ _ _ hc96 hP hD hK hS (lv_sub hl [1, 2, 0] rfl) hg_p0 hgn_p0 ?_
  intro xp0_3_96x zp0_3_96x xp0_4_96x zp0_4_96x xp0_5_96x zp0_5_96x xp0_6_96x zp0_6_96x xp0_9_96x zp0_9_96x xp0_10_96x zp0_10_96x xp0_11_96x zp0_11_96x xp0_12_96x zp0_12_96x xp0_13_96x zp0_13_96x xp0_14_96x zp0_14_96x xp0_15_96x zp0_15_96x xp0_16_96x zp0_16_96x xp0_17_96x zp0_17_96x xp0_18_96x zp0_18_96x H locs ls hP hD hK hS hl hg_p0
  have hl := hl
  unfold fX2_reckon_G118_70 at hrun
  refine lv_aload_n hx hb dX2_reckon_118 rfl (lv_at hl 0 rfl) ?_
  obtain ⟨o_71, hc_71, hrun⟩ := bnd9 hrun
  have hPx : va_P (dC, dI) cls ((List.flatten ([(oX2 (p0a 0) (st1 (st1 (st1 (st1 (st1 (st1 (st1 (st1 (st1 (st1 (st1 (st1 (st1 (st1 p0a 4 xp0_3_96x) 5 xp0_4_96x) 6 xp0_5_96x) 7 xp0_6_96x) 10 xp0_9_96x) 11 xp0_10_96x) 12 xp0_11_96x) 13 xp0_12_96x) 14 xp0_13_96x) 15 xp0_14_96x) 16 xp0_15_96x) 17 xp0_16_96x) 18 xp0_17_96x) 19 xp0_18_96x) (st1 (st1 (st1 (st1 (st1 (st1 (st1 (st1 (st1 (st1 (st1 (st1 (st1 (st1 p0k 4 zp0_3_96x) 5 zp0_4_96x) 6 zp0_5_96x) 7 zp0_6_96x) 10 zp0_9_96x) 11 zp0_10_96x) 12 zp0_11_96x) 13 zp0_12_96x) 14 zp0_13_96x) 15 zp0_14_96x) 16 zp0_15_96x) 17 zp0_16_96x) 18 zp0_17_96x) 19 zp0_18_96x) (o96.2.2) (o96.1) (o96.2.1))] : List va_W)) ++ (List.flatten ([(oX1 (p1a 0) p1a p1k p1n p1w p1l), (oX9 (p1a 3) p1_2a p1_2k p1_2n p1_2w)] : List va_W))) H := vP_fa (vP_perm hP (bP (List.Perm.refl _)))
  have hDx : va_D A ((List.flatten ([(oX2 (p0a 0) (st1 (st1 (st1 (st1 (st1 (st1 (st1 (st1 (st1 (st1 (st1 (st1 (st1 (st1 p0a 4 xp0_3_96x) 5 xp0_4_96x) 6 xp0_5_96x) 7 xp0_6_96x) 10 xp0_9_96x) 11 xp0_10_96x) 12 xp0_11_96x) 13 xp0_12_96x) 14 xp0_13_96x) 15 xp0_14_96x) 16 xp0_15_96x) 17 xp0_16_96x) 18 xp0_17_96x) 19 xp0_18_96x) (st1 (st1 (st1 (st1 (st1 (st1 (st1 (st1 (st1 (st1 (st1 (st1 (st1 (st1 p0k 4 zp0_3_96x) 5 zp0_4_96x) 6 zp0_5_96x) 7 zp0_6_96x) 10 zp0_9_96x) 11 zp0_10_96x) 12 zp0_11_96x) 13 zp0_12_96x) 14 zp0_13_96x) 15 zp0_14_96x) 16 zp0_15_96x) 17 zp0_16_96x) 18 zp0_17_96x) 19 zp0_18_96x) (o96.2.2) (o96.1) (o96.2.1))] : List va_W)) ++ (List.flatten ([(oX1 (p1a 0) p1a p1k p1n p1w p1l), (oX9 (p1a 3) p1_2a p1_2k p1_2n p1_2w)] : List va_W))) := vD_fa (vD_perm hD (bP (List.Perm.refl _)))
  have hKx : va_K (dC, dI) cls ((List.flatten ([(tX2 (st1 (st1 (st1 (st1 (st1 (st1 (st1 (st1 (st1 (st1 (st1 (st1 (st1 (st1 p0k 4 zp0_3_96x) 5 zp0_4_96x) 6 zp0_5_96x) 7 zp0_6_96x) 10 zp0_9_96x) 11 zp0_10_96x) 12 zp0_11_96x) 13 zp0_12_96x) 14 zp0_13_96x) 15 zp0_14_96x) 16 zp0_15_96x) 17 zp0_16_96x) 18 zp0_17_96x) 19 zp0_18_96x))] : List (List (ClassId × FieldType)))) ++ (List.flatten ([(tX1 p1k), (tX9 p1_2k)] : List (List (ClassId × FieldType))))) s := vK_fa (vK_perm hK (bP (List.Perm.refl _)))
  have hPc := vP_l hPx
  have hDc := vD_l hDx
  have hKc := vK_l hKx
  have hFc := vfree hDx hS hA
  refine va_callv (va_runV (As := []) (rest := []) ⟨hx, hb, hml, hown, hts⟩ (kX2_mirror l dC dI (p0a := (st0 (p0a 0) (st1 (st1 (st1 (st1 (st1 (st1 (st1 (st1 (st1 (st1 (st1 (st1 (st1 (st1 p0a 4 xp0_3_96x) 5 xp0_4_96x) 6 xp0_5_96x) 7 xp0_6_96x) 10 xp0_9_96x) 11 xp0_10_96x) 12 xp0_11_96x) 13 xp0_12_96x) 14 xp0_13_96x) 15 xp0_14_96x) 16 xp0_15_96x) 17 xp0_16_96x) 18 xp0_17_96x) 19 xp0_18_96x))) (p0k := (st1 (st1 (st1 (st1 (st1 (st1 (st1 (st1 (st1 (st1 (st1 (st1 (st1 (st1 p0k 4 zp0_3_96x) 5 zp0_4_96x) 6 zp0_5_96x) 7 zp0_6_96x) 10 zp0_9_96x) 11 zp0_10_96x) 12 zp0_11_96x) 13 zp0_12_96x) 14 zp0_13_96x) 15 zp0_14_96x) 16 zp0_15_96x) 17 zp0_16_96x) 18 zp0_17_96x) 19 zp0_18_96x)) (p0n := (o96.2.2)) (p0w := (o96.1)) (p0l := (o96.2.1)) (sz := _) (o := o_71) (hrun := hc_71)) (cwV 0 hts (gi_V qw778 qw779 qw780 qw694 (gi_z qw777)) rfl rfl rfl (by decide +kernel) ⟨Nat.le_of_ble_eq_true rfl, Nat.le_of_ble_eq_true rfl⟩) ⟨PRE.blind, va_recv hKc hPc (ci := 9) (q0 := 0) rfl rfl, PRE.of hE hS hFc hPc hKc hDc⟩ rfl rfl hl.1 rfl (lv_room (Nat.le_of_ble_eq_true rfl)) dX2_reckon_119 ⟨(show (hcX2 p0n (o96.2.2)) + 0 ≤ (hcX2 p0n (o.2.2)) from by have q0 := gmX2 hg_p0 hgn_p0; omega), (show (3 * (gcX2 p0n (o96.2.2))) + 0 ≤ (3 * (gcX2 p0n (o.2.2))) from by have q0 := gmX2 hg_p0 hgn_p0; omega)⟩) hS (fun q _ h => hFc q h) hFc (fun u t H locs ht hvm hw hB hz1 hk1 hS => ?_)
  obtain ⟨b1, b2, b3⟩ := hB
  rw [ht] at b1
  obtain ⟨hP, hD, hK⟩ := JOINC (wc := (List.flatten ([(oX2 (p0a 0) (st1 (st1 (st1 (st1 (st1 (st1 (st1 (st1 (st1 (st1 (st1 (st1 (st1 (st1 p0a 4 xp0_3_96x) 5 xp0_4_96x) 6 xp0_5_96x) 7 xp0_6_96x) 10 xp0_9_96x) 11 xp0_10_96x) 12 xp0_11_96x) 13 xp0_12_96x) 14 xp0_13_96x) 15 xp0_14_96x) 16 xp0_15_96x) 17 xp0_16_96x) 18 xp0_17_96x) 19 xp0_18_96x) (st1 (st1 (st1 (st1 (st1 (st1 (st1 (st1 (st1 (st1 (st1 (st1 (st1 (st1 p0k 4 zp0_3_96x) 5 zp0_4_96x) 6 zp0_5_96x) 7 zp0_6_96x) 10 zp0_9_96x) 11 zp0_10_96x) 12 zp0_11_96x) 13 zp0_12_96x) 14 zp0_13_96x) 15 zp0_14_96x) 16 zp0_15_96x) 17 zp0_16_96x) 18 zp0_17_96x) 19 zp0_18_96x) (o96.2.2) (o96.1) (o96.2.1))] : List va_W))) (wr := (List.flatten ([(oX1 (p1a 0) p1a p1k p1n p1w p1l), (oX9 (p1a 3) p1_2a p1_2k p1_2n p1_2w)] : List va_W))) (w1 := (List.flatten ([(oX2 (p0a 0) (st1 (st1 (st1 (st1 (st1 (st1 (st1 (st1 (st1 (st1 (st1 (st1 (st1 (st1 p0a 4 xp0_3_96x) 5 xp0_4_96x) 6 xp0_5_96x) 7 xp0_6_96x) 10 xp0_9_96x) 11 xp0_10_96x) 12 xp0_11_96x) 13 xp0_12_96x) 14 xp0_13_96x) 15 xp0_14_96x) 16 xp0_15_96x) 17 xp0_16_96x) 18 xp0_17_96x) 19 xp0_18_96x) (st1 (st1 (st1 (st1 (st1 (st1 (st1 (st1 (st1 (st1 (st1 (st1 (st1 (st1 p0k 4 zp0_3_96x) 5 zp0_4_96x) 6 zp0_5_96x) 7 zp0_6_96x) 10 zp0_9_96x) 11 zp0_10_96x) 12 zp0_11_96x) 13 zp0_12_96x) 14 zp0_13_96x) 15 zp0_14_96x) 16 zp0_15_96x) 17 zp0_16_96x) 18 zp0_17_96x) 19 zp0_18_96x) (o96.2.2) (o96.1) o_71)] : List va_W))) (t1 := (List.flatten ([(tX2 (st1 (st1 (st1 (st1 (st1 (st1 (st1 (st1 (st1 (st1 (st1 (st1 (st1 (st1 p0k 4 zp0_3_96x) 5 zp0_4_96x) 6 zp0_5_96x) 7 zp0_6_96x) 10 zp0_9_96x) 11 zp0_10_96x) 12 zp0_11_96x) 13 zp0_12_96x) 14 zp0_13_96x) 15 zp0_14_96x) 16 zp0_15_96x) 17 zp0_16_96x) 18 zp0_17_96x) 19 zp0_18_96x))] : List (List (ClassId × FieldType))))) hPx hDx hKx hk1 hFc b1 (va_K.moved hvm.symm b2) b3
  have hP : va_P (dC, dI) cls (List.flatten ([(oX2 (p0a 0) (st1 (st1 (st1 (st1 (st1 (st1 (st1 (st1 (st1 (st1 (st1 (st1 (st1 (st1 p0a 4 xp0_3_96x) 5 xp0_4_96x) 6 xp0_5_96x) 7 xp0_6_96x) 10 xp0_9_96x) 11 xp0_10_96x) 12 xp0_11_96x) 13 xp0_12_96x) 14 xp0_13_96x) 15 xp0_14_96x) 16 xp0_15_96x) 17 xp0_16_96x) 18 xp0_17_96x) 19 xp0_18_96x) (st1 (st1 (st1 (st1 (st1 (st1 (st1 (st1 (st1 (st1 (st1 (st1 (st1 (st1 p0k 4 zp0_3_96x) 5 zp0_4_96x) 6 zp0_5_96x) 7 zp0_6_96x) 10 zp0_9_96x) 11 zp0_10_96x) 12 zp0_11_96x) 13 zp0_12_96x) 14 zp0_13_96x) 15 zp0_14_96x) 16 zp0_15_96x) 17 zp0_16_96x) 18 zp0_17_96x) 19 zp0_18_96x) (o96.2.2) (o96.1) o_71), (oX1 (p1a 0) p1a p1k p1n p1w p1l), (oX9 (p1a 3) p1_2a p1_2k p1_2n p1_2w)] : List va_W)) H := vP_perm (vP_fb hP) (bP (List.Perm.refl _))
  have hD : va_D A (List.flatten ([(oX2 (p0a 0) (st1 (st1 (st1 (st1 (st1 (st1 (st1 (st1 (st1 (st1 (st1 (st1 (st1 (st1 p0a 4 xp0_3_96x) 5 xp0_4_96x) 6 xp0_5_96x) 7 xp0_6_96x) 10 xp0_9_96x) 11 xp0_10_96x) 12 xp0_11_96x) 13 xp0_12_96x) 14 xp0_13_96x) 15 xp0_14_96x) 16 xp0_15_96x) 17 xp0_16_96x) 18 xp0_17_96x) 19 xp0_18_96x) (st1 (st1 (st1 (st1 (st1 (st1 (st1 (st1 (st1 (st1 (st1 (st1 (st1 (st1 p0k 4 zp0_3_96x) 5 zp0_4_96x) 6 zp0_5_96x) 7 zp0_6_96x) 10 zp0_9_96x) 11 zp0_10_96x) 12 zp0_11_96x) 13 zp0_12_96x) 14 zp0_13_96x) 15 zp0_14_96x) 16 zp0_15_96x) 17 zp0_16_96x) 18 zp0_17_96x) 19 zp0_18_96x) (o96.2.2) (o96.1) o_71), (oX1 (p1a 0) p1a p1k p1n p1w p1l), (oX9 (p1a 3) p1_2a p1_2k p1_2n p1_2w)] : List va_W)) := vD_perm (vD_fb hD) (bP (List.Perm.refl _))
  have hK : va_K (dC, dI) cls (List.flatten ([(tX2 (st1 (st1 (st1 (st1 (st1 (st1 (st1 (st1 (st1 (st1 (st1 (st1 (st1 (st1 p0k 4 zp0_3_96x) 5 zp0_4_96x) 6 zp0_5_96x) 7 zp0_6_96x) 10 zp0_9_96x) 11 zp0_10_96x) 12 zp0_11_96x) 13 zp0_12_96x) 14 zp0_13_96x) 15 zp0_14_96x) 16 zp0_15_96x) 17 zp0_16_96x) 18 zp0_17_96x) 19 zp0_18_96x)), (tX1 p1k), (tX9 p1_2k)] : List (List (ClassId × FieldType)))) s := vK_perm (vK_fb hK) (bP (List.Perm.refl _))
  refine lv_aload_n hx hb dX2_reckon_122 rfl (lv_at hl 0 rfl) ?_
  obtain ⟨o_72, hc_72, hrun⟩ := bnd9 hrun
  have hPx : va_P (dC, dI) cls ((List.flatten ([(oX2 (p0a 0) (st1 (st1 (st1 (st1 (st1 (st1 (st1 (st1 (st1 (st1 (st1 (st1 (st1 (st1 p0a 4 xp0_3_96x) 5 xp0_4_96x) 6 xp0_5_96x) 7 xp0_6_96x) 10 xp0_9_96x) 11 xp0_10_96x) 12 xp0_11_96x) 13 xp0_12_96x) 14 xp0_13_96x) 15 xp0_14_96x) 16 xp0_15_96x) 17 xp0_16_96x) 18 xp0_17_96x) 19 xp0_18_96x) (st1 (st1 (st1 (st1 (st1 (st1 (st1 (st1 (st1 (st1 (st1 (st1 (st1 (st1 p0k 4 zp0_3_96x) 5 zp0_4_96x) 6 zp0_5_96x) 7 zp0_6_96x) 10 zp0_9_96x) 11 zp0_10_96x) 12 zp0_11_96x) 13 zp0_12_96x) 14 zp0_13_96x) 15 zp0_14_96x) 16 zp0_15_96x) 17 zp0_16_96x) 18 zp0_17_96x) 19 zp0_18_96x) (o96.2.2) (o96.1) o_71)] : List va_W)) ++ (List.flatten ([(oX1 (p1a 0) p1a p1k p1n p1w p1l), (oX9 (p1a 3) p1_2a p1_2k p1_2n p1_2w)] : List va_W))) H := vP_fa (vP_perm hP (bP (List.Perm.refl _)))
  have hDx : va_D A ((List.flatten ([(oX2 (p0a 0) (st1 (st1 (st1 (st1 (st1 (st1 (st1 (st1 (st1 (st1 (st1 (st1 (st1 (st1 p0a 4 xp0_3_96x) 5 xp0_4_96x) 6 xp0_5_96x) 7 xp0_6_96x) 10 xp0_9_96x) 11 xp0_10_96x) 12 xp0_11_96x) 13 xp0_12_96x) 14 xp0_13_96x) 15 xp0_14_96x) 16 xp0_15_96x) 17 xp0_16_96x) 18 xp0_17_96x) 19 xp0_18_96x) (st1 (st1 (st1 (st1 (st1 (st1 (st1 (st1 (st1 (st1 (st1 (st1 (st1 (st1 p0k 4 zp0_3_96x) 5 zp0_4_96x) 6 zp0_5_96x) 7 zp0_6_96x) 10 zp0_9_96x) 11 zp0_10_96x) 12 zp0_11_96x) 13 zp0_12_96x) 14 zp0_13_96x) 15 zp0_14_96x) 16 zp0_15_96x) 17 zp0_16_96x) 18 zp0_17_96x) 19 zp0_18_96x) (o96.2.2) (o96.1) o_71)] : List va_W)) ++ (List.flatten ([(oX1 (p1a 0) p1a p1k p1n p1w p1l), (oX9 (p1a 3) p1_2a p1_2k p1_2n p1_2w)] : List va_W))) := vD_fa (vD_perm hD (bP (List.Perm.refl _)))
  have hKx : va_K (dC, dI) cls ((List.flatten ([(tX2 (st1 (st1 (st1 (st1 (st1 (st1 (st1 (st1 (st1 (st1 (st1 (st1 (st1 (st1 p0k 4 zp0_3_96x) 5 zp0_4_96x) 6 zp0_5_96x) 7 zp0_6_96x) 10 zp0_9_96x) 11 zp0_10_96x) 12 zp0_11_96x) 13 zp0_12_96x) 14 zp0_13_96x) 15 zp0_14_96x) 16 zp0_15_96x) 17 zp0_16_96x) 18 zp0_17_96x) 19 zp0_18_96x))] : List (List (ClassId × FieldType)))) ++ (List.flatten ([(tX1 p1k), (tX9 p1_2k)] : List (List (ClassId × FieldType))))) s := vK_fa (vK_perm hK (bP (List.Perm.refl _)))
  have hPc := vP_l hPx
  have hDc := vD_l hDx
  have hKc := vK_l hKx
  have hFc := vfree hDx hS hA
  refine va_callv (va_runV (As := []) (rest := []) ⟨hx, hb, hml, hown, hts⟩ (kX2_countDegrees l dC dI (p0a := (st0 (p0a 0) (st1 (st1 (st1 (st1 (st1 (st1 (st1 (st1 (st1 (st1 (st1 (st1 (st1 (st1 p0a 4 xp0_3_96x) 5 xp0_4_96x) 6 xp0_5_96x) 7 xp0_6_96x) 10 xp0_9_96x) 11 xp0_10_96x) 12 xp0_11_96x) 13 xp0_12_96x) 14 xp0_13_96x) 15 xp0_14_96x) 16 xp0_15_96x) 17 xp0_16_96x) 18 xp0_17_96x) 19 xp0_18_96x))) (p0k := (st1 (st1 (st1 (st1 (st1 (st1 (st1 (st1 (st1 (st1 (st1 (st1 (st1 (st1 p0k 4 zp0_3_96x) 5 zp0_4_96x) 6 zp0_5_96x) 7 zp0_6_96x) 10 zp0_9_96x) 11 zp0_10_96x) 12 zp0_11_96x) 13 zp0_12_96x) 14 zp0_13_96x) 15 zp0_14_96x) 16 zp0_15_96x) 17 zp0_16_96x) 18 zp0_17_96x) 19 zp0_18_96x)) (p0n := (o96.2.2)) (p0w := (o96.1)) (p0l := o_71) (sz := _) (o := o_72) (hrun := hc_72)) (cwV 0 hts (gi_V qw783 qw784 qw785 qw694 (gi_z qw782)) rfl rfl rfl (by decide +kernel) ⟨Nat.le_of_ble_eq_true rfl, Nat.le_of_ble_eq_true rfl⟩) ⟨PRE.blind, va_recv hKc hPc (ci := 9) (q0 := 0) rfl rfl, PRE.of hE hS hFc hPc hKc hDc⟩ rfl rfl hl.1 rfl (lv_room (Nat.le_of_ble_eq_true rfl)) dX2_reckon_123 ⟨(show (hcX2 p0n (o96.2.2)) + 0 ≤ (hcX2 p0n (o.2.2)) from by have q0 := gmX2 hg_p0 hgn_p0; omega), (show (3 * (gcX2 p0n (o96.2.2))) + 0 ≤ (3 * (gcX2 p0n (o.2.2))) from by have q0 := gmX2 hg_p0 hgn_p0; omega)⟩) hS (fun q _ h => hFc q h) hFc (fun u t H locs ht hvm hw hB hz1 hk1 hS => ?_)
  obtain ⟨b1, b2, b3⟩ := hB
  rw [ht] at b1
  obtain ⟨hP, hD, hK⟩ := JOINC (wc := (List.flatten ([(oX2 (p0a 0) (st1 (st1 (st1 (st1 (st1 (st1 (st1 (st1 (st1 (st1 (st1 (st1 (st1 (st1 p0a 4 xp0_3_96x) 5 xp0_4_96x) 6 xp0_5_96x) 7 xp0_6_96x) 10 xp0_9_96x) 11 xp0_10_96x) 12 xp0_11_96x) 13 xp0_12_96x) 14 xp0_13_96x) 15 xp0_14_96x) 16 xp0_15_96x) 17 xp0_16_96x) 18 xp0_17_96x) 19 xp0_18_96x) (st1 (st1 (st1 (st1 (st1 (st1 (st1 (st1 (st1 (st1 (st1 (st1 (st1 (st1 p0k 4 zp0_3_96x) 5 zp0_4_96x) 6 zp0_5_96x) 7 zp0_6_96x) 10 zp0_9_96x) 11 zp0_10_96x) 12 zp0_11_96x) 13 zp0_12_96x) 14 zp0_13_96x) 15 zp0_14_96x) 16 zp0_15_96x) 17 zp0_16_96x) 18 zp0_17_96x) 19 zp0_18_96x) (o96.2.2) (o96.1) o_71)] : List va_W))) (wr := (List.flatten ([(oX1 (p1a 0) p1a p1k p1n p1w p1l), (oX9 (p1a 3) p1_2a p1_2k p1_2n p1_2w)] : List va_W))) (w1 := (List.flatten ([(oX2 (p0a 0) (st1 (st1 (st1 (st1 (st1 (st1 (st1 (st1 (st1 (st1 (st1 (st1 (st1 (st1 p0a 4 xp0_3_96x) 5 xp0_4_96x) 6 xp0_5_96x) 7 xp0_6_96x) 10 xp0_9_96x) 11 xp0_10_96x) 12 xp0_11_96x) 13 xp0_12_96x) 14 xp0_13_96x) 15 xp0_14_96x) 16 xp0_15_96x) 17 xp0_16_96x) 18 xp0_17_96x) 19 xp0_18_96x) (st1 (st1 (st1 (st1 (st1 (st1 (st1 (st1 (st1 (st1 (st1 (st1 (st1 (st1 p0k 4 zp0_3_96x) 5 zp0_4_96x) 6 zp0_5_96x) 7 zp0_6_96x) 10 zp0_9_96x) 11 zp0_10_96x) 12 zp0_11_96x) 13 zp0_12_96x) 14 zp0_13_96x) 15 zp0_14_96x) 16 zp0_15_96x) 17 zp0_16_96x) 18 zp0_17_96x) 19 zp0_18_96x) (o96.2.2) o_72 o_71)] : List va_W))) (t1 := (List.flatten ([(tX2 (st1 (st1 (st1 (st1 (st1 (st1 (st1 (st1 (st1 (st1 (st1 (st1 (st1 (st1 p0k 4 zp0_3_96x) 5 zp0_4_96x) 6 zp0_5_96x) 7 zp0_6_96x) 10 zp0_9_96x) 11 zp0_10_96x) 12 zp0_11_96x) 13 zp0_12_96x) 14 zp0_13_96x) 15 zp0_14_96x) 16 zp0_15_96x) 17 zp0_16_96x) 18 zp0_17_96x) 19 zp0_18_96x))] : List (List (ClassId × FieldType))))) hPx hDx hKx hk1 hFc b1 (va_K.moved hvm.symm b2) b3
  have hP : va_P (dC, dI) cls (List.flatten ([(oX2 (p0a 0) (st1 (st1 (st1 (st1 (st1 (st1 (st1 (st1 (st1 (st1 (st1 (st1 (st1 (st1 p0a 4 xp0_3_96x) 5 xp0_4_96x) 6 xp0_5_96x) 7 xp0_6_96x) 10 xp0_9_96x) 11 xp0_10_96x) 12 xp0_11_96x) 13 xp0_12_96x) 14 xp0_13_96x) 15 xp0_14_96x) 16 xp0_15_96x) 17 xp0_16_96x) 18 xp0_17_96x) 19 xp0_18_96x) (st1 (st1 (st1 (st1 (st1 (st1 (st1 (st1 (st1 (st1 (st1 (st1 (st1 (st1 p0k 4 zp0_3_96x) 5 zp0_4_96x) 6 zp0_5_96x) 7 zp0_6_96x) 10 zp0_9_96x) 11 zp0_10_96x) 12 zp0_11_96x) 13 zp0_12_96x) 14 zp0_13_96x) 15 zp0_14_96x) 16 zp0_15_96x) 17 zp0_16_96x) 18 zp0_17_96x) 19 zp0_18_96x) (o96.2.2) o_72 o_71), (oX1 (p1a 0) p1a p1k p1n p1w p1l), (oX9 (p1a 3) p1_2a p1_2k p1_2n p1_2w)] : List va_W)) H := vP_perm (vP_fb hP) (bP (List.Perm.refl _))
  have hD : va_D A (List.flatten ([(oX2 (p0a 0) (st1 (st1 (st1 (st1 (st1 (st1 (st1 (st1 (st1 (st1 (st1 (st1 (st1 (st1 p0a 4 xp0_3_96x) 5 xp0_4_96x) 6 xp0_5_96x) 7 xp0_6_96x) 10 xp0_9_96x) 11 xp0_10_96x) 12 xp0_11_96x) 13 xp0_12_96x) 14 xp0_13_96x) 15 xp0_14_96x) 16 xp0_15_96x) 17 xp0_16_96x) 18 xp0_17_96x) 19 xp0_18_96x) (st1 (st1 (st1 (st1 (st1 (st1 (st1 (st1 (st1 (st1 (st1 (st1 (st1 (st1 p0k 4 zp0_3_96x) 5 zp0_4_96x) 6 zp0_5_96x) 7 zp0_6_96x) 10 zp0_9_96x) 11 zp0_10_96x) 12 zp0_11_96x) 13 zp0_12_96x) 14 zp0_13_96x) 15 zp0_14_96x) 16 zp0_15_96x) 17 zp0_16_96x) 18 zp0_17_96x) 19 zp0_18_96x) (o96.2.2) o_72 o_71), (oX1 (p1a 0) p1a p1k p1n p1w p1l), (oX9 (p1a 3) p1_2a p1_2k p1_2n p1_2w)] : List va_W)) := vD_perm (vD_fb hD) (bP (List.Perm.refl _))
  have hK : va_K (dC, dI) cls (List.flatten ([(tX2 (st1 (st1 (st1 (st1 (st1 (st1 (st1 (st1 (st1 (st1 (st1 (st1 (st1 (st1 p0k 4 zp0_3_96x) 5 zp0_4_96x) 6 zp0_5_96x) 7 zp0_6_96x) 10 zp0_9_96x) 11 zp0_10_96x) 12 zp0_11_96x) 13 zp0_12_96x) 14 zp0_13_96x) 15 zp0_14_96x) 16 zp0_15_96x) 17 zp0_16_96x) 18 zp0_17_96x) 19 zp0_18_96x)), (tX1 p1k), (tX9 p1_2k)] : List (List (ClassId × FieldType)))) s := vK_perm (vK_fb hK) (bP (List.Perm.refl _))
  have ho9 : (o_72, o_71, (o96.2.2)) = o := Option.some.inj hrun
  subst ho9
  subst hQ
  exact W.vret hx hb hr (fun t ht hW => ⟨⟨(), rfl, trivial, ⟨xp0_3_96x, zp0_3_96x, xp0_4_96x, zp0_4_96x, xp0_5_96x, zp0_5_96x, xp0_6_96x, zp0_6_96x, xp0_9_96x, zp0_9_96x, xp0_10_96x, zp0_10_96x, xp0_11_96x, zp0_11_96x, xp0_12_96x, zp0_12_96x, xp0_13_96x, zp0_13_96x, xp0_14_96x, zp0_14_96x, xp0_15_96x, zp0_15_96x, xp0_16_96x, zp0_16_96x, xp0_17_96x, zp0_17_96x, xp0_18_96x, zp0_18_96x, by rw [ht]; exact hP, va_K.moved hW.alike hK, hD⟩⟩, hS.F ht⟩) hS.2.2 dX2_reckon_126
def fX2_isIn_a1_p0_10 (p0n : Nat → Nat) (p0w : ST) (p0l : SL) (p2 : Int32) (p3 : Int32) : Option Int32 := (if ixb ((p2 * (p0w 0 2)) + (p3 >>> (6 &&& 31))) (p0n 11) = true then ((fX11_holds (p0l 11 (nn ((p2 * (p0w 0 2)) + (p3 >>> (6 &&& 31))))) (p3 &&& 63)).bind fun (o_2 : Int32) => (if o_2 = 0 ∨ o_2 = 1 then some o_2 else none)) else none)
set_option maxHeartbeats 16000000 in
set_option maxRecDepth 100000 in
theorem kX2_isIn_a1_p0_10 {zs : ZS} (l : Launch) (dC : Nat → ClassId) (dI : Nat → Nat → Nat) (p0a : Nat → Nat) (p0k : Nat → ClassId) (p0n : Nat → Nat) (p0w : ST) (p0l : SL) (p2 : Int32) (p3 : Int32) (sz : Nat) (o : Int32) (hrun : fX2_isIn_a1_p0_10 p0n p0w p0l p2 p3 = some o) : Met l yX2_isIn (wz yX2_isIn cX2_isIn 4 (Option.some Jvm.ClassFile.FieldType.boolean)) ({ frames := 1, cells := 0, slots := 0, locals := 22 } : Room) (va_Pc [.ref (p0a 0), .ref (p0a 11), .int p2, .int p3] (PRE zs dC dI (List.flatten ([(oX2 (p0a 0) p0a p0k p0n p0w p0l)] : List va_W)) (List.flatten ([(tX2 p0k)] : List (List (ClassId × FieldType)))) sz)) (va_Qi (fun (r : Int32) (_ : Unit) => r = o) (fun _ t => POST dC dI (List.flatten ([(oX2 (p0a 0) p0a p0k p0n p0w p0l)] : List va_W)) (List.flatten ([(tX2 p0k)] : List (List (ClassId × FieldType)))) (va_A (List.flatten ([(oX2 (p0a 0) p0a p0k p0n p0w p0l)] : List va_W)) sz) t) (va_A (List.flatten ([(oX2 (p0a 0) p0a p0k p0n p0w p0l)] : List va_W)) sz)) 0 0 (va_A (List.flatten ([(oX2 (p0a 0) p0a p0k p0n p0w p0l)] : List va_W)) sz) := by
  refine Met.ofW (cc := cX2_isIn) (maxL := 4) (ret := (Option.some Jvm.ClassFile.FieldType.boolean)) (by decide) rfl ?_
  intro p e s m args below meth c s₁ B hml hv
  obtain ⟨rfl, hsz, hP, hK, hD0, hE⟩ := hv
  have hx := B.exec
  have hb := B.bytes
  have hr := B.returns
  have hts0 := atoms_spec (ws := wz yX2_isIn cX2_isIn 4 (Option.some Jvm.ClassFile.FieldType.boolean)) B.pre
  have hts : ∀ w ∈ gw, w.before _ s = true := fun w h => hts0 w (List.mem_cons_of_mem _ h)
  have hown : s.vm.findClass RX2 = some m.cls := findClass_of_methodNamed B.named
  have hlocks := B.notSynchronized
  subst hsz
  have hD := hD0.self (sz := s.heap.size)
  refine gQ9 ?_
  intro Q hQ
  generalize hAe : va_A (List.flatten ([(oX2 (p0a 0) p0a p0k p0n p0w p0l)] : List va_W)) s.heap.size = A at hD hE hQ
  have hA : ∀ q : Nat, s.heap.size ≤ q → A q := fun q h => by rw [← hAe]; exact Or.inr h
  have hS : va_S A s.heap s.heap [] := va_S.rf
  have hP : va_P (dC, dI) cls (List.flatten ([(oX2 (p0a 0) p0a p0k p0n p0w p0l)] : List va_W)) s.heap := hP
  have hl := lv_entry ([.ref (p0a 0), .ref (p0a 11), .int p2, .int p3]) (n := 4) (Nat.le_of_ble_eq_true rfl)
  rw [lg_entry_eq]
  generalize (lg_sl ([.ref (p0a 0), .ref (p0a 11), .int p2, .int p3]) ++ List.replicate (4 - (lg_sl ([.ref (p0a 0), .ref (p0a 11), .int p2, .int p3])).length) Slot.unset).toArray = ls at hl ⊢
  have hl : lv_has ls 4 [(0, .ref (p0a 0)), (1, .ref (p0a 11)), (2, .int p2), (3, .int p3)] := hl
  obtain ⟨H, hHe⟩ : ∃ H, H = s.heap := ⟨_, rfl⟩
  obtain ⟨locs, hle⟩ : ∃ locs : List Loc, locs = [] := ⟨_, rfl⟩
  rw [← hHe] at hP
  have hS : va_S A s.heap H locs := by rw [hHe, hle]; exact hS
  show W p l e ({ frames := 1, cells := 0, slots := 0, locals := 22 } : Room) s m ([.ref (p0a 0), .ref (p0a 11), .int p2, .int p3] : List Value).toArray below meth c s.heap [] 0 0 Q (F0 m 0 ls [])
  rw [← hle]
  refine wH9 hHe ?_
  unfold fX2_isIn_a1_p0_10 at hrun
  refine lv_aload_n hx hb dX2_isIn_0 rfl (lv_at hl 1 rfl) ?_
  refine lv_iload_n hx hb dX2_isIn_1 rfl (lv_at hl 2 rfl) ?_
  refine lv_aload_n hx hb dX2_isIn_2 rfl (lv_at hl 0 rfl) ?_
  refine va_get (D := (dC, dI)) (ci := 9) (v := .int (p0w 0 2)) (C := RX2) (T := TX2) (N := 19) hx hb hts i_X2 hown hK hP 0 rfl rfl 2 (by decide) (hts _ qw669) (fun _ h9 => h9) rfl dX2_isIn_3 ?_
  refine lv_imul hx hb dX2_isIn_6 ?_
  refine lv_iload_n hx hb dX2_isIn_7 rfl (lv_at hl 3 rfl) ?_
  refine lv_bipush (v := 6) hx hb dX2_isIn_8 (by decide) ?_
  refine lv_ishr hx hb dX2_isIn_10 ?_
  refine lv_iadd hx hb dX2_isIn_11 ?_
  obtain ⟨hq1, hrun⟩ := chk9 hrun
  refine va_lald hx hb hK hP 7 6 rfl rfl (ixb_in hq1) dX2_isIn_12 ?_
  refine lv_iload_n hx hb dX2_isIn_13 rfl (lv_at hl 3 rfl) ?_
  refine lv_bipush (v := 63) hx hb dX2_isIn_14 (by decide) ?_
  refine lv_iand hx hb dX2_isIn_16 ?_
  obtain ⟨o_2, hc_2, hrun⟩ := bnd9 hrun
  have hPx : va_P (dC, dI) cls ((List.flatten ([] : List va_W)) ++ (List.flatten ([(oX2 (p0a 0) p0a p0k p0n p0w p0l)] : List va_W))) H := vP_fa (vP_perm hP (bP (List.Perm.refl _)))
  have hDx : va_D A ((List.flatten ([] : List va_W)) ++ (List.flatten ([(oX2 (p0a 0) p0a p0k p0n p0w p0l)] : List va_W))) := vD_fa (vD_perm hD (bP (List.Perm.refl _)))
  have hKx : va_K (dC, dI) cls ((List.flatten ([] : List (List (ClassId × FieldType)))) ++ (List.flatten ([(tX2 p0k)] : List (List (ClassId × FieldType))))) s := vK_fa (vK_perm hK (bP (List.Perm.refl _)))
  have hPc := vP_l hPx
  have hDc := vD_l hDx
  have hKc := vK_l hKx
  have hFc := vfree hDx hS hA
  refine va_calli (va_runSN (As := [.long (p0l 11 (nn ((p2 * (p0w 0 2)) + (p3 >>> (6 &&& 31))))), .int (p3 &&& 63)]) (rest := []) ⟨hx, hb, hml, hown, hts⟩ (kX11_holds l dC dI (p0 := (p0l 11 (nn ((p2 * (p0w 0 2)) + (p3 >>> (6 &&& 31)))))) (p1 := (p3 &&& 63)) (sz := _) (o := o_2) (hrun := hc_2)) ⟨(va_cnB 2 hts (gi_z qw192) rfl rfl rfl (hE.nw (List.mem_append_right _ (tbl_8 (i := 223) rfl)) rfl) (hts _ qw129) (by decide +kernel) ⟨Nat.le_of_ble_eq_true rfl, Nat.le_of_ble_eq_true rfl⟩), (hts _ qw193), trivial⟩ ⟨PRE.blind, PRE.of hE hS hFc hPc hKc hDc⟩ rfl rfl hl.1 rfl (lv_room (Nat.le_of_ble_eq_true rfl)) dX2_isIn_17 ⟨(Nat.le_of_ble_eq_true rfl), (Nat.le_of_ble_eq_true rfl)⟩) hS (fun q _ h => hFc q h) hFc (fun r3 u t H locs ht hvm hw hB hz1 hk1 hS => ?_)
  obtain ⟨b1, b2, b3⟩ := hB
  rw [ht] at b1
  obtain ⟨hP, hD, hK⟩ := JOINC (wc := (List.flatten ([] : List va_W))) (wr := (List.flatten ([(oX2 (p0a 0) p0a p0k p0n p0w p0l)] : List va_W))) (w1 := (List.flatten ([] : List va_W))) (t1 := (List.flatten ([] : List (List (ClassId × FieldType))))) hPx hDx hKx hk1 hFc b1 (va_K.moved hvm.symm b2) b3
  have hP : va_P (dC, dI) cls (List.flatten ([(oX2 (p0a 0) p0a p0k p0n p0w p0l)] : List va_W)) H := vP_perm (vP_fb hP) (bP (List.Perm.refl _))
  have hD : va_D A (List.flatten ([(oX2 (p0a 0) p0a p0k p0n p0w p0l)] : List va_W)) := vD_perm (vD_fb hD) (bP (List.Perm.refl _))
  have hK : va_K (dC, dI) cls (List.flatten ([(tX2 p0k)] : List (List (ClassId × FieldType)))) s := vK_perm (vK_fb hK) (bP (List.Perm.refl _))
  obtain rfl : o_2 = r3 := hw.symm
  obtain ⟨hz9, hrun⟩ := chk9 hrun
  have ho9 : o_2 = o := Option.some.inj hrun
  have hP9 : va_P (dC, dI) cls (List.flatten ([(oX2 (p0a 0) p0a p0k p0n p0w p0l)] : List va_W)) H := by first | exact hP | (rw [← ho9]; exact hP)
  have hD9 : va_D A (List.flatten ([(oX2 (p0a 0) p0a p0k p0n p0w p0l)] : List va_W)) := by first | exact hD | (rw [← ho9]; exact hD)
  subst hQ
  exact W.zret (v := o_2) hx hb hr (bz9 hz9) (fun t ht hW => ⟨⟨o_2, (), rfl, (by rw [← ho9]), ⟨by rw [ht]; exact hP9, va_K.moved hW.alike hK, hD9⟩⟩, hS.F ht⟩) hS.2.2 dX2_isIn_20
def fX2_mayUnite_J29  : Option Int32 := some 0
def fX2_mayUnite_J111 (kk77 : Int32 → Int64 → Option Int32) (v6_77 : Int64) (y0_111 : Int32) (y1_111 : Int32) : Option Int32 := (kk77 (y1_111 + y0_111) (v6_77 &&& (v6_77 - (1 : Int64))))
def fX2_mayUnite_L77 (p0n : Nat → Nat) (p0w : ST) (p3 : Int32) (v5_37 : Int32) : Nat → Int32 → Int64 → Option Int32
  | 0 => fun _ _ => none
  | n_77 + 1 => fun v4_77 v6_77 => (if (lg_cmp v6_77 (0 : Int64)) = 0 then some v4_77 else ((fX11_lowest v6_77).bind fun (o_10 : Int32) => (if ixb ((v5_37 * 64) + o_10) (p0n 13) = true then (if (p0w 13 (nn ((v5_37 * 64) + o_10))) < p3 then (fX2_mayUnite_J111 (fX2_mayUnite_L77 p0n p0w p3 v5_37 n_77) v6_77 0 v4_77) else (fX2_mayUnite_J111 (fX2_mayUnite_L77 p0n p0w p3 v5_37 n_77) v6_77 1 v4_77)) else none)))
def fX2_mayUnite_L37 (p0n : Nat → Nat) (p0w : ST) (p0l : SL) (p1 : Int32) (p2 : Int32) (p3 : Int32) : Nat → Int32 → Int32 → Option Int32
  | 0 => fun _ _ => none
  | n_37 + 1 => fun v4_37 v5_37 => (if (p0w 0 2) ≤ v5_37 then some v4_37 else (if ixb ((p1 * (p0w 0 2)) + v5_37) (p0n 11) = true then (if ixb ((p2 * (p0w 0 2)) + v5_37) (p0n 11) = true then ((fX2_mayUnite_L77 p0n p0w p3 v5_37 NF v4_37 ((p0l 11 (nn ((p1 * (p0w 0 2)) + v5_37))) ||| (p0l 11 (nn ((p2 * (p0w 0 2)) + v5_37))))).bind fun (o77 : Int32) => ((fX2_mayUnite_L37 p0n p0w p0l p1 p2 p3 n_37) o77 (v5_37 + 1))) else none) else none))
def fX2_mayUnite_J189 (kk138 : Int32 → Int32 → Option Int32) (v5_138 : Int32) (v4_189 : Int32) : Option Int32 := (kk138 v4_189 (v5_138 + 1))
def fX2_mayUnite_J186 (kk138 : Int32 → Int32 → Option Int32) (v4_138 : Int32) (v5_138 : Int32) : Option Int32 := (fX2_mayUnite_J189 kk138 v5_138 (v4_138 + 1))
def fX2_mayUnite_L138 (p0n : Nat → Nat) (p0w : ST) (p0l : SL) (p1 : Int32) (p2 : Int32) (p3 : Int32) : Nat → Int32 → Int32 → Option Int32
  | 0 => fun _ _ => none
  | n_138 + 1 => fun v4_138 v5_138 => (if (p0w 0 1) ≤ v5_138 then some v4_138 else (if ixb v5_138 (p0n 13) = true then (if (p0w 13 (nn v5_138)) < p3 then (fX2_mayUnite_J189 (fX2_mayUnite_L138 p0n p0w p0l p1 p2 p3 n_138) v5_138 v4_138) else ((fX2_isIn_a1_p0_10 p0n p0w p0l v5_138 p1).bind fun (o_17 : Int32) => (if o_17 = 0 then ((fX2_isIn_a1_p0_10 p0n p0w p0l v5_138 p2).bind fun (o_20 : Int32) => (if o_20 = 0 then (fX2_mayUnite_J189 (fX2_mayUnite_L138 p0n p0w p0l p1 p2 p3 n_138) v5_138 v4_138) else (fX2_mayUnite_J186 (fX2_mayUnite_L138 p0n p0w p0l p1 p2 p3 n_138) v4_138 v5_138))) else (fX2_mayUnite_J186 (fX2_mayUnite_L138 p0n p0w p0l p1 p2 p3 n_138) v4_138 v5_138)))) else none))
def fX2_mayUnite_J206 (y0_206 : Int32) : Option Int32 := (if y0_206 = 0 ∨ y0_206 = 1 then some y0_206 else none)
def fX2_mayUnite (p0n : Nat → Nat) (p0w : ST) (p0l : SL) (p1 : Int32) (p2 : Int32) (p3 : Int32) : Option Int32 := (if (p0w 0 0) ≤ p1 then (fX2_mayUnite_J29) else (if (p0w 0 0) ≤ p2 then (fX2_mayUnite_J29) else ((fX2_isIn_a1_p0_10 p0n p0w p0l p1 p2).bind fun (o_3 : Int32) => (if o_3 = 0 then ((fX2_mayUnite_L37 p0n p0w p0l p1 p2 p3 NF 0 0).bind fun (o37 : Int32) => ((fX2_mayUnite_L138 p0n p0w p0l p1 p2 p3 NF o37 (p0w 0 0)).bind fun (o138 : Int32) => (if p3 ≤ o138 then (fX2_mayUnite_J206 0) else (fX2_mayUnite_J206 1)))) else (fX2_mayUnite_J29)))))
set_option maxHeartbeats 16000000 in
set_option maxRecDepth 100000 in
theorem kX2_mayUnite {zs : ZS} (l : Launch) (dC : Nat → ClassId) (dI : Nat → Nat → Nat) (p0a : Nat → Nat) (p0k : Nat → ClassId) (p0n : Nat → Nat) (p0w : ST) (p0l : SL) (p1 : Int32) (p2 : Int32) (p3 : Int32) (sz : Nat) (o : Int32) (hrun : fX2_mayUnite p0n p0w p0l p1 p2 p3 = some o) : Met l yX2_mayUnite (wz yX2_mayUnite cX2_mayUnite 8 (Option.some Jvm.ClassFile.FieldType.boolean)) ({ frames := 2, cells := 0, slots := 0, locals := 45 } : Room) (va_Pc [.ref (p0a 0), .int p1, .int p2, .int p3] (PRE zs dC dI (List.flatten ([(oX2 (p0a 0) p0a p0k p0n p0w p0l)] : List va_W)) (List.flatten ([(tX2 p0k)] : List (List (ClassId × FieldType)))) sz)) (va_Qi (fun (r : Int32) (_ : Unit) => r = o) (fun _ t => POST dC dI (List.flatten ([(oX2 (p0a 0) p0a p0k p0n p0w p0l)] : List va_W)) (List.flatten ([(tX2 p0k)] : List (List (ClassId × FieldType)))) (va_A (List.flatten ([(oX2 (p0a 0) p0a p0k p0n p0w p0l)] : List va_W)) sz) t) (va_A (List.flatten ([(oX2 (p0a 0) p0a p0k p0n p0w p0l)] : List va_W)) sz)) 0 0 (va_A (List.flatten ([(oX2 (p0a 0) p0a p0k p0n p0w p0l)] : List va_W)) sz) := by
  refine Met.ofW (cc := cX2_mayUnite) (maxL := 8) (ret := (Option.some Jvm.ClassFile.FieldType.boolean)) (by decide) rfl ?_
  intro p e s m args below meth c s₁ B hml hv
  obtain ⟨rfl, hsz, hP, hK, hD0, hE⟩ := hv
  have hx := B.exec
  have hb := B.bytes
  have hr := B.returns
  have hts0 := atoms_spec (ws := wz yX2_mayUnite cX2_mayUnite 8 (Option.some Jvm.ClassFile.FieldType.boolean)) B.pre
  have hts : ∀ w ∈ gw, w.before _ s = true := fun w h => hts0 w (List.mem_cons_of_mem _ h)
  have hown : s.vm.findClass RX2 = some m.cls := findClass_of_methodNamed B.named
  have hlocks := B.notSynchronized
  subst hsz
  have hD := hD0.self (sz := s.heap.size)
  refine gQ9 ?_
  intro Q hQ
  generalize hAe : va_A (List.flatten ([(oX2 (p0a 0) p0a p0k p0n p0w p0l)] : List va_W)) s.heap.size = A at hD hE hQ
  have hA : ∀ q : Nat, s.heap.size ≤ q → A q := fun q h => by rw [← hAe]; exact Or.inr h
  have hS : va_S A s.heap s.heap [] := va_S.rf
  have hP : va_P (dC, dI) cls (List.flatten ([(oX2 (p0a 0) p0a p0k p0n p0w p0l)] : List va_W)) s.heap := hP
  have hl := lv_entry ([.ref (p0a 0), .int p1, .int p2, .int p3]) (n := 8) (Nat.le_of_ble_eq_true rfl)
  rw [lg_entry_eq]
  generalize (lg_sl ([.ref (p0a 0), .int p1, .int p2, .int p3]) ++ List.replicate (8 - (lg_sl ([.ref (p0a 0), .int p1, .int p2, .int p3])).length) Slot.unset).toArray = ls at hl ⊢
  have hl : lv_has ls 8 [(0, .ref (p0a 0)), (1, .int p1), (2, .int p2), (3, .int p3)] := hl
  obtain ⟨H, hHe⟩ : ∃ H, H = s.heap := ⟨_, rfl⟩
  obtain ⟨locs, hle⟩ : ∃ locs : List Loc, locs = [] := ⟨_, rfl⟩
  rw [← hHe] at hP
  have hS : va_S A s.heap H locs := by rw [hHe, hle]; exact hS
  show W p l e ({ frames := 2, cells := 0, slots := 0, locals := 45 } : Room) s m ([.ref (p0a 0), .int p1, .int p2, .int p3] : List Value).toArray below meth c s.heap [] 0 0 Q (F0 m 0 ls [])
  rw [← hle]
  refine wH9 hHe ?_
  unfold fX2_mayUnite at hrun
  refine lv_iload_n hx hb dX2_mayUnite_0 rfl (lv_at hl 1 rfl) ?_
  refine lv_aload_n hx hb dX2_mayUnite_1 rfl (lv_at hl 0 rfl) ?_
  refine va_get (D := (dC, dI)) (ci := 9) (v := .int (p0w 0 0)) (C := RX2) (T := TX2) (N := 19) hx hb hts i_X2 hown hK hP 0 rfl rfl 0 (by decide) (hts _ qw667) (fun _ h9 => h9) rfl dX2_mayUnite_2 ?_
  have J29 : ∀ (H : Heap) (locs : List Loc) (ls : Array Slot), (fX2_mayUnite_J29) = some o → va_P (dC, dI) cls (List.flatten ([(oX2 (p0a 0) p0a p0k p0n p0w p0l)] : List va_W)) H → va_D A (List.flatten ([(oX2 (p0a 0) p0a p0k p0n p0w p0l)] : List va_W)) → va_K (dC, dI) cls (List.flatten ([(tX2 p0k)] : List (List (ClassId × FieldType)))) s → va_S A s.heap H locs → lv_has ls 8 [] → W p l e ({ frames := 2, cells := 0, slots := 0, locals := 45 } : Room) s m ([.ref (p0a 0), .int p1, .int p2, .int p3] : List Value).toArray below meth c H locs 0 0 Q (F0 m 29 ls []) := by
    intro  H locs ls hrun hP hD hK hS hl 
    unfold fX2_mayUnite_J29 at hrun
    refine lv_iconst (v := 0) hx hb dX2_mayUnite_29 (by decide) ?_
    have ho9 : 0 = o := Option.some.inj hrun
    have hP9 : va_P (dC, dI) cls (List.flatten ([(oX2 (p0a 0) p0a p0k p0n p0w p0l)] : List va_W)) H := by first | exact hP | (rw [← ho9]; exact hP)
    have hD9 : va_D A (List.flatten ([(oX2 (p0a 0) p0a p0k p0n p0w p0l)] : List va_W)) := by first | exact hD | (rw [← ho9]; exact hD)
    subst hQ
    exact W.zret (v := 0) hx hb hr (by decide) (fun t ht hW => ⟨⟨0, (), rfl, (by rw [← ho9]), ⟨by rw [ht]; exact hP9, va_K.moved hW.alike hK, hD9⟩⟩, hS.F ht⟩) hS.2.2 dX2_mayUnite_30
  rcases br9 hrun with ⟨hc1, hrun⟩ | ⟨hc1, hrun⟩
  · refine lv_icmp_ge (tgt := 29) hx hb dX2_mayUnite_5 (by decide) (fun _ => ?_) (fun c => absurd hc1 c)
    exact J29 _ _ _ hrun hP hD hK hS (lv_sub hl [] rfl)
  · refine lv_icmp_ge (tgt := 29) hx hb dX2_mayUnite_5 (by decide) (fun c => absurd c hc1) (fun _ => ?_)
    refine lv_iload_n hx hb dX2_mayUnite_8 rfl (lv_at hl 2 rfl) ?_
    refine lv_aload_n hx hb dX2_mayUnite_9 rfl (lv_at hl 0 rfl) ?_
    refine va_get (D := (dC, dI)) (ci := 9) (v := .int (p0w 0 0)) (C := RX2) (T := TX2) (N := 19) hx hb hts i_X2 hown hK hP 0 rfl rfl 0 (by decide) (hts _ qw667) (fun _ h9 => h9) rfl dX2_mayUnite_10 ?_
    rcases br9 hrun with ⟨hc2, hrun⟩ | ⟨hc2, hrun⟩
    · refine lv_icmp_ge (tgt := 29) hx hb dX2_mayUnite_13 (by decide) (fun _ => ?_) (fun c => absurd hc2 c)
      exact J29 _ _ _ hrun hP hD hK hS (lv_sub hl [] rfl)
    · refine lv_icmp_ge (tgt := 29) hx hb dX2_mayUnite_13 (by decide) (fun c => absurd c hc2) (fun _ => ?_)
      refine lv_aload_n hx hb dX2_mayUnite_16 rfl (lv_at hl 0 rfl) ?_
      refine lv_aload_n hx hb dX2_mayUnite_17 rfl (lv_at hl 0 rfl) ?_
      refine va_get (D := (dC, dI)) (ci := 9) (v := .ref (p0a 11)) (C := RX2) (T := TX2) (N := 19) hx hb hts i_X2 hown hK hP 0 rfl rfl 10 (by decide) (hts _ qw681) (fun _ h9 => h9) rfl dX2_mayUnite_18 ?_
      refine lv_iload_n hx hb dX2_mayUnite_21 rfl (lv_at hl 1 rfl) ?_
      refine lv_iload_n hx hb dX2_mayUnite_22 rfl (lv_at hl 2 rfl) ?_
      obtain ⟨o_3, hc_3, hrun⟩ := bnd9 hrun
      have hPx : va_P (dC, dI) cls ((List.flatten ([(oX2 (p0a 0) p0a p0k p0n p0w p0l)] : List va_W)) ++ (List.flatten ([] : List va_W))) H := vP_fa (vP_perm hP (bP (List.Perm.refl _)))
      have hDx : va_D A ((List.flatten ([(oX2 (p0a 0) p0a p0k p0n p0w p0l)] : List va_W)) ++ (List.flatten ([] : List va_W))) := vD_fa (vD_perm hD (bP (List.Perm.refl _)))
      have hKx : va_K (dC, dI) cls ((List.flatten ([(tX2 p0k)] : List (List (ClassId × FieldType)))) ++ (List.flatten ([] : List (List (ClassId × FieldType))))) s := vK_fa (vK_perm hK (bP (List.Perm.refl _)))
      have hPc := vP_l hPx
      have hDc := vD_l hDx
      have hKc := vK_l hKx
      have hFc := vfree hDx hS hA
      refine va_calli (va_runV (As := [.ref (p0a 11), .int p1, .int p2]) (rest := []) ⟨hx, hb, hml, hown, hts⟩ (kX2_isIn_a1_p0_10 l dC dI (p0a := p0a) (p0k := p0k) (p0n := p0n) (p0w := p0w) (p0l := p0l) (p2 := p1) (p3 := p2) (sz := _) (o := o_3) (hrun := hc_3)) (cwV 3 hts (gi_V qw709 qw710 qw711 qw694 (gi_z qw708)) rfl rfl rfl (by decide +kernel) ⟨Nat.le_of_ble_eq_true rfl, Nat.le_of_ble_eq_true rfl⟩) ⟨PRE.blind, va_recv hKc hPc (ci := 9) (q0 := 0) rfl rfl, PRE.of hE hS hFc hPc hKc hDc⟩ rfl rfl hl.1 rfl (lv_room (Nat.le_of_ble_eq_true rfl)) dX2_mayUnite_23 ⟨(Nat.le_of_ble_eq_true rfl), (Nat.le_of_ble_eq_true rfl)⟩) hS (fun q _ h => hFc q h) hFc (fun r4 u t H locs ht hvm hw hB hz1 hk1 hS => ?_)
      obtain ⟨b1, b2, b3⟩ := hB
      rw [ht] at b1
      obtain ⟨hP, hD, hK⟩ := JOINC (wc := (List.flatten ([(oX2 (p0a 0) p0a p0k p0n p0w p0l)] : List va_W))) (wr := (List.flatten ([] : List va_W))) (w1 := (List.flatten ([(oX2 (p0a 0) p0a p0k p0n p0w p0l)] : List va_W))) (t1 := (List.flatten ([(tX2 p0k)] : List (List (ClassId × FieldType))))) hPx hDx hKx hk1 hFc b1 (va_K.moved hvm.symm b2) b3
      have hP : va_P (dC, dI) cls (List.flatten ([(oX2 (p0a 0) p0a p0k p0n p0w p0l)] : List va_W)) H := vP_perm (vP_fb hP) (bP (List.Perm.refl _))
      have hD : va_D A (List.flatten ([(oX2 (p0a 0) p0a p0k p0n p0w p0l)] : List va_W)) := vD_perm (vD_fb hD) (bP (List.Perm.refl _))
      have hK : va_K (dC, dI) cls (List.flatten ([(tX2 p0k)] : List (List (ClassId × FieldType)))) s := vK_perm (vK_fb hK) (bP (List.Perm.refl _))
      obtain rfl : o_3 = r4 := hw.symm
      rcases br9 hrun with ⟨hc5, hrun⟩ | ⟨hc5, hrun⟩
      · refine lv_if_eq (tgt := 31) hx hb dX2_mayUnite_26 (by decide) (fun _ => ?_) (fun c => absurd hc5 c)
        refine lv_iconst (v := 0) hx hb dX2_mayUnite_31 (by decide) ?_
        refine lv_istore (lv' := [(4, .int 0), (0, .ref (p0a 0)), (1, .int p1), (2, .int p2), (3, .int p3)]) hx hb dX2_mayUnite_32 hl (by decide) rfl (fun ls hl => ?_)
        refine lv_iconst (v := 0) hx hb dX2_mayUnite_34 (by decide) ?_
        refine lv_istore (lv' := [(5, .int 0), (4, .int 0), (0, .ref (p0a 0)), (1, .int p1), (2, .int p2), (3, .int p3)]) hx hb dX2_mayUnite_35 hl (by decide) rfl (fun ls hl => ?_)
        have L37 : ∀ (n_37 : Nat) (v4_37 : Int32) (v5_37 : Int32) (o37 : Int32) (H : Heap) (locs : List Loc) (ls : Array Slot), (fX2_mayUnite_L37 p0n p0w p0l p1 p2 p3 n_37) v4_37 v5_37 = some o37 → va_P (dC, dI) cls (List.flatten ([(oX2 (p0a 0) p0a p0k p0n p0w p0l)] : List va_W)) H → va_D A (List.flatten ([(oX2 (p0a 0) p0a p0k p0n p0w p0l)] : List va_W)) → va_K (dC, dI) cls (List.flatten ([(tX2 p0k)] : List (List (ClassId × FieldType)))) s → va_S A s.heap H locs → lv_has ls 8 [(0, .ref (p0a 0)), (1, .int p1), (2, .int p2), (3, .int p3), (4, .int v4_37), (5, .int v5_37)] → (∀ (H : Heap) (locs : List Loc) (ls : Array Slot), va_P (dC, dI) cls (List.flatten ([(oX2 (p0a 0) p0a p0k p0n p0w p0l)] : List va_W)) H → va_D A (List.flatten ([(oX2 (p0a 0) p0a p0k p0n p0w p0l)] : List va_W)) → va_K (dC, dI) cls (List.flatten ([(tX2 p0k)] : List (List (ClassId × FieldType)))) s → va_S A s.heap H locs → lv_has ls 8 [(0, .ref (p0a 0)), (1, .int p1), (2, .int p2), (3, .int p3), (4, .int o37)] → W p l e ({ frames := 2, cells := 0, slots := 0, locals := 45 } : Room) s m ([.ref (p0a 0), .int p1, .int p2, .int p3] : List Value).toArray below meth c H locs 0 0 Q (F0 m 132 ls [])) → W p l e ({ frames := 2, cells := 0, slots := 0, locals := 45 } : Room) s m ([.ref (p0a 0), .int p1, .int p2, .int p3] : List Value).toArray below meth c H locs 0 0 Q (F0 m 37 ls []) := by
          intro n_37
          induction n_37 with
          | zero => intro v4_37 v5_37 o37 H locs ls hrun; exact (no9 rfl hrun).elim
          | succ n_37 IH37 =>
            intro v4_37 v5_37 o37 H locs ls hrun hP hD hK hS hl hk37
            unfold fX2_mayUnite_L37 at hrun
            refine lv_iload hx hb dX2_mayUnite_37 (lv_at hl 5 rfl) ?_
            refine lv_aload_n hx hb dX2_mayUnite_39 rfl (lv_at hl 0 rfl) ?_
            refine va_get (D := (dC, dI)) (ci := 9) (v := .int (p0w 0 2)) (C := RX2) (T := TX2) (N := 19) hx hb hts i_X2 hown hK hP 0 rfl rfl 2 (by decide) (hts _ qw669) (fun _ h9 => h9) rfl dX2_mayUnite_40 ?_
            rcases br9 hrun with ⟨hc6, hrun⟩ | ⟨hc6, hrun⟩
            · refine lv_icmp_ge (tgt := 132) hx hb dX2_mayUnite_43 (by decide) (fun _ => ?_) (fun c => absurd hc6 c)
              obtain rfl := (Option.some.inj hrun)
              exact hk37 _ _ _ hP hD hK hS (lv_sub hl [0, 1, 2, 3, 4] rfl)
            · refine lv_icmp_ge (tgt := 132) hx hb dX2_mayUnite_43 (by decide) (fun c => absurd c hc6) (fun _ => ?_)
              refine lv_aload_n hx hb dX2_mayUnite_46 rfl (lv_at hl 0 rfl) ?_
              refine va_get (D := (dC, dI)) (ci := 9) (v := .ref (p0a 11)) (C := RX2) (T := TX2) (N := 19) hx hb hts i_X2 hown hK hP 0 rfl rfl 10 (by decide) (hts _ qw681) (fun _ h9 => h9) rfl dX2_mayUnite_47 ?_
              refine lv_iload_n hx hb dX2_mayUnite_50 rfl (lv_at hl 1 rfl) ?_
              refine lv_aload_n hx hb dX2_mayUnite_51 rfl (lv_at hl 0 rfl) ?_
              refine va_get (D := (dC, dI)) (ci := 9) (v := .int (p0w 0 2)) (C := RX2) (T := TX2) (N := 19) hx hb hts i_X2 hown hK hP 0 rfl rfl 2 (by decide) (hts _ qw669) (fun _ h9 => h9) rfl dX2_mayUnite_52 ?_
              refine lv_imul hx hb dX2_mayUnite_55 ?_
              refine lv_iload hx hb dX2_mayUnite_56 (lv_at hl 5 rfl) ?_
              refine lv_iadd hx hb dX2_mayUnite_58 ?_
              obtain ⟨hq7, hrun⟩ := chk9 hrun
              refine va_lald hx hb hK hP 7 6 rfl rfl (ixb_in hq7) dX2_mayUnite_59 ?_
              refine lv_aload_n hx hb dX2_mayUnite_60 rfl (lv_at hl 0 rfl) ?_
              refine va_get (D := (dC, dI)) (ci := 9) (v := .ref (p0a 11)) (C := RX2) (T := TX2) (N := 19) hx hb hts i_X2 hown hK hP 0 rfl rfl 10 (by decide) (hts _ qw681) (fun _ h9 => h9) rfl dX2_mayUnite_61 ?_
              refine lv_iload_n hx hb dX2_mayUnite_64 rfl (lv_at hl 2 rfl) ?_
              refine lv_aload_n hx hb dX2_mayUnite_65 rfl (lv_at hl 0 rfl) ?_
              refine va_get (D := (dC, dI)) (ci := 9) (v := .int (p0w 0 2)) (C := RX2) (T := TX2) (N := 19) hx hb hts i_X2 hown hK hP 0 rfl rfl 2 (by decide) (hts _ qw669) (fun _ h9 => h9) rfl dX2_mayUnite_66 ?_
              refine lv_imul hx hb dX2_mayUnite_69 ?_
              refine lv_iload hx hb dX2_mayUnite_70 (lv_at hl 5 rfl) ?_
              refine lv_iadd hx hb dX2_mayUnite_72 ?_
              obtain ⟨hq8, hrun⟩ := chk9 hrun
              refine va_lald hx hb hK hP 7 6 rfl rfl (ixb_in hq8) dX2_mayUnite_73 ?_
              refine lv_lor hx hb dX2_mayUnite_74 ?_
              refine lv_lstore (lv' := [(6, .long ((p0l 11 (nn ((p1 * (p0w 0 2)) + v5_37))) ||| (p0l 11 (nn ((p2 * (p0w 0 2)) + v5_37))))), (0, .ref (p0a 0)), (1, .int p1), (2, .int p2), (3, .int p3), (4, .int v4_37), (5, .int v5_37)]) hx hb dX2_mayUnite_75 hl (by decide) rfl (fun ls hl => ?_)
              have L77 : ∀ (n_77 : Nat) (v4_77 : Int32) (v6_77 : Int64) (o77 : Int32) (H : Heap) (locs : List Loc) (ls : Array Slot), (fX2_mayUnite_L77 p0n p0w p3 v5_37 n_77) v4_77 v6_77 = some o77 → va_P (dC, dI) cls (List.flatten ([(oX2 (p0a 0) p0a p0k p0n p0w p0l)] : List va_W)) H → va_D A (List.flatten ([(oX2 (p0a 0) p0a p0k p0n p0w p0l)] : List va_W)) → va_K (dC, dI) cls (List.flatten ([(tX2 p0k)] : List (List (ClassId × FieldType)))) s → va_S A s.heap H locs → lv_has ls 8 [(0, .ref (p0a 0)), (1, .int p1), (2, .int p2), (3, .int p3), (4, .int v4_77), (5, .int v5_37), (6, .long v6_77)] → (∀ (H : Heap) (locs : List Loc) (ls : Array Slot), va_P (dC, dI) cls (List.flatten ([(oX2 (p0a 0) p0a p0k p0n p0w p0l)] : List va_W)) H → va_D A (List.flatten ([(oX2 (p0a 0) p0a p0k p0n p0w p0l)] : List va_W)) → va_K (dC, dI) cls (List.flatten ([(tX2 p0k)] : List (List (ClassId × FieldType)))) s → va_S A s.heap H locs → lv_has ls 8 [(0, .ref (p0a 0)), (1, .int p1), (2, .int p2), (3, .int p3), (4, .int o77), (5, .int v5_37)] → W p l e ({ frames := 2, cells := 0, slots := 0, locals := 45 } : Room) s m ([.ref (p0a 0), .int p1, .int p2, .int p3] : List Value).toArray below meth c H locs 0 0 Q (F0 m 126 ls [])) → W p l e ({ frames := 2, cells := 0, slots := 0, locals := 45 } : Room) s m ([.ref (p0a 0), .int p1, .int p2, .int p3] : List Value).toArray below meth c H locs 0 0 Q (F0 m 77 ls []) := by
                intro n_77
                induction n_77 with
                | zero => intro v4_77 v6_77 o77 H locs ls hrun; exact (no9 rfl hrun).elim
                | succ n_77 IH77 =>
                  intro v4_77 v6_77 o77 H locs ls hrun hP hD hK hS hl hk77
                  unfold fX2_mayUnite_L77 at hrun
                  refine lv_lload hx hb dX2_mayUnite_77 (lv_at hl 6 rfl) ?_
                  refine lv_lconst (v := 0) hx hb dX2_mayUnite_79 (by decide) ?_
                  refine W.lcmp hx hb dX2_mayUnite_80 ?_
                  rcases br9 hrun with ⟨hc9, hrun⟩ | ⟨hc9, hrun⟩
                  · refine lv_if_eq (tgt := 126) hx hb dX2_mayUnite_81 (by decide) (fun _ => ?_) (fun c => absurd hc9 c)
                    obtain rfl := (Option.some.inj hrun)
                    exact hk77 _ _ _ hP hD hK hS (lv_sub hl [0, 1, 2, 3, 4, 5] rfl)
                  · refine lv_if_eq (tgt := 126) hx hb dX2_mayUnite_81 (by decide) (fun c => absurd c hc9) (fun _ => ?_)
                    refine lv_iload hx hb dX2_mayUnite_84 (lv_at hl 4 rfl) ?_
                    refine lv_aload_n hx hb dX2_mayUnite_86 rfl (lv_at hl 0 rfl) ?_
                    refine va_get (D := (dC, dI)) (ci := 9) (v := .ref (p0a 13)) (C := RX2) (T := TX2) (N := 19) hx hb hts i_X2 hown hK hP 0 rfl rfl 12 (by decide) (hts _ qw683) (fun _ h9 => h9) rfl dX2_mayUnite_87 ?_
                    refine lv_iload hx hb dX2_mayUnite_90 (lv_at hl 5 rfl) ?_
                    refine lv_bipush (v := 64) hx hb dX2_mayUnite_92 (by decide) ?_
                    refine lv_imul hx hb dX2_mayUnite_94 ?_
                    refine lv_lload hx hb dX2_mayUnite_95 (lv_at hl 6 rfl) ?_
                    obtain ⟨o_10, hc_10, hrun⟩ := bnd9 hrun
                    have hPx : va_P (dC, dI) cls ((List.flatten ([] : List va_W)) ++ (List.flatten ([(oX2 (p0a 0) p0a p0k p0n p0w p0l)] : List va_W))) H := vP_fa (vP_perm hP (bP (List.Perm.refl _)))
                    have hDx : va_D A ((List.flatten ([] : List va_W)) ++ (List.flatten ([(oX2 (p0a 0) p0a p0k p0n p0w p0l)] : List va_W))) := vD_fa (vD_perm hD (bP (List.Perm.refl _)))
                    have hKx : va_K (dC, dI) cls ((List.flatten ([] : List (List (ClassId × FieldType)))) ++ (List.flatten ([(tX2 p0k)] : List (List (ClassId × FieldType))))) s := vK_fa (vK_perm hK (bP (List.Perm.refl _)))
                    have hPc := vP_l hPx
                    have hDc := vD_l hDx
                    have hKc := vK_l hKx
                    have hFc := vfree hDx hS hA
                    refine va_calli (va_runSN (As := [.long v6_77]) (rest := [.int (v5_37 * 64), .ref (p0a 13), .int v4_77]) ⟨hx, hb, hml, hown, hts⟩ (kX11_lowest l dC dI (p0 := v6_77) (sz := _) (o := o_10) (hrun := hc_10)) ⟨(va_cnB 1 hts (gi_z qw775) rfl rfl rfl (hE.nw (List.mem_append_right _ (tbl_9 (i := 34) rfl)) rfl) (hts _ qw129) (by decide +kernel) ⟨Nat.le_of_ble_eq_true rfl, Nat.le_of_ble_eq_true rfl⟩), (hts _ qw776), trivial⟩ ⟨PRE.blind, PRE.of hE hS hFc hPc hKc hDc⟩ rfl rfl hl.1 rfl (lv_room (Nat.le_of_ble_eq_true rfl)) dX2_mayUnite_97 ⟨(Nat.le_of_ble_eq_true rfl), (Nat.le_of_ble_eq_true rfl)⟩) hS (fun q _ h => hFc q h) hFc (fun r11 u t H locs ht hvm hw hB hz1 hk1 hS => ?_)
                    obtain ⟨b1, b2, b3⟩ := hB
                    rw [ht] at b1
                    obtain ⟨hP, hD, hK⟩ := JOINC (wc := (List.flatten ([] : List va_W))) (wr := (List.flatten ([(oX2 (p0a 0) p0a p0k p0n p0w p0l)] : List va_W))) (w1 := (List.flatten ([] : List va_W))) (t1 := (List.flatten ([] : List (List (ClassId × FieldType))))) hPx hDx hKx hk1 hFc b1 (va_K.moved hvm.symm b2) b3
                    have hP : va_P (dC, dI) cls (List.flatten ([(oX2 (p0a 0) p0a p0k p0n p0w p0l)] : List va_W)) H := vP_perm (vP_fb hP) (bP (List.Perm.refl _))
                    have hD : va_D A (List.flatten ([(oX2 (p0a 0) p0a p0k p0n p0w p0l)] : List va_W)) := vD_perm (vD_fb hD) (bP (List.Perm.refl _))
                    have hK : va_K (dC, dI) cls (List.flatten ([(tX2 p0k)] : List (List (ClassId × FieldType)))) s := vK_perm (vK_fb hK) (bP (List.Perm.refl _))
                    obtain rfl : o_10 = r11 := hw.symm
                    refine lv_iadd hx hb dX2_mayUnite_100 ?_
                    obtain ⟨hq12, hrun⟩ := chk9 hrun
                    refine va_iald hx hb hK hP 9 8 rfl rfl (ixb_in hq12) dX2_mayUnite_101 ?_
                    refine lv_iload_n hx hb dX2_mayUnite_102 rfl (lv_at hl 3 rfl) ?_
                    have J111 : ∀ (y0_111 : Int32) (y1_111 : Int32) (H : Heap) (locs : List Loc) (ls : Array Slot), (fX2_mayUnite_J111 (fX2_mayUnite_L77 p0n p0w p3 v5_37 n_77) v6_77 y0_111 y1_111) = some o77 → va_P (dC, dI) cls (List.flatten ([(oX2 (p0a 0) p0a p0k p0n p0w p0l)] : List va_W)) H → va_D A (List.flatten ([(oX2 (p0a 0) p0a p0k p0n p0w p0l)] : List va_W)) → va_K (dC, dI) cls (List.flatten ([(tX2 p0k)] : List (List (ClassId × FieldType)))) s → va_S A s.heap H locs → lv_has ls 8 [(0, .ref (p0a 0)), (1, .int p1), (2, .int p2), (3, .int p3), (5, .int v5_37), (6, .long v6_77)] → W p l e ({ frames := 2, cells := 0, slots := 0, locals := 45 } : Room) s m ([.ref (p0a 0), .int p1, .int p2, .int p3] : List Value).toArray below meth c H locs 0 0 Q (F0 m 111 ls [.int y0_111, .int y1_111]) := by
                      intro y0_111 y1_111 H locs ls hrun hP hD hK hS hl 
                      unfold fX2_mayUnite_J111 at hrun
                      refine lv_iadd hx hb dX2_mayUnite_111 ?_
                      refine lv_istore (lv' := [(4, .int (y1_111 + y0_111)), (0, .ref (p0a 0)), (1, .int p1), (2, .int p2), (3, .int p3), (5, .int v5_37), (6, .long v6_77)]) hx hb dX2_mayUnite_112 hl (by decide) rfl (fun ls hl => ?_)
                      refine lv_lload hx hb dX2_mayUnite_114 (lv_at hl 6 rfl) ?_
                      refine lv_lload hx hb dX2_mayUnite_116 (lv_at hl 6 rfl) ?_
                      refine lv_lconst (v := 1) hx hb dX2_mayUnite_118 (by decide) ?_
                      refine lv_lsub hx hb dX2_mayUnite_119 ?_
                      refine lv_land hx hb dX2_mayUnite_120 ?_
                      refine lv_lstore (lv' := [(6, .long (v6_77 &&& (v6_77 - (1 : Int64)))), (4, .int (y1_111 + y0_111)), (0, .ref (p0a 0)), (1, .int p1), (2, .int p2), (3, .int p3), (5, .int v5_37)]) hx hb dX2_mayUnite_121 hl (by decide) rfl (fun ls hl => ?_)
                      refine lv_goto (tgt := 77) hx hb dX2_mayUnite_123 (by decide) ?_
                      exact IH77 (y1_111 + y0_111) (v6_77 &&& (v6_77 - (1 : Int64))) o77 _ _ _ hrun hP hD hK hS (lv_sub hl [2, 3, 4, 5, 1, 6, 0] rfl) hk77
                    rcases br9 hrun with ⟨hc13, hrun⟩ | ⟨hc13, hrun⟩
                    · refine lv_icmp_lt (tgt := 110) hx hb dX2_mayUnite_103 (by decide) (fun _ => ?_) (fun c => absurd hc13 c)
                      refine lv_iconst (v := 0) hx hb dX2_mayUnite_110 (by decide) ?_
                      exact J111 0 v4_77 _ _ _ hrun hP hD hK hS (lv_sub hl [0, 1, 2, 3, 5, 6] rfl)
                    · refine lv_icmp_lt (tgt := 110) hx hb dX2_mayUnite_103 (by decide) (fun c => absurd c hc13) (fun _ => ?_)
                      refine lv_iconst (v := 1) hx hb dX2_mayUnite_106 (by decide) ?_
                      refine lv_goto (tgt := 111) hx hb dX2_mayUnite_107 (by decide) ?_
                      exact J111 1 v4_77 _ _ _ hrun hP hD hK hS (lv_sub hl [0, 1, 2, 3, 5, 6] rfl)
              obtain ⟨o77, hc77, hrun⟩ := bnd9 hrun
              refine L77 NF v4_37 ((p0l 11 (nn ((p1 * (p0w 0 2)) + v5_37))) ||| (p0l 11 (nn ((p2 * (p0w 0 2)) + v5_37)))) o77 _ _ _ hc77 hP hD hK hS (lv_sub hl [1, 2, 3, 4, 5, 6, 0] rfl) ?_
              intro H locs ls hP hD hK hS hl
              have hl := hl
              refine lv_iinc (v := (v5_37 + 1)) (lv' := [(5, .int (v5_37 + 1)), (0, .ref (p0a 0)), (1, .int p1), (2, .int p2), (3, .int p3), (4, .int o77)]) hx hb dX2_mayUnite_126 hl (k := 5) rfl rfl (by decide) rfl (fun ls hl => ?_)
              refine lv_goto (tgt := 37) hx hb dX2_mayUnite_129 (by decide) ?_
              exact IH37 o77 (v5_37 + 1) o37 _ _ _ hrun hP hD hK hS (lv_sub hl [1, 2, 3, 4, 5, 0] rfl) hk37
        obtain ⟨o37, hc37, hrun⟩ := bnd9 hrun
        refine L37 NF 0 0 o37 _ _ _ hc37 hP hD hK hS (lv_sub hl [2, 3, 4, 5, 1, 0] rfl) ?_
        intro H locs ls hP hD hK hS hl
        have hl := hl
        refine lv_aload_n hx hb dX2_mayUnite_132 rfl (lv_at hl 0 rfl) ?_
        refine va_get (D := (dC, dI)) (ci := 9) (v := .int (p0w 0 0)) (C := RX2) (T := TX2) (N := 19) hx hb hts i_X2 hown hK hP 0 rfl rfl 0 (by decide) (hts _ qw667) (fun _ h9 => h9) rfl dX2_mayUnite_133 ?_
        refine lv_istore (lv' := [(5, .int (p0w 0 0)), (0, .ref (p0a 0)), (1, .int p1), (2, .int p2), (3, .int p3), (4, .int o37)]) hx hb dX2_mayUnite_136 hl (by decide) rfl (fun ls hl => ?_)
        have L138 : ∀ (n_138 : Nat) (v4_138 : Int32) (v5_138 : Int32) (o138 : Int32) (H : Heap) (locs : List Loc) (ls : Array Slot), (fX2_mayUnite_L138 p0n p0w p0l p1 p2 p3 n_138) v4_138 v5_138 = some o138 → va_P (dC, dI) cls (List.flatten ([(oX2 (p0a 0) p0a p0k p0n p0w p0l)] : List va_W)) H → va_D A (List.flatten ([(oX2 (p0a 0) p0a p0k p0n p0w p0l)] : List va_W)) → va_K (dC, dI) cls (List.flatten ([(tX2 p0k)] : List (List (ClassId × FieldType)))) s → va_S A s.heap H locs → lv_has ls 8 [(0, .ref (p0a 0)), (1, .int p1), (2, .int p2), (3, .int p3), (4, .int v4_138), (5, .int v5_138)] → (∀ (H : Heap) (locs : List Loc) (ls : Array Slot), va_P (dC, dI) cls (List.flatten ([(oX2 (p0a 0) p0a p0k p0n p0w p0l)] : List va_W)) H → va_D A (List.flatten ([(oX2 (p0a 0) p0a p0k p0n p0w p0l)] : List va_W)) → va_K (dC, dI) cls (List.flatten ([(tX2 p0k)] : List (List (ClassId × FieldType)))) s → va_S A s.heap H locs → lv_has ls 8 [(3, .int p3), (4, .int o138)] → W p l e ({ frames := 2, cells := 0, slots := 0, locals := 45 } : Room) s m ([.ref (p0a 0), .int p1, .int p2, .int p3] : List Value).toArray below meth c H locs 0 0 Q (F0 m 195 ls [])) → W p l e ({ frames := 2, cells := 0, slots := 0, locals := 45 } : Room) s m ([.ref (p0a 0), .int p1, .int p2, .int p3] : List Value).toArray below meth c H locs 0 0 Q (F0 m 138 ls []) := by
          intro n_138
          induction n_138 with
          | zero => intro v4_138 v5_138 o138 H locs ls hrun; exact (no9 rfl hrun).elim
          | succ n_138 IH138 =>
            intro v4_138 v5_138 o138 H locs ls hrun hP hD hK hS hl hk138
            unfold fX2_mayUnite_L138 at hrun
            refine lv_iload hx hb dX2_mayUnite_138 (lv_at hl 5 rfl) ?_
            refine lv_aload_n hx hb dX2_mayUnite_140 rfl (lv_at hl 0 rfl) ?_
            refine va_get (D := (dC, dI)) (ci := 9) (v := .int (p0w 0 1)) (C := RX2) (T := TX2) (N := 19) hx hb hts i_X2 hown hK hP 0 rfl rfl 1 (by decide) (hts _ qw668) (fun _ h9 => h9) rfl dX2_mayUnite_141 ?_
            rcases br9 hrun with ⟨hc14, hrun⟩ | ⟨hc14, hrun⟩
            · refine lv_icmp_ge (tgt := 195) hx hb dX2_mayUnite_144 (by decide) (fun _ => ?_) (fun c => absurd hc14 c)
              obtain rfl := (Option.some.inj hrun)
              exact hk138 _ _ _ hP hD hK hS (lv_sub hl [3, 4] rfl)
            · refine lv_icmp_ge (tgt := 195) hx hb dX2_mayUnite_144 (by decide) (fun c => absurd c hc14) (fun _ => ?_)
              refine lv_aload_n hx hb dX2_mayUnite_147 rfl (lv_at hl 0 rfl) ?_
              refine va_get (D := (dC, dI)) (ci := 9) (v := .ref (p0a 13)) (C := RX2) (T := TX2) (N := 19) hx hb hts i_X2 hown hK hP 0 rfl rfl 12 (by decide) (hts _ qw683) (fun _ h9 => h9) rfl dX2_mayUnite_148 ?_
              refine lv_iload hx hb dX2_mayUnite_151 (lv_at hl 5 rfl) ?_
              obtain ⟨hq15, hrun⟩ := chk9 hrun
              refine va_iald hx hb hK hP 9 8 rfl rfl (ixb_in hq15) dX2_mayUnite_153 ?_
              refine lv_iload_n hx hb dX2_mayUnite_154 rfl (lv_at hl 3 rfl) ?_
              have J189 : ∀ (v4_189 : Int32) (H : Heap) (locs : List Loc) (ls : Array Slot), (fX2_mayUnite_J189 (fX2_mayUnite_L138 p0n p0w p0l p1 p2 p3 n_138) v5_138 v4_189) = some o138 → va_P (dC, dI) cls (List.flatten ([(oX2 (p0a 0) p0a p0k p0n p0w p0l)] : List va_W)) H → va_D A (List.flatten ([(oX2 (p0a 0) p0a p0k p0n p0w p0l)] : List va_W)) → va_K (dC, dI) cls (List.flatten ([(tX2 p0k)] : List (List (ClassId × FieldType)))) s → va_S A s.heap H locs → lv_has ls 8 [(0, .ref (p0a 0)), (1, .int p1), (2, .int p2), (3, .int p3), (4, .int v4_189), (5, .int v5_138)] → W p l e ({ frames := 2, cells := 0, slots := 0, locals := 45 } : Room) s m ([.ref (p0a 0), .int p1, .int p2, .int p3] : List Value).toArray below meth c H locs 0 0 Q (F0 m 189 ls []) := by
                intro v4_189 H locs ls hrun hP hD hK hS hl 
                unfold fX2_mayUnite_J189 at hrun
                refine lv_iinc (v := (v5_138 + 1)) (lv' := [(5, .int (v5_138 + 1)), (0, .ref (p0a 0)), (1, .int p1), (2, .int p2), (3, .int p3), (4, .int v4_189)]) hx hb dX2_mayUnite_189 hl (k := 5) rfl rfl (by decide) rfl (fun ls hl => ?_)
                refine lv_goto (tgt := 138) hx hb dX2_mayUnite_192 (by decide) ?_
                exact IH138 v4_189 (v5_138 + 1) o138 _ _ _ hrun hP hD hK hS (lv_sub hl [1, 2, 3, 4, 5, 0] rfl) hk138
              rcases br9 hrun with ⟨hc16, hrun⟩ | ⟨hc16, hrun⟩
              · refine lv_icmp_lt (tgt := 189) hx hb dX2_mayUnite_155 (by decide) (fun _ => ?_) (fun c => absurd hc16 c)
                exact J189 v4_138 _ _ _ hrun hP hD hK hS (lv_sub hl [0, 1, 2, 3, 4, 5] rfl)
              · refine lv_icmp_lt (tgt := 189) hx hb dX2_mayUnite_155 (by decide) (fun c => absurd c hc16) (fun _ => ?_)
                refine lv_aload_n hx hb dX2_mayUnite_158 rfl (lv_at hl 0 rfl) ?_
                refine lv_aload_n hx hb dX2_mayUnite_159 rfl (lv_at hl 0 rfl) ?_
                refine va_get (D := (dC, dI)) (ci := 9) (v := .ref (p0a 11)) (C := RX2) (T := TX2) (N := 19) hx hb hts i_X2 hown hK hP 0 rfl rfl 10 (by decide) (hts _ qw681) (fun _ h9 => h9) rfl dX2_mayUnite_160 ?_
                refine lv_iload hx hb dX2_mayUnite_163 (lv_at hl 5 rfl) ?_
                refine lv_iload_n hx hb dX2_mayUnite_165 rfl (lv_at hl 1 rfl) ?_
                obtain ⟨o_17, hc_17, hrun⟩ := bnd9 hrun
                have hPx : va_P (dC, dI) cls ((List.flatten ([(oX2 (p0a 0) p0a p0k p0n p0w p0l)] : List va_W)) ++ (List.flatten ([] : List va_W))) H := vP_fa (vP_perm hP (bP (List.Perm.refl _)))
                have hDx : va_D A ((List.flatten ([(oX2 (p0a 0) p0a p0k p0n p0w p0l)] : List va_W)) ++ (List.flatten ([] : List va_W))) := vD_fa (vD_perm hD (bP (List.Perm.refl _)))
                have hKx : va_K (dC, dI) cls ((List.flatten ([(tX2 p0k)] : List (List (ClassId × FieldType)))) ++ (List.flatten ([] : List (List (ClassId × FieldType))))) s := vK_fa (vK_perm hK (bP (List.Perm.refl _)))
                have hPc := vP_l hPx
                have hDc := vD_l hDx
                have hKc := vK_l hKx
                have hFc := vfree hDx hS hA
                refine va_calli (va_runV (As := [.ref (p0a 11), .int v5_138, .int p1]) (rest := []) ⟨hx, hb, hml, hown, hts⟩ (kX2_isIn_a1_p0_10 l dC dI (p0a := p0a) (p0k := p0k) (p0n := p0n) (p0w := p0w) (p0l := p0l) (p2 := v5_138) (p3 := p1) (sz := _) (o := o_17) (hrun := hc_17)) (cwV 3 hts (gi_V qw709 qw710 qw711 qw694 (gi_z qw708)) rfl rfl rfl (by decide +kernel) ⟨Nat.le_of_ble_eq_true rfl, Nat.le_of_ble_eq_true rfl⟩) ⟨PRE.blind, va_recv hKc hPc (ci := 9) (q0 := 0) rfl rfl, PRE.of hE hS hFc hPc hKc hDc⟩ rfl rfl hl.1 rfl (lv_room (Nat.le_of_ble_eq_true rfl)) dX2_mayUnite_166 ⟨(Nat.le_of_ble_eq_true rfl), (Nat.le_of_ble_eq_true rfl)⟩) hS (fun q _ h => hFc q h) hFc (fun r18 u t H locs ht hvm hw hB hz1 hk1 hS => ?_)
                obtain ⟨b1, b2, b3⟩ := hB
                rw [ht] at b1
                obtain ⟨hP, hD, hK⟩ := JOINC (wc := (List.flatten ([(oX2 (p0a 0) p0a p0k p0n p0w p0l)] : List va_W))) (wr := (List.flatten ([] : List va_W))) (w1 := (List.flatten ([(oX2 (p0a 0) p0a p0k p0n p0w p0l)] : List va_W))) (t1 := (List.flatten ([(tX2 p0k)] : List (List (ClassId × FieldType))))) hPx hDx hKx hk1 hFc b1 (va_K.moved hvm.symm b2) b3
                have hP : va_P (dC, dI) cls (List.flatten ([(oX2 (p0a 0) p0a p0k p0n p0w p0l)] : List va_W)) H := vP_perm (vP_fb hP) (bP (List.Perm.refl _))
                have hD : va_D A (List.flatten ([(oX2 (p0a 0) p0a p0k p0n p0w p0l)] : List va_W)) := vD_perm (vD_fb hD) (bP (List.Perm.refl _))
                have hK : va_K (dC, dI) cls (List.flatten ([(tX2 p0k)] : List (List (ClassId × FieldType)))) s := vK_perm (vK_fb hK) (bP (List.Perm.refl _))
                obtain rfl : o_17 = r18 := hw.symm
                have J186 : ∀ (H : Heap) (locs : List Loc) (ls : Array Slot), (fX2_mayUnite_J186 (fX2_mayUnite_L138 p0n p0w p0l p1 p2 p3 n_138) v4_138 v5_138) = some o138 → va_P (dC, dI) cls (List.flatten ([(oX2 (p0a 0) p0a p0k p0n p0w p0l)] : List va_W)) H → va_D A (List.flatten ([(oX2 (p0a 0) p0a p0k p0n p0w p0l)] : List va_W)) → va_K (dC, dI) cls (List.flatten ([(tX2 p0k)] : List (List (ClassId × FieldType)))) s → va_S A s.heap H locs → lv_has ls 8 [(0, .ref (p0a 0)), (1, .int p1), (2, .int p2), (3, .int p3), (4, .int v4_138), (5, .int v5_138)] → W p l e ({ frames := 2, cells := 0, slots := 0, locals := 45 } : Room) s m ([.ref (p0a 0), .int p1, .int p2, .int p3] : List Value).toArray below meth c H locs 0 0 Q (F0 m 186 ls []) := by
                  intro  H locs ls hrun hP hD hK hS hl 
                  unfold fX2_mayUnite_J186 at hrun
                  refine lv_iinc (v := (v4_138 + 1)) (lv' := [(4, .int (v4_138 + 1)), (0, .ref (p0a 0)), (1, .int p1), (2, .int p2), (3, .int p3), (5, .int v5_138)]) hx hb dX2_mayUnite_186 hl (k := 4) rfl rfl (by decide) rfl (fun ls hl => ?_)
                  exact J189 (v4_138 + 1) _ _ _ hrun hP hD hK hS (lv_sub hl [1, 2, 3, 4, 0, 5] rfl)
                rcases br9 hrun with ⟨hc19, hrun⟩ | ⟨hc19, hrun⟩
                · refine lv_if_ne (tgt := 186) hx hb dX2_mayUnite_169 (by decide) (fun c => absurd hc19 c) (fun _ => ?_)
                  refine lv_aload_n hx hb dX2_mayUnite_172 rfl (lv_at hl 0 rfl) ?_
                  refine lv_aload_n hx hb dX2_mayUnite_173 rfl (lv_at hl 0 rfl) ?_
                  refine va_get (D := (dC, dI)) (ci := 9) (v := .ref (p0a 11)) (C := RX2) (T := TX2) (N := 19) hx hb hts i_X2 hown hK hP 0 rfl rfl 10 (by decide) (hts _ qw681) (fun _ h9 => h9) rfl dX2_mayUnite_174 ?_
                  refine lv_iload hx hb dX2_mayUnite_177 (lv_at hl 5 rfl) ?_
                  refine lv_iload_n hx hb dX2_mayUnite_179 rfl (lv_at hl 2 rfl) ?_
                  obtain ⟨o_20, hc_20, hrun⟩ := bnd9 hrun
                  have hPx : va_P (dC, dI) cls ((List.flatten ([(oX2 (p0a 0) p0a p0k p0n p0w p0l)] : List va_W)) ++ (List.flatten ([] : List va_W))) H := vP_fa (vP_perm hP (bP (List.Perm.refl _)))
                  have hDx : va_D A ((List.flatten ([(oX2 (p0a 0) p0a p0k p0n p0w p0l)] : List va_W)) ++ (List.flatten ([] : List va_W))) := vD_fa (vD_perm hD (bP (List.Perm.refl _)))
                  have hKx : va_K (dC, dI) cls ((List.flatten ([(tX2 p0k)] : List (List (ClassId × FieldType)))) ++ (List.flatten ([] : List (List (ClassId × FieldType))))) s := vK_fa (vK_perm hK (bP (List.Perm.refl _)))
                  have hPc := vP_l hPx
                  have hDc := vD_l hDx
                  have hKc := vK_l hKx
                  have hFc := vfree hDx hS hA
                  refine va_calli (va_runV (As := [.ref (p0a 11), .int v5_138, .int p2]) (rest := []) ⟨hx, hb, hml, hown, hts⟩ (kX2_isIn_a1_p0_10 l dC dI (p0a := p0a) (p0k := p0k) (p0n := p0n) (p0w := p0w) (p0l := p0l) (p2 := v5_138) (p3 := p2) (sz := _) (o := o_20) (hrun := hc_20)) (cwV 3 hts (gi_V qw709 qw710 qw711 qw694 (gi_z qw708)) rfl rfl rfl (by decide +kernel) ⟨Nat.le_of_ble_eq_true rfl, Nat.le_of_ble_eq_true rfl⟩) ⟨PRE.blind, va_recv hKc hPc (ci := 9) (q0 := 0) rfl rfl, PRE.of hE hS hFc hPc hKc hDc⟩ rfl rfl hl.1 rfl (lv_room (Nat.le_of_ble_eq_true rfl)) dX2_mayUnite_180 ⟨(Nat.le_of_ble_eq_true rfl), (Nat.le_of_ble_eq_true rfl)⟩) hS (fun q _ h => hFc q h) hFc (fun r21 u t H locs ht hvm hw hB hz1 hk1 hS => ?_)
                  obtain ⟨b1, b2, b3⟩ := hB
                  rw [ht] at b1
                  obtain ⟨hP, hD, hK⟩ := JOINC (wc := (List.flatten ([(oX2 (p0a 0) p0a p0k p0n p0w p0l)] : List va_W))) (wr := (List.flatten ([] : List va_W))) (w1 := (List.flatten ([(oX2 (p0a 0) p0a p0k p0n p0w p0l)] : List va_W))) (t1 := (List.flatten ([(tX2 p0k)] : List (List (ClassId × FieldType))))) hPx hDx hKx hk1 hFc b1 (va_K.moved hvm.symm b2) b3
                  have hP : va_P (dC, dI) cls (List.flatten ([(oX2 (p0a 0) p0a p0k p0n p0w p0l)] : List va_W)) H := vP_perm (vP_fb hP) (bP (List.Perm.refl _))
                  have hD : va_D A (List.flatten ([(oX2 (p0a 0) p0a p0k p0n p0w p0l)] : List va_W)) := vD_perm (vD_fb hD) (bP (List.Perm.refl _))
                  have hK : va_K (dC, dI) cls (List.flatten ([(tX2 p0k)] : List (List (ClassId × FieldType)))) s := vK_perm (vK_fb hK) (bP (List.Perm.refl _))
                  obtain rfl : o_20 = r21 := hw.symm
                  rcases br9 hrun with ⟨hc22, hrun⟩ | ⟨hc22, hrun⟩
                  · refine lv_if_eq (tgt := 189) hx hb dX2_mayUnite_183 (by decide) (fun _ => ?_) (fun c => absurd hc22 c)
                    exact J189 v4_138 _ _ _ hrun hP hD hK hS (lv_sub hl [0, 1, 2, 3, 4, 5] rfl)
                  · refine lv_if_eq (tgt := 189) hx hb dX2_mayUnite_183 (by decide) (fun c => absurd c hc22) (fun _ => ?_)
                    exact J186 _ _ _ hrun hP hD hK hS (lv_sub hl [0, 1, 2, 3, 4, 5] rfl)
                · refine lv_if_ne (tgt := 186) hx hb dX2_mayUnite_169 (by decide) (fun _ => ?_) (fun c => absurd c hc19)
                  exact J186 _ _ _ hrun hP hD hK hS (lv_sub hl [0, 1, 2, 3, 4, 5] rfl)
        obtain ⟨o138, hc138, hrun⟩ := bnd9 hrun
        refine L138 NF o37 (p0w 0 0) o138 _ _ _ hc138 hP hD hK hS (lv_sub hl [1, 2, 3, 4, 5, 0] rfl) ?_
        intro H locs ls hP hD hK hS hl
        have hl := hl
        refine lv_iload hx hb dX2_mayUnite_195 (lv_at hl 1 rfl) ?_
        refine lv_iload_n hx hb dX2_mayUnite_197 rfl (lv_at hl 0 rfl) ?_
        have J206 : ∀ (y0_206 : Int32) (H : Heap) (locs : List Loc) (ls : Array Slot), (fX2_mayUnite_J206 y0_206) = some o → va_P (dC, dI) cls (List.flatten ([(oX2 (p0a 0) p0a p0k p0n p0w p0l)] : List va_W)) H → va_D A (List.flatten ([(oX2 (p0a 0) p0a p0k p0n p0w p0l)] : List va_W)) → va_K (dC, dI) cls (List.flatten ([(tX2 p0k)] : List (List (ClassId × FieldType)))) s → va_S A s.heap H locs → lv_has ls 8 [] → W p l e ({ frames := 2, cells := 0, slots := 0, locals := 45 } : Room) s m ([.ref (p0a 0), .int p1, .int p2, .int p3] : List Value).toArray below meth c H locs 0 0 Q (F0 m 206 ls [.int y0_206]) := by
          intro y0_206 H locs ls hrun hP hD hK hS hl 
          unfold fX2_mayUnite_J206 at hrun
          obtain ⟨hz9, hrun⟩ := chk9 hrun
          have ho9 : y0_206 = o := Option.some.inj hrun
          have hP9 : va_P (dC, dI) cls (List.flatten ([(oX2 (p0a 0) p0a p0k p0n p0w p0l)] : List va_W)) H := by first | exact hP | (rw [← ho9]; exact hP)
          have hD9 : va_D A (List.flatten ([(oX2 (p0a 0) p0a p0k p0n p0w p0l)] : List va_W)) := by first | exact hD | (rw [← ho9]; exact hD)
          subst hQ
          exact W.zret (v := y0_206) hx hb hr (bz9 hz9) (fun t ht hW => ⟨⟨y0_206, (), rfl, (by rw [← ho9]), ⟨by rw [ht]; exact hP9, va_K.moved hW.alike hK, hD9⟩⟩, hS.F ht⟩) hS.2.2 dX2_mayUnite_206
        rcases br9 hrun with ⟨hc23, hrun⟩ | ⟨hc23, hrun⟩
        · refine lv_icmp_ge (tgt := 205) hx hb dX2_mayUnite_198 (by decide) (fun _ => ?_) (fun c => absurd hc23 c)
          refine lv_iconst (v := 0) hx hb dX2_mayUnite_205 (by decide) ?_
          exact J206 0 _ _ _ hrun hP hD hK hS (lv_sub hl [] rfl)
        · refine lv_icmp_ge (tgt := 205) hx hb dX2_mayUnite_198 (by decide) (fun c => absurd c hc23) (fun _ => ?_)
          refine lv_iconst (v := 1) hx hb dX2_mayUnite_201 (by decide) ?_
          refine lv_goto (tgt := 206) hx hb dX2_mayUnite_202 (by decide) ?_
          exact J206 1 _ _ _ hrun hP hD hK hS (lv_sub hl [] rfl)
      · refine lv_if_eq (tgt := 31) hx hb dX2_mayUnite_26 (by decide) (fun c => absurd c hc5) (fun _ => ?_)
        exact J29 _ _ _ hrun hP hD hK hS (lv_sub hl [] rfl)
def fX0_unite_J171 (kk34 : Int32 → ST → ST → Option (ST × ST)) (v6_34 : Int32) (p0_0_2w_34 : ST) (p0_0w_171 : ST) (p0_0_2w_171 : ST) : Option (ST × ST) := (kk34 (p0_0_2w_34 6 (nn v6_34)) p0_0w_171 p0_0_2w_171)
def fX0_unite_J160 (kk34 : Int32 → ST → ST → Option (ST × ST)) (p0_0_2n : Nat → Nat) (v4_11 : Int32) (v6_34 : Int32) (p0_0w_34 : ST) (p0_0_2w_34 : ST) (p0_0_2w_131 : ST) : Option (ST × ST) := ((fX1_link p0_0w_34 v4_11 v6_34 p0_0_2n p0_0_2w_131).bind fun (o_14 : ST × ST) => (fX0_unite_J171 kk34 v6_34 p0_0_2w_34 (o_14.1) (o_14.2)))
def fX0_unite_J131 (kk34 : Int32 → ST → ST → Option (ST × ST)) (p0_0_2n : Nat → Nat) (v4_11 : Int32) (v6_34 : Int32) (p0_0w_34 : ST) (p0_0_2w_34 : ST) (p0_0_2w_131 : ST) : Option (ST × ST) := (if ixb v6_34 (p0_0_2n 2) = true then (if (p0_0_2w_131 2 (nn v6_34)) = 25 then (if ixb v6_34 (p0_0_2n 3) = true then (if ixb v6_34 (p0_0_2n 4) = true then (if (p0_0_2w_131 3 (nn v6_34)) = (p0_0_2w_131 4 (nn v6_34)) then (fX0_unite_J171 kk34 v6_34 p0_0_2w_34 p0_0w_34 p0_0_2w_131) else (fX0_unite_J160 kk34 p0_0_2n v4_11 v6_34 p0_0w_34 p0_0_2w_34 p0_0_2w_131)) else none) else none) else (fX0_unite_J160 kk34 p0_0_2n v4_11 v6_34 p0_0w_34 p0_0_2w_34 p0_0_2w_131)) else none)
def fX0_unite_J99 (kk34 : Int32 → ST → ST → Option (ST × ST)) (p1 : Int32) (p2 : Int32) (p0_0_2n : Nat → Nat) (v4_11 : Int32) (v6_34 : Int32) (p0_0w_34 : ST) (p0_0_2w_34 : ST) (p0_0_2w_99 : ST) : Option (ST × ST) := (if ixb v6_34 (p0_0_2n 2) = true then ((fX11_usesRight (p0_0_2w_99 2 (nn v6_34))).bind fun (o_11 : Int32) => (if o_11 = 0 then (fX0_unite_J131 kk34 p0_0_2n v4_11 v6_34 p0_0w_34 p0_0_2w_34 p0_0_2w_99) else (if ixb v6_34 (p0_0_2n 5) = true then (if (p0_0_2w_99 5 (nn v6_34)) = p2 then (if ixb v6_34 (p0_0_2n 5) = true then (lt9 (upw p0_0_2w_99 5 (nn v6_34) p1) fun (w23 : ST) => (fX0_unite_J131 kk34 p0_0_2n v4_11 v6_34 p0_0w_34 p0_0_2w_34 w23)) else none) else (fX0_unite_J131 kk34 p0_0_2n v4_11 v6_34 p0_0w_34 p0_0_2w_34 p0_0_2w_99)) else none))) else none)
def fX0_unite_J67 (kk34 : Int32 → ST → ST → Option (ST × ST)) (p1 : Int32) (p2 : Int32) (p0_0_2n : Nat → Nat) (v4_11 : Int32) (v6_34 : Int32) (p0_0w_34 : ST) (p0_0_2w_34 : ST) (p0_0_2w_67 : ST) : Option (ST × ST) := (if ixb v6_34 (p0_0_2n 2) = true then ((fX11_usesLeft (p0_0_2w_67 2 (nn v6_34))).bind fun (o_8 : Int32) => (if o_8 = 0 then (fX0_unite_J99 kk34 p1 p2 p0_0_2n v4_11 v6_34 p0_0w_34 p0_0_2w_34 p0_0_2w_67) else (if ixb v6_34 (p0_0_2n 4) = true then (if (p0_0_2w_67 4 (nn v6_34)) = p2 then (if ixb v6_34 (p0_0_2n 4) = true then (lt9 (upw p0_0_2w_67 4 (nn v6_34) p1) fun (w28 : ST) => (fX0_unite_J99 kk34 p1 p2 p0_0_2n v4_11 v6_34 p0_0w_34 p0_0_2w_34 w28)) else none) else (fX0_unite_J99 kk34 p1 p2 p0_0_2n v4_11 v6_34 p0_0w_34 p0_0_2w_34 p0_0_2w_67)) else none))) else none)
def fX0_unite_L34 (p1 : Int32) (p2 : Int32) (p0_0_2n : Nat → Nat) (v4_11 : Int32) : Nat → Int32 → ST → ST → Option (ST × ST)
  | 0 => fun _ _ _ => none
  | n_34 + 1 => fun v6_34 p0_0w_34 p0_0_2w_34 => (if v6_34 < 0 then some (p0_0w_34, p0_0_2w_34) else (if ixb v6_34 (p0_0_2n 6) = true then (if ixb v6_34 (p0_0_2n 3) = true then (if (p0_0_2w_34 3 (nn v6_34)) = p2 then (if ixb v6_34 (p0_0_2n 3) = true then (lt9 (upw p0_0_2w_34 3 (nn v6_34) p1) fun (w31 : ST) => (fX0_unite_J67 (fX0_unite_L34 p1 p2 p0_0_2n v4_11 n_34) p1 p2 p0_0_2n v4_11 v6_34 p0_0w_34 p0_0_2w_34 w31)) else none) else (fX0_unite_J67 (fX0_unite_L34 p1 p2 p0_0_2n v4_11 n_34) p1 p2 p0_0_2n v4_11 v6_34 p0_0w_34 p0_0_2w_34 p0_0_2w_34)) else none) else none))
def fX0_unite_J203 (kk11 : Int32 → ST → ST → Option (ST × ST)) (v4_11 : Int32) (o34 : ST × ST) (p0_0w_203 : ST) : Option (ST × ST) := (kk11 (v4_11 + 1) p0_0w_203 (o34.2))
def fX0_unite_L11 (p1 : Int32) (p2 : Int32) (p0_0_2n : Nat → Nat) : Nat → Int32 → ST → ST → Option (ST × ST)
  | 0 => fun _ _ _ => none
  | n_11 + 1 => fun v4_11 p0_0w_11 p0_0_2w_11 => (if (p0_0w_11 0 0) ≤ v4_11 then some (p0_0w_11, p0_0_2w_11) else ((fX1_takeSteps p0_0w_11 v4_11).bind fun (o_2 : Int32 × ST) => ((fX0_unite_L34 p1 p2 p0_0_2n v4_11 NF (o_2.1) (o_2.2) p0_0_2w_11).bind fun (o34 : ST × ST) => (if ixb v4_11 60 = true then (if (((o34.1) 9) (nn v4_11)) = p2 then (if ixb v4_11 60 = true then (lt9 (upw (o34.1) 9 (nn v4_11) p1) fun (w35 : ST) => (fX0_unite_J203 (fX0_unite_L11 p1 p2 p0_0_2n n_11) v4_11 o34 w35)) else none) else (fX0_unite_J203 (fX0_unite_L11 p1 p2 p0_0_2n n_11) v4_11 o34 (o34.1))) else none))))
def fX0_unite (p1 : Int32) (p2 : Int32) (p0_0w : ST) (p0_0_2n : Nat → Nat) (p0_0_2w : ST) : Option (ST × ST) := ((fX0_unite_L11 p1 p2 p0_0_2n NF 0 p0_0w p0_0_2w).bind fun (o11 : ST × ST) => some ((o11.1), (o11.2)))
set_option maxHeartbeats 16000000 in
set_option maxRecDepth 100000 in
theorem kX0_unite {zs : ZS} (l : Launch) (dC : Nat → ClassId) (dI : Nat → Nat → Nat) (p0a : Nat → Nat) (p0k : Nat → ClassId) (p0n : Nat → Nat) (p0w : ST) (p1 : Int32) (p2 : Int32) (p0_0a : Nat → Nat) (p0_0k : Nat → ClassId) (p0_0n : Nat → Nat) (p0_0w : ST) (p0_0l : SL) (p0_0_2a : Nat → Nat) (p0_0_2k : Nat → ClassId) (p0_0_2n : Nat → Nat) (p0_0_2w : ST) (sz : Nat) (o : ST × ST) (hrun : fX0_unite p1 p2 p0_0w p0_0_2n p0_0_2w = some o) : Met l yX0_unite (wz yX0_unite cX0_unite 7 (Option.none : Option Jvm.ClassFile.FieldType)) ({ frames := 2, cells := 0, slots := 0, locals := 40 } : Room) (va_Pc [.ref (p0a 0), .int p1, .int p2] (PRE zs dC dI (List.flatten ([(oX0 (p0a 0) p0a p0k p0n p0w), (oX1 (p0a 1) p0_0a p0_0k p0_0n p0_0w p0_0l), (oX9 (p0_0a 3) p0_0_2a p0_0_2k p0_0_2n p0_0_2w)] : List va_W)) (List.flatten ([(tX0 p0k), (tX1 p0_0k), (tX9 p0_0_2k)] : List (List (ClassId × FieldType)))) sz)) (va_Qv (fun (_ : Unit) => True) (fun _ t => POST dC dI (List.flatten ([(oX0 (p0a 0) p0a p0k p0n p0w), (oX1 (p0a 1) p0_0a p0_0k p0_0n (o.1) p0_0l), (oX9 (p0_0a 3) p0_0_2a p0_0_2k p0_0_2n (o.2))] : List va_W)) (List.flatten ([(tX0 p0k), (tX1 p0_0k), (tX9 p0_0_2k)] : List (List (ClassId × FieldType)))) (va_A (List.flatten ([(oX0 (p0a 0) p0a p0k p0n p0w), (oX1 (p0a 1) p0_0a p0_0k p0_0n p0_0w p0_0l), (oX9 (p0_0a 3) p0_0_2a p0_0_2k p0_0_2n p0_0_2w)] : List va_W)) sz) t) (va_A (List.flatten ([(oX0 (p0a 0) p0a p0k p0n p0w), (oX1 (p0a 1) p0_0a p0_0k p0_0n p0_0w p0_0l), (oX9 (p0_0a 3) p0_0_2a p0_0_2k p0_0_2n p0_0_2w)] : List va_W)) sz)) 0 0 (va_A (List.flatten ([(oX0 (p0a 0) p0a p0k p0n p0w), (oX1 (p0a 1) p0_0a p0_0k p0_0n p0_0w p0_0l), (oX9 (p0_0a 3) p0_0_2a p0_0_2k p0_0_2n p0_0_2w)] : List va_W)) sz) := by
  refine Met.ofW (cc := cX0_unite) (maxL := 7) (ret := (Option.none : Option Jvm.ClassFile.FieldType)) (by decide) rfl ?_
  intro p e s m args below meth c s₁ B hml hv
  obtain ⟨rfl, hsz, hP, hK, hD0, hE⟩ := hv
  have hx := B.exec
  have hb := B.bytes
  have hr := B.returns
  have hts0 := atoms_spec (ws := wz yX0_unite cX0_unite 7 (Option.none : Option Jvm.ClassFile.FieldType)) B.pre
  have hts : ∀ w ∈ gw, w.before _ s = true := fun w h => hts0 w (List.mem_cons_of_mem _ h)
  have hown : s.vm.findClass RX0 = some m.cls := findClass_of_methodNamed B.named
  have hlocks := B.notSynchronized
  subst hsz
  have hD := hD0.self (sz := s.heap.size)
  refine gQ9 ?_
  intro Q hQ
  generalize hAe : va_A (List.flatten ([(oX0 (p0a 0) p0a p0k p0n p0w), (oX1 (p0a 1) p0_0a p0_0k p0_0n p0_0w p0_0l), (oX9 (p0_0a 3) p0_0_2a p0_0_2k p0_0_2n p0_0_2w)] : List va_W)) s.heap.size = A at hD hE hQ
  have hA : ∀ q : Nat, s.heap.size ≤ q → A q := fun q h => by rw [← hAe]; exact Or.inr h
  have hS : va_S A s.heap s.heap [] := va_S.rf
  have hP : va_P (dC, dI) cls (List.flatten ([(oX0 (p0a 0) p0a p0k p0n p0w), (oX1 (p0a 1) p0_0a p0_0k p0_0n p0_0w p0_0l), (oX9 (p0_0a 3) p0_0_2a p0_0_2k p0_0_2n p0_0_2w)] : List va_W)) s.heap := hP
  have hl := lv_entry ([.ref (p0a 0), .int p1, .int p2]) (n := 7) (Nat.le_of_ble_eq_true rfl)
  rw [lg_entry_eq]
  generalize (lg_sl ([.ref (p0a 0), .int p1, .int p2]) ++ List.replicate (7 - (lg_sl ([.ref (p0a 0), .int p1, .int p2])).length) Slot.unset).toArray = ls at hl ⊢
  have hl : lv_has ls 7 [(0, .ref (p0a 0)), (1, .int p1), (2, .int p2)] := hl
  obtain ⟨H, hHe⟩ : ∃ H, H = s.heap := ⟨_, rfl⟩
  obtain ⟨locs, hle⟩ : ∃ locs : List Loc, locs = [] := ⟨_, rfl⟩
  rw [← hHe] at hP
  have hS : va_S A s.heap H locs := by rw [hHe, hle]; exact hS
  show W p l e ({ frames := 2, cells := 0, slots := 0, locals := 40 } : Room) s m ([.ref (p0a 0), .int p1, .int p2] : List Value).toArray below meth c s.heap [] 0 0 Q (F0 m 0 ls [])
  rw [← hle]
  refine wH9 hHe ?_
  unfold fX0_unite at hrun
  refine lv_aload_n hx hb dX0_unite_0 rfl (lv_at hl 0 rfl) ?_
  refine va_get (D := (dC, dI)) (ci := 8) (v := .ref (p0a 1)) (C := RX0) (T := TX0) (N := 17) hx hb hts i_X0 hown hK hP 0 rfl rfl 0 (by decide) (hts _ qw618) (fun _ h9 => h9) rfl dX0_unite_1 ?_
  refine va_get (D := (dC, dI)) (ci := 4) (v := .ref (p0_0a 3)) (C := RX1) (T := TX1) (N := 21) hx hb hts i_X1 hown hK hP 9 rfl rfl 2 (by decide) (hts _ qw629) (fun _ h9 => h9) rfl dX0_unite_4 ?_
  refine lv_astore_n (lv' := [(3, .ref (p0_0a 3)), (0, .ref (p0a 0)), (1, .int p1), (2, .int p2)]) hx hb dX0_unite_7 rfl hl (by decide) rfl (fun ls hl => ?_)
  refine lv_iconst (v := 0) hx hb dX0_unite_8 (by decide) ?_
  refine lv_istore (lv' := [(4, .int 0), (3, .ref (p0_0a 3)), (0, .ref (p0a 0)), (1, .int p1), (2, .int p2)]) hx hb dX0_unite_9 hl (by decide) rfl (fun ls hl => ?_)
  have L11 : ∀ (n_11 : Nat) (v4_11 : Int32) (p0_0w_11 : ST) (p0_0_2w_11 : ST) (o11 : ST × ST) (H : Heap) (locs : List Loc) (ls : Array Slot), (fX0_unite_L11 p1 p2 p0_0_2n n_11) v4_11 p0_0w_11 p0_0_2w_11 = some o11 → va_P (dC, dI) cls (List.flatten ([(oX0 (p0a 0) p0a p0k p0n p0w), (oX1 (p0a 1) p0_0a p0_0k p0_0n p0_0w_11 p0_0l), (oX9 (p0_0a 3) p0_0_2a p0_0_2k p0_0_2n p0_0_2w_11)] : List va_W)) H → va_D A (List.flatten ([(oX0 (p0a 0) p0a p0k p0n p0w), (oX1 (p0a 1) p0_0a p0_0k p0_0n p0_0w_11 p0_0l), (oX9 (p0_0a 3) p0_0_2a p0_0_2k p0_0_2n p0_0_2w_11)] : List va_W)) → va_K (dC, dI) cls (List.flatten ([(tX0 p0k), (tX1 p0_0k), (tX9 p0_0_2k)] : List (List (ClassId × FieldType)))) s → va_S A s.heap H locs → lv_has ls 7 [(0, .ref (p0a 0)), (1, .int p1), (2, .int p2), (3, .ref (p0_0a 3)), (4, .int v4_11)] → (∀ (H : Heap) (locs : List Loc) (ls : Array Slot), va_P (dC, dI) cls (List.flatten ([(oX0 (p0a 0) p0a p0k p0n p0w), (oX1 (p0a 1) p0_0a p0_0k p0_0n (o11.1) p0_0l), (oX9 (p0_0a 3) p0_0_2a p0_0_2k p0_0_2n (o11.2))] : List va_W)) H → va_D A (List.flatten ([(oX0 (p0a 0) p0a p0k p0n p0w), (oX1 (p0a 1) p0_0a p0_0k p0_0n (o11.1) p0_0l), (oX9 (p0_0a 3) p0_0_2a p0_0_2k p0_0_2n (o11.2))] : List va_W)) → va_K (dC, dI) cls (List.flatten ([(tX0 p0k), (tX1 p0_0k), (tX9 p0_0_2k)] : List (List (ClassId × FieldType)))) s → va_S A s.heap H locs → lv_has ls 7 [] → W p l e ({ frames := 2, cells := 0, slots := 0, locals := 40 } : Room) s m ([.ref (p0a 0), .int p1, .int p2] : List Value).toArray below meth c H locs 0 0 Q (F0 m 209 ls [])) → W p l e ({ frames := 2, cells := 0, slots := 0, locals := 40 } : Room) s m ([.ref (p0a 0), .int p1, .int p2] : List Value).toArray below meth c H locs 0 0 Q (F0 m 11 ls []) := by
    intro n_11
    induction n_11 with
    | zero => intro v4_11 p0_0w_11 p0_0_2w_11 o11 H locs ls hrun; exact (no9 rfl hrun).elim
    | succ n_11 IH11 =>
      intro v4_11 p0_0w_11 p0_0_2w_11 o11 H locs ls hrun hP hD hK hS hl hk11
      unfold fX0_unite_L11 at hrun
      refine lv_iload hx hb dX0_unite_11 (lv_at hl 4 rfl) ?_
      refine lv_aload_n hx hb dX0_unite_13 rfl (lv_at hl 0 rfl) ?_
      refine va_get (D := (dC, dI)) (ci := 8) (v := .ref (p0a 1)) (C := RX0) (T := TX0) (N := 17) hx hb hts i_X0 hown hK hP 0 rfl rfl 0 (by decide) (hts _ qw618) (fun _ h9 => h9) rfl dX0_unite_14 ?_
      refine va_get (D := (dC, dI)) (ci := 4) (v := .int (p0_0w_11 0 0)) (C := RX1) (T := TX1) (N := 21) hx hb hts i_X1 hown hK hP 9 rfl rfl 0 (by decide) (hts _ qw644) (fun _ h9 => h9) rfl dX0_unite_17 ?_
      rcases br9 hrun with ⟨hc1, hrun⟩ | ⟨hc1, hrun⟩
      · refine lv_icmp_ge (tgt := 209) hx hb dX0_unite_20 (by decide) (fun _ => ?_) (fun c => absurd hc1 c)
        obtain rfl := (Option.some.inj hrun)
        exact hk11 _ _ _ hP hD hK hS (lv_sub hl [] rfl)
      · refine lv_icmp_ge (tgt := 209) hx hb dX0_unite_20 (by decide) (fun c => absurd c hc1) (fun _ => ?_)
        refine lv_aload_n hx hb dX0_unite_23 rfl (lv_at hl 0 rfl) ?_
        refine va_get (D := (dC, dI)) (ci := 8) (v := .ref (p0a 1)) (C := RX0) (T := TX0) (N := 17) hx hb hts i_X0 hown hK hP 0 rfl rfl 0 (by decide) (hts _ qw618) (fun _ h9 => h9) rfl dX0_unite_24 ?_
        refine lv_iload hx hb dX0_unite_27 (lv_at hl 4 rfl) ?_
        obtain ⟨o_2, hc_2, hrun⟩ := bnd9 hrun
        have hPx : va_P (dC, dI) cls ((List.flatten ([(oX1 (p0a 1) p0_0a p0_0k p0_0n p0_0w_11 p0_0l)] : List va_W)) ++ (List.flatten ([(oX0 (p0a 0) p0a p0k p0n p0w), (oX9 (p0_0a 3) p0_0_2a p0_0_2k p0_0_2n p0_0_2w_11)] : List va_W))) H := vP_fa (vP_perm hP (bP ((((List.Perm.refl _)).cons _).trans (List.Perm.swap _ _ _))))
        have hDx : va_D A ((List.flatten ([(oX1 (p0a 1) p0_0a p0_0k p0_0n p0_0w_11 p0_0l)] : List va_W)) ++ (List.flatten ([(oX0 (p0a 0) p0a p0k p0n p0w), (oX9 (p0_0a 3) p0_0_2a p0_0_2k p0_0_2n p0_0_2w_11)] : List va_W))) := vD_fa (vD_perm hD (bP ((((List.Perm.refl _)).cons _).trans (List.Perm.swap _ _ _))))
        have hKx : va_K (dC, dI) cls ((List.flatten ([(tX1 p0_0k)] : List (List (ClassId × FieldType)))) ++ (List.flatten ([(tX0 p0k), (tX9 p0_0_2k)] : List (List (ClassId × FieldType))))) s := vK_fa (vK_perm hK (bP ((((List.Perm.refl _)).cons _).trans (List.Perm.swap _ _ _))))
        have hPc := vP_l hPx
        have hDc := vD_l hDx
        have hKc := vK_l hKx
        have hFc := vfree hDx hS hA
        refine va_calli (va_runV (As := [.int v4_11]) (rest := []) ⟨hx, hb, hml, hown, hts⟩ (kX1_takeSteps l dC dI (p0a := (st0 (p0a 1) p0_0a)) (p0k := p0_0k) (p0n := p0_0n) (p0w := p0_0w_11) (p0l := p0_0l) (p1 := v4_11) (sz := _) (o := o_2) (hrun := hc_2)) (cwV 1 hts (gi_V qw799 qw179 qw180 qw126 (gi_z qw177)) rfl rfl rfl (by decide +kernel) ⟨Nat.le_of_ble_eq_true rfl, Nat.le_of_ble_eq_true rfl⟩) ⟨PRE.blind, va_recv hKc hPc (ci := 4) (q0 := 0) rfl rfl, PRE.of hE hS hFc hPc hKc hDc⟩ rfl rfl hl.1 rfl (lv_room (Nat.le_of_ble_eq_true rfl)) dX0_unite_29 ⟨(Nat.le_of_ble_eq_true rfl), (Nat.le_of_ble_eq_true rfl)⟩) hS (fun q _ h => hFc q h) hFc (fun r3 u t H locs ht hvm hw hB hz1 hk1 hS => ?_)
        obtain ⟨b1, b2, b3⟩ := hB
        rw [ht] at b1
        obtain ⟨hP, hD, hK⟩ := JOINC (wc := (List.flatten ([(oX1 (p0a 1) p0_0a p0_0k p0_0n p0_0w_11 p0_0l)] : List va_W))) (wr := (List.flatten ([(oX0 (p0a 0) p0a p0k p0n p0w), (oX9 (p0_0a 3) p0_0_2a p0_0_2k p0_0_2n p0_0_2w_11)] : List va_W))) (w1 := (List.flatten ([(oX1 (p0a 1) p0_0a p0_0k p0_0n (o_2.2) p0_0l)] : List va_W))) (t1 := (List.flatten ([(tX1 p0_0k)] : List (List (ClassId × FieldType))))) hPx hDx hKx hk1 hFc b1 (va_K.moved hvm.symm b2) b3
        have hP : va_P (dC, dI) cls (List.flatten ([(oX0 (p0a 0) p0a p0k p0n p0w), (oX1 (p0a 1) p0_0a p0_0k p0_0n (o_2.2) p0_0l), (oX9 (p0_0a 3) p0_0_2a p0_0_2k p0_0_2n p0_0_2w_11)] : List va_W)) H := vP_perm (vP_fb hP) (bP ((((List.Perm.refl _)).cons _).trans (List.Perm.swap _ _ _)))
        have hD : va_D A (List.flatten ([(oX0 (p0a 0) p0a p0k p0n p0w), (oX1 (p0a 1) p0_0a p0_0k p0_0n (o_2.2) p0_0l), (oX9 (p0_0a 3) p0_0_2a p0_0_2k p0_0_2n p0_0_2w_11)] : List va_W)) := vD_perm (vD_fb hD) (bP ((((List.Perm.refl _)).cons _).trans (List.Perm.swap _ _ _)))
        have hK : va_K (dC, dI) cls (List.flatten ([(tX0 p0k), (tX1 p0_0k), (tX9 p0_0_2k)] : List (List (ClassId × FieldType)))) s := vK_perm (vK_fb hK) (bP ((((List.Perm.refl _)).cons _).trans (List.Perm.swap _ _ _)))
        obtain rfl : r3 = (o_2.1) := hw
        refine lv_istore (lv' := [(6, .int (o_2.1)), (0, .ref (p0a 0)), (1, .int p1), (2, .int p2), (3, .ref (p0_0a 3)), (4, .int v4_11)]) hx hb dX0_unite_32 hl (by decide) rfl (fun ls hl => ?_)
        have L34 : ∀ (n_34 : Nat) (v6_34 : Int32) (p0_0w_34 : ST) (p0_0_2w_34 : ST) (o34 : ST × ST) (H : Heap) (locs : List Loc) (ls : Array Slot), (fX0_unite_L34 p1 p2 p0_0_2n v4_11 n_34) v6_34 p0_0w_34 p0_0_2w_34 = some o34 → va_P (dC, dI) cls (List.flatten ([(oX0 (p0a 0) p0a p0k p0n p0w), (oX1 (p0a 1) p0_0a p0_0k p0_0n p0_0w_34 p0_0l), (oX9 (p0_0a 3) p0_0_2a p0_0_2k p0_0_2n p0_0_2w_34)] : List va_W)) H → va_D A (List.flatten ([(oX0 (p0a 0) p0a p0k p0n p0w), (oX1 (p0a 1) p0_0a p0_0k p0_0n p0_0w_34 p0_0l), (oX9 (p0_0a 3) p0_0_2a p0_0_2k p0_0_2n p0_0_2w_34)] : List va_W)) → va_K (dC, dI) cls (List.flatten ([(tX0 p0k), (tX1 p0_0k), (tX9 p0_0_2k)] : List (List (ClassId × FieldType)))) s → va_S A s.heap H locs → lv_has ls 7 [(0, .ref (p0a 0)), (1, .int p1), (2, .int p2), (3, .ref (p0_0a 3)), (4, .int v4_11), (6, .int v6_34)] → (∀ (H : Heap) (locs : List Loc) (ls : Array Slot), va_P (dC, dI) cls (List.flatten ([(oX0 (p0a 0) p0a p0k p0n p0w), (oX1 (p0a 1) p0_0a p0_0k p0_0n (o34.1) p0_0l), (oX9 (p0_0a 3) p0_0_2a p0_0_2k p0_0_2n (o34.2))] : List va_W)) H → va_D A (List.flatten ([(oX0 (p0a 0) p0a p0k p0n p0w), (oX1 (p0a 1) p0_0a p0_0k p0_0n (o34.1) p0_0l), (oX9 (p0_0a 3) p0_0_2a p0_0_2k p0_0_2n (o34.2))] : List va_W)) → va_K (dC, dI) cls (List.flatten ([(tX0 p0k), (tX1 p0_0k), (tX9 p0_0_2k)] : List (List (ClassId × FieldType)))) s → va_S A s.heap H locs → lv_has ls 7 [(0, .ref (p0a 0)), (1, .int p1), (2, .int p2), (3, .ref (p0_0a 3)), (4, .int v4_11)] → W p l e ({ frames := 2, cells := 0, slots := 0, locals := 40 } : Room) s m ([.ref (p0a 0), .int p1, .int p2] : List Value).toArray below meth c H locs 0 0 Q (F0 m 178 ls [])) → W p l e ({ frames := 2, cells := 0, slots := 0, locals := 40 } : Room) s m ([.ref (p0a 0), .int p1, .int p2] : List Value).toArray below meth c H locs 0 0 Q (F0 m 34 ls []) := by
          intro n_34
          induction n_34 with
          | zero => intro v6_34 p0_0w_34 p0_0_2w_34 o34 H locs ls hrun; exact (no9 rfl hrun).elim
          | succ n_34 IH34 =>
            intro v6_34 p0_0w_34 p0_0_2w_34 o34 H locs ls hrun hP hD hK hS hl hk34
            unfold fX0_unite_L34 at hrun
            refine lv_iload hx hb dX0_unite_34 (lv_at hl 5 rfl) ?_
            rcases br9 hrun with ⟨hc4, hrun⟩ | ⟨hc4, hrun⟩
            · refine lv_if_lt (tgt := 178) hx hb dX0_unite_36 (by decide) (fun _ => ?_) (fun c => absurd hc4 c)
              obtain rfl := (Option.some.inj hrun)
              exact hk34 _ _ _ hP hD hK hS (lv_sub hl [0, 1, 2, 3, 4] rfl)
            · refine lv_if_lt (tgt := 178) hx hb dX0_unite_36 (by decide) (fun c => absurd c hc4) (fun _ => ?_)
              refine lv_aload_n hx hb dX0_unite_39 rfl (lv_at hl 3 rfl) ?_
              refine va_get (D := (dC, dI)) (ci := 3) (v := .ref (p0_0_2a 6)) (C := RX9) (T := TX9) (N := 6) hx hb hts i_X9 hown hK hP 27 rfl rfl 5 (by decide) (hts _ qw796) (fun _ h9 => h9) rfl dX0_unite_40 ?_
              refine lv_iload hx hb dX0_unite_43 (lv_at hl 5 rfl) ?_
              obtain ⟨hq5, hrun⟩ := chk9 hrun
              refine va_iald hx hb hK hP 32 29 rfl rfl (ixb_in hq5) dX0_unite_45 ?_
              refine lv_istore (lv' := [(5, .int (p0_0_2w_34 6 (nn v6_34))), (0, .ref (p0a 0)), (1, .int p1), (2, .int p2), (3, .ref (p0_0a 3)), (4, .int v4_11), (6, .int v6_34)]) hx hb dX0_unite_46 hl (by decide) rfl (fun ls hl => ?_)
              refine lv_aload_n hx hb dX0_unite_48 rfl (lv_at hl 4 rfl) ?_
              refine va_get (D := (dC, dI)) (ci := 3) (v := .ref (p0_0_2a 3)) (C := RX9) (T := TX9) (N := 6) hx hb hts i_X9 hown hK hP 27 rfl rfl 2 (by decide) (hts _ qw636) (fun _ h9 => h9) rfl dX0_unite_49 ?_
              refine lv_iload hx hb dX0_unite_52 (lv_at hl 6 rfl) ?_
              obtain ⟨hq6, hrun⟩ := chk9 hrun
              refine va_iald hx hb hK hP 29 26 rfl rfl (ixb_in hq6) dX0_unite_54 ?_
              refine lv_iload_n hx hb dX0_unite_55 rfl (lv_at hl 3 rfl) ?_
              have J67 : ∀ (p0_0_2w_67 : ST) (H : Heap) (locs : List Loc) (ls : Array Slot), (fX0_unite_J67 (fX0_unite_L34 p1 p2 p0_0_2n v4_11 n_34) p1 p2 p0_0_2n v4_11 v6_34 p0_0w_34 p0_0_2w_34 p0_0_2w_67) = some o34 → va_P (dC, dI) cls (List.flatten ([(oX0 (p0a 0) p0a p0k p0n p0w), (oX1 (p0a 1) p0_0a p0_0k p0_0n p0_0w_34 p0_0l), (oX9 (p0_0a 3) p0_0_2a p0_0_2k p0_0_2n p0_0_2w_67)] : List va_W)) H → va_D A (List.flatten ([(oX0 (p0a 0) p0a p0k p0n p0w), (oX1 (p0a 1) p0_0a p0_0k p0_0n p0_0w_34 p0_0l), (oX9 (p0_0a 3) p0_0_2a p0_0_2k p0_0_2n p0_0_2w_67)] : List va_W)) → va_K (dC, dI) cls (List.flatten ([(tX0 p0k), (tX1 p0_0k), (tX9 p0_0_2k)] : List (List (ClassId × FieldType)))) s → va_S A s.heap H locs → lv_has ls 7 [(0, .ref (p0a 0)), (1, .int p1), (2, .int p2), (3, .ref (p0_0a 3)), (4, .int v4_11), (5, .int (p0_0_2w_34 6 (nn v6_34))), (6, .int v6_34)] → W p l e ({ frames := 2, cells := 0, slots := 0, locals := 40 } : Room) s m ([.ref (p0a 0), .int p1, .int p2] : List Value).toArray below meth c H locs 0 0 Q (F0 m 67 ls []) := by
                intro p0_0_2w_67 H locs ls hrun hP hD hK hS hl 
                unfold fX0_unite_J67 at hrun
                refine lv_aload_n hx hb dX0_unite_67 rfl (lv_at hl 3 rfl) ?_
                refine va_get (D := (dC, dI)) (ci := 3) (v := .ref (p0_0_2a 2)) (C := RX9) (T := TX9) (N := 6) hx hb hts i_X9 hown hK hP 27 rfl rfl 1 (by decide) (hts _ qw630) (fun _ h9 => h9) rfl dX0_unite_68 ?_
                refine lv_iload hx hb dX0_unite_71 (lv_at hl 6 rfl) ?_
                obtain ⟨hq7, hrun⟩ := chk9 hrun
                refine va_iald hx hb hK hP 28 25 rfl rfl (ixb_in hq7) dX0_unite_73 ?_
                obtain ⟨o_8, hc_8, hrun⟩ := bnd9 hrun
                have hPx : va_P (dC, dI) cls ((List.flatten ([] : List va_W)) ++ (List.flatten ([(oX0 (p0a 0) p0a p0k p0n p0w), (oX1 (p0a 1) p0_0a p0_0k p0_0n p0_0w_34 p0_0l), (oX9 (p0_0a 3) p0_0_2a p0_0_2k p0_0_2n p0_0_2w_67)] : List va_W))) H := vP_fa (vP_perm hP (bP (List.Perm.refl _)))
                have hDx : va_D A ((List.flatten ([] : List va_W)) ++ (List.flatten ([(oX0 (p0a 0) p0a p0k p0n p0w), (oX1 (p0a 1) p0_0a p0_0k p0_0n p0_0w_34 p0_0l), (oX9 (p0_0a 3) p0_0_2a p0_0_2k p0_0_2n p0_0_2w_67)] : List va_W))) := vD_fa (vD_perm hD (bP (List.Perm.refl _)))
                have hKx : va_K (dC, dI) cls ((List.flatten ([] : List (List (ClassId × FieldType)))) ++ (List.flatten ([(tX0 p0k), (tX1 p0_0k), (tX9 p0_0_2k)] : List (List (ClassId × FieldType))))) s := vK_fa (vK_perm hK (bP (List.Perm.refl _)))
                have hPc := vP_l hPx
                have hDc := vD_l hDx
                have hKc := vK_l hKx
                have hFc := vfree hDx hS hA
                refine va_calli (va_runSN (As := [.int (p0_0_2w_67 2 (nn v6_34))]) (rest := []) ⟨hx, hb, hml, hown, hts⟩ (kX11_usesLeft l dC dI (p0 := (p0_0_2w_67 2 (nn v6_34))) (sz := _) (o := o_8) (hrun := hc_8)) ⟨(va_cnB 1 hts (gi_z qw446) rfl rfl rfl (hE.nw (List.mem_append_right _ (tbl_9 (i := 64) rfl)) rfl) (hts _ qw129) (by decide +kernel) ⟨Nat.le_of_ble_eq_true rfl, Nat.le_of_ble_eq_true rfl⟩), (hts _ qw447), trivial⟩ ⟨PRE.blind, PRE.of hE hS hFc hPc hKc hDc⟩ rfl rfl hl.1 rfl (lv_room (Nat.le_of_ble_eq_true rfl)) dX0_unite_74 ⟨(Nat.le_of_ble_eq_true rfl), (Nat.le_of_ble_eq_true rfl)⟩) hS (fun q _ h => hFc q h) hFc (fun r9 u t H locs ht hvm hw hB hz1 hk1 hS => ?_)
                obtain ⟨b1, b2, b3⟩ := hB
                rw [ht] at b1
                obtain ⟨hP, hD, hK⟩ := JOINC (wc := (List.flatten ([] : List va_W))) (wr := (List.flatten ([(oX0 (p0a 0) p0a p0k p0n p0w), (oX1 (p0a 1) p0_0a p0_0k p0_0n p0_0w_34 p0_0l), (oX9 (p0_0a 3) p0_0_2a p0_0_2k p0_0_2n p0_0_2w_67)] : List va_W))) (w1 := (List.flatten ([] : List va_W))) (t1 := (List.flatten ([] : List (List (ClassId × FieldType))))) hPx hDx hKx hk1 hFc b1 (va_K.moved hvm.symm b2) b3
                have hP : va_P (dC, dI) cls (List.flatten ([(oX0 (p0a 0) p0a p0k p0n p0w), (oX1 (p0a 1) p0_0a p0_0k p0_0n p0_0w_34 p0_0l), (oX9 (p0_0a 3) p0_0_2a p0_0_2k p0_0_2n p0_0_2w_67)] : List va_W)) H := vP_perm (vP_fb hP) (bP (List.Perm.refl _))
                have hD : va_D A (List.flatten ([(oX0 (p0a 0) p0a p0k p0n p0w), (oX1 (p0a 1) p0_0a p0_0k p0_0n p0_0w_34 p0_0l), (oX9 (p0_0a 3) p0_0_2a p0_0_2k p0_0_2n p0_0_2w_67)] : List va_W)) := vD_perm (vD_fb hD) (bP (List.Perm.refl _))
                have hK : va_K (dC, dI) cls (List.flatten ([(tX0 p0k), (tX1 p0_0k), (tX9 p0_0_2k)] : List (List (ClassId × FieldType)))) s := vK_perm (vK_fb hK) (bP (List.Perm.refl _))
                obtain rfl : o_8 = r9 := hw.symm
                have J99 : ∀ (p0_0_2w_99 : ST) (H : Heap) (locs : List Loc) (ls : Array Slot), (fX0_unite_J99 (fX0_unite_L34 p1 p2 p0_0_2n v4_11 n_34) p1 p2 p0_0_2n v4_11 v6_34 p0_0w_34 p0_0_2w_34 p0_0_2w_99) = some o34 → va_P (dC, dI) cls (List.flatten ([(oX0 (p0a 0) p0a p0k p0n p0w), (oX1 (p0a 1) p0_0a p0_0k p0_0n p0_0w_34 p0_0l), (oX9 (p0_0a 3) p0_0_2a p0_0_2k p0_0_2n p0_0_2w_99)] : List va_W)) H → va_D A (List.flatten ([(oX0 (p0a 0) p0a p0k p0n p0w), (oX1 (p0a 1) p0_0a p0_0k p0_0n p0_0w_34 p0_0l), (oX9 (p0_0a 3) p0_0_2a p0_0_2k p0_0_2n p0_0_2w_99)] : List va_W)) → va_K (dC, dI) cls (List.flatten ([(tX0 p0k), (tX1 p0_0k), (tX9 p0_0_2k)] : List (List (ClassId × FieldType)))) s → va_S A s.heap H locs → lv_has ls 7 [(0, .ref (p0a 0)), (1, .int p1), (2, .int p2), (3, .ref (p0_0a 3)), (4, .int v4_11), (5, .int (p0_0_2w_34 6 (nn v6_34))), (6, .int v6_34)] → W p l e ({ frames := 2, cells := 0, slots := 0, locals := 40 } : Room) s m ([.ref (p0a 0), .int p1, .int p2] : List Value).toArray below meth c H locs 0 0 Q (F0 m 99 ls []) := by
                  intro p0_0_2w_99 H locs ls hrun hP hD hK hS hl 
                  unfold fX0_unite_J99 at hrun
                  refine lv_aload_n hx hb dX0_unite_99 rfl (lv_at hl 3 rfl) ?_
                  refine va_get (D := (dC, dI)) (ci := 3) (v := .ref (p0_0_2a 2)) (C := RX9) (T := TX9) (N := 6) hx hb hts i_X9 hown hK hP 27 rfl rfl 1 (by decide) (hts _ qw630) (fun _ h9 => h9) rfl dX0_unite_100 ?_
                  refine lv_iload hx hb dX0_unite_103 (lv_at hl 6 rfl) ?_
                  obtain ⟨hq10, hrun⟩ := chk9 hrun
                  refine va_iald hx hb hK hP 28 25 rfl rfl (ixb_in hq10) dX0_unite_105 ?_
                  obtain ⟨o_11, hc_11, hrun⟩ := bnd9 hrun
                  have hPx : va_P (dC, dI) cls ((List.flatten ([] : List va_W)) ++ (List.flatten ([(oX0 (p0a 0) p0a p0k p0n p0w), (oX1 (p0a 1) p0_0a p0_0k p0_0n p0_0w_34 p0_0l), (oX9 (p0_0a 3) p0_0_2a p0_0_2k p0_0_2n p0_0_2w_99)] : List va_W))) H := vP_fa (vP_perm hP (bP (List.Perm.refl _)))
                  have hDx : va_D A ((List.flatten ([] : List va_W)) ++ (List.flatten ([(oX0 (p0a 0) p0a p0k p0n p0w), (oX1 (p0a 1) p0_0a p0_0k p0_0n p0_0w_34 p0_0l), (oX9 (p0_0a 3) p0_0_2a p0_0_2k p0_0_2n p0_0_2w_99)] : List va_W))) := vD_fa (vD_perm hD (bP (List.Perm.refl _)))
                  have hKx : va_K (dC, dI) cls ((List.flatten ([] : List (List (ClassId × FieldType)))) ++ (List.flatten ([(tX0 p0k), (tX1 p0_0k), (tX9 p0_0_2k)] : List (List (ClassId × FieldType))))) s := vK_fa (vK_perm hK (bP (List.Perm.refl _)))
                  have hPc := vP_l hPx
                  have hDc := vD_l hDx
                  have hKc := vK_l hKx
                  have hFc := vfree hDx hS hA
                  refine va_calli (va_runSN (As := [.int (p0_0_2w_99 2 (nn v6_34))]) (rest := []) ⟨hx, hb, hml, hown, hts⟩ (kX11_usesRight l dC dI (p0 := (p0_0_2w_99 2 (nn v6_34))) (sz := _) (o := o_11) (hrun := hc_11)) ⟨(va_cnB 1 hts (gi_z qw351) rfl rfl rfl (hE.nw (List.mem_append_right _ (tbl_9 (i := 65) rfl)) rfl) (hts _ qw129) (by decide +kernel) ⟨Nat.le_of_ble_eq_true rfl, Nat.le_of_ble_eq_true rfl⟩), (hts _ qw352), trivial⟩ ⟨PRE.blind, PRE.of hE hS hFc hPc hKc hDc⟩ rfl rfl hl.1 rfl (lv_room (Nat.le_of_ble_eq_true rfl)) dX0_unite_106 ⟨(Nat.le_of_ble_eq_true rfl), (Nat.le_of_ble_eq_true rfl)⟩) hS (fun q _ h => hFc q h) hFc (fun r12 u t H locs ht hvm hw hB hz1 hk1 hS => ?_)
                  obtain ⟨b1, b2, b3⟩ := hB
                  rw [ht] at b1
                  obtain ⟨hP, hD, hK⟩ := JOINC (wc := (List.flatten ([] : List va_W))) (wr := (List.flatten ([(oX0 (p0a 0) p0a p0k p0n p0w), (oX1 (p0a 1) p0_0a p0_0k p0_0n p0_0w_34 p0_0l), (oX9 (p0_0a 3) p0_0_2a p0_0_2k p0_0_2n p0_0_2w_99)] : List va_W))) (w1 := (List.flatten ([] : List va_W))) (t1 := (List.flatten ([] : List (List (ClassId × FieldType))))) hPx hDx hKx hk1 hFc b1 (va_K.moved hvm.symm b2) b3
                  have hP : va_P (dC, dI) cls (List.flatten ([(oX0 (p0a 0) p0a p0k p0n p0w), (oX1 (p0a 1) p0_0a p0_0k p0_0n p0_0w_34 p0_0l), (oX9 (p0_0a 3) p0_0_2a p0_0_2k p0_0_2n p0_0_2w_99)] : List va_W)) H := vP_perm (vP_fb hP) (bP (List.Perm.refl _))
                  have hD : va_D A (List.flatten ([(oX0 (p0a 0) p0a p0k p0n p0w), (oX1 (p0a 1) p0_0a p0_0k p0_0n p0_0w_34 p0_0l), (oX9 (p0_0a 3) p0_0_2a p0_0_2k p0_0_2n p0_0_2w_99)] : List va_W)) := vD_perm (vD_fb hD) (bP (List.Perm.refl _))
                  have hK : va_K (dC, dI) cls (List.flatten ([(tX0 p0k), (tX1 p0_0k), (tX9 p0_0_2k)] : List (List (ClassId × FieldType)))) s := vK_perm (vK_fb hK) (bP (List.Perm.refl _))
                  obtain rfl : o_11 = r12 := hw.symm
                  have J131 : ∀ (p0_0_2w_131 : ST) (H : Heap) (locs : List Loc) (ls : Array Slot), (fX0_unite_J131 (fX0_unite_L34 p1 p2 p0_0_2n v4_11 n_34) p0_0_2n v4_11 v6_34 p0_0w_34 p0_0_2w_34 p0_0_2w_131) = some o34 → va_P (dC, dI) cls (List.flatten ([(oX0 (p0a 0) p0a p0k p0n p0w), (oX1 (p0a 1) p0_0a p0_0k p0_0n p0_0w_34 p0_0l), (oX9 (p0_0a 3) p0_0_2a p0_0_2k p0_0_2n p0_0_2w_131)] : List va_W)) H → va_D A (List.flatten ([(oX0 (p0a 0) p0a p0k p0n p0w), (oX1 (p0a 1) p0_0a p0_0k p0_0n p0_0w_34 p0_0l), (oX9 (p0_0a 3) p0_0_2a p0_0_2k p0_0_2n p0_0_2w_131)] : List va_W)) → va_K (dC, dI) cls (List.flatten ([(tX0 p0k), (tX1 p0_0k), (tX9 p0_0_2k)] : List (List (ClassId × FieldType)))) s → va_S A s.heap H locs → lv_has ls 7 [(0, .ref (p0a 0)), (1, .int p1), (2, .int p2), (3, .ref (p0_0a 3)), (4, .int v4_11), (5, .int (p0_0_2w_34 6 (nn v6_34))), (6, .int v6_34)] → W p l e ({ frames := 2, cells := 0, slots := 0, locals := 40 } : Room) s m ([.ref (p0a 0), .int p1, .int p2] : List Value).toArray below meth c H locs 0 0 Q (F0 m 131 ls []) := by
                    intro p0_0_2w_131 H locs ls hrun hP hD hK hS hl 
                    unfold fX0_unite_J131 at hrun
                    refine lv_aload_n hx hb dX0_unite_131 rfl (lv_at hl 3 rfl) ?_
                    refine va_get (D := (dC, dI)) (ci := 3) (v := .ref (p0_0_2a 2)) (C := RX9) (T := TX9) (N := 6) hx hb hts i_X9 hown hK hP 27 rfl rfl 1 (by decide) (hts _ qw630) (fun _ h9 => h9) rfl dX0_unite_132 ?_
                    refine lv_iload hx hb dX0_unite_135 (lv_at hl 6 rfl) ?_
                    obtain ⟨hq13, hrun⟩ := chk9 hrun
                    refine va_iald hx hb hK hP 28 25 rfl rfl (ixb_in hq13) dX0_unite_137 ?_
                    refine lv_bipush (v := 25) hx hb dX0_unite_138 (by decide) ?_
                    have J171 : ∀ (p0_0w_171 : ST) (p0_0_2w_171 : ST) (H : Heap) (locs : List Loc) (ls : Array Slot), (fX0_unite_J171 (fX0_unite_L34 p1 p2 p0_0_2n v4_11 n_34) v6_34 p0_0_2w_34 p0_0w_171 p0_0_2w_171) = some o34 → va_P (dC, dI) cls (List.flatten ([(oX0 (p0a 0) p0a p0k p0n p0w), (oX1 (p0a 1) p0_0a p0_0k p0_0n p0_0w_171 p0_0l), (oX9 (p0_0a 3) p0_0_2a p0_0_2k p0_0_2n p0_0_2w_171)] : List va_W)) H → va_D A (List.flatten ([(oX0 (p0a 0) p0a p0k p0n p0w), (oX1 (p0a 1) p0_0a p0_0k p0_0n p0_0w_171 p0_0l), (oX9 (p0_0a 3) p0_0_2a p0_0_2k p0_0_2n p0_0_2w_171)] : List va_W)) → va_K (dC, dI) cls (List.flatten ([(tX0 p0k), (tX1 p0_0k), (tX9 p0_0_2k)] : List (List (ClassId × FieldType)))) s → va_S A s.heap H locs → lv_has ls 7 [(0, .ref (p0a 0)), (1, .int p1), (2, .int p2), (3, .ref (p0_0a 3)), (4, .int v4_11), (5, .int (p0_0_2w_34 6 (nn v6_34)))] → W p l e ({ frames := 2, cells := 0, slots := 0, locals := 40 } : Room) s m ([.ref (p0a 0), .int p1, .int p2] : List Value).toArray below meth c H locs 0 0 Q (F0 m 171 ls []) := by
                      intro p0_0w_171 p0_0_2w_171 H locs ls hrun hP hD hK hS hl 
                      unfold fX0_unite_J171 at hrun
                      refine lv_iload hx hb dX0_unite_171 (lv_at hl 5 rfl) ?_
                      refine lv_istore (lv' := [(6, .int (p0_0_2w_34 6 (nn v6_34))), (0, .ref (p0a 0)), (1, .int p1), (2, .int p2), (3, .ref (p0_0a 3)), (4, .int v4_11), (5, .int (p0_0_2w_34 6 (nn v6_34)))]) hx hb dX0_unite_173 hl (by decide) rfl (fun ls hl => ?_)
                      refine lv_goto (tgt := 34) hx hb dX0_unite_175 (by decide) ?_
                      exact IH34 (p0_0_2w_34 6 (nn v6_34)) p0_0w_171 p0_0_2w_171 o34 _ _ _ hrun hP hD hK hS (lv_sub hl [1, 2, 3, 4, 5, 0] rfl) hk34
                    have J160 : ∀ (H : Heap) (locs : List Loc) (ls : Array Slot), (fX0_unite_J160 (fX0_unite_L34 p1 p2 p0_0_2n v4_11 n_34) p0_0_2n v4_11 v6_34 p0_0w_34 p0_0_2w_34 p0_0_2w_131) = some o34 → va_P (dC, dI) cls (List.flatten ([(oX0 (p0a 0) p0a p0k p0n p0w), (oX1 (p0a 1) p0_0a p0_0k p0_0n p0_0w_34 p0_0l), (oX9 (p0_0a 3) p0_0_2a p0_0_2k p0_0_2n p0_0_2w_131)] : List va_W)) H → va_D A (List.flatten ([(oX0 (p0a 0) p0a p0k p0n p0w), (oX1 (p0a 1) p0_0a p0_0k p0_0n p0_0w_34 p0_0l), (oX9 (p0_0a 3) p0_0_2a p0_0_2k p0_0_2n p0_0_2w_131)] : List va_W)) → va_K (dC, dI) cls (List.flatten ([(tX0 p0k), (tX1 p0_0k), (tX9 p0_0_2k)] : List (List (ClassId × FieldType)))) s → va_S A s.heap H locs → lv_has ls 7 [(0, .ref (p0a 0)), (1, .int p1), (2, .int p2), (3, .ref (p0_0a 3)), (4, .int v4_11), (5, .int (p0_0_2w_34 6 (nn v6_34))), (6, .int v6_34)] → W p l e ({ frames := 2, cells := 0, slots := 0, locals := 40 } : Room) s m ([.ref (p0a 0), .int p1, .int p2] : List Value).toArray below meth c H locs 0 0 Q (F0 m 160 ls []) := by
                      intro  H locs ls hrun hP hD hK hS hl 
                      unfold fX0_unite_J160 at hrun
                      refine lv_aload_n hx hb dX0_unite_160 rfl (lv_at hl 0 rfl) ?_
                      refine va_get (D := (dC, dI)) (ci := 8) (v := .ref (p0a 1)) (C := RX0) (T := TX0) (N := 17) hx hb hts i_X0 hown hK hP 0 rfl rfl 0 (by decide) (hts _ qw618) (fun _ h9 => h9) rfl dX0_unite_161 ?_
                      refine lv_iload hx hb dX0_unite_164 (lv_at hl 4 rfl) ?_
                      refine lv_iload hx hb dX0_unite_166 (lv_at hl 6 rfl) ?_
                      obtain ⟨o_14, hc_14, hrun⟩ := bnd9 hrun
                      have hPx : va_P (dC, dI) cls ((List.flatten ([(oX1 (p0a 1) p0_0a p0_0k p0_0n p0_0w_34 p0_0l), (oX9 (p0_0a 3) p0_0_2a p0_0_2k p0_0_2n p0_0_2w_131)] : List va_W)) ++ (List.flatten ([(oX0 (p0a 0) p0a p0k p0n p0w)] : List va_W))) H := vP_fa (vP_perm hP (bP ((((((List.Perm.refl _)).cons _).trans (List.Perm.swap _ _ _))).trans ((((((List.Perm.refl _)).cons _).trans (List.Perm.swap _ _ _))).cons _))))
                      have hDx : va_D A ((List.flatten ([(oX1 (p0a 1) p0_0a p0_0k p0_0n p0_0w_34 p0_0l), (oX9 (p0_0a 3) p0_0_2a p0_0_2k p0_0_2n p0_0_2w_131)] : List va_W)) ++ (List.flatten ([(oX0 (p0a 0) p0a p0k p0n p0w)] : List va_W))) := vD_fa (vD_perm hD (bP ((((((List.Perm.refl _)).cons _).trans (List.Perm.swap _ _ _))).trans ((((((List.Perm.refl _)).cons _).trans (List.Perm.swap _ _ _))).cons _))))
                      have hKx : va_K (dC, dI) cls ((List.flatten ([(tX1 p0_0k), (tX9 p0_0_2k)] : List (List (ClassId × FieldType)))) ++ (List.flatten ([(tX0 p0k)] : List (List (ClassId × FieldType))))) s := vK_fa (vK_perm hK (bP ((((((List.Perm.refl _)).cons _).trans (List.Perm.swap _ _ _))).trans ((((((List.Perm.refl _)).cons _).trans (List.Perm.swap _ _ _))).cons _))))
                      have hPc := vP_l hPx
                      have hDc := vD_l hDx
                      have hKc := vK_l hKx
                      have hFc := vfree hDx hS hA
                      refine va_callv (va_runV (As := [.int v4_11, .int v6_34]) (rest := []) ⟨hx, hb, hml, hown, hts⟩ (kX1_link l dC dI (p0a := (st0 (p0a 1) p0_0a)) (p0k := p0_0k) (p0n := p0_0n) (p0w := p0_0w_34) (p0l := p0_0l) (p1 := v4_11) (p2 := v6_34) (p0_2a := p0_0_2a) (p0_2k := p0_0_2k) (p0_2n := p0_0_2n) (p0_2w := p0_0_2w_131) (sz := _) (o := o_14) (hrun := hc_14)) (cwV 2 hts (gi_V qw800 qw141 qw142 qw126 (gi_z qw139)) rfl rfl rfl (by decide +kernel) ⟨Nat.le_of_ble_eq_true rfl, Nat.le_of_ble_eq_true rfl⟩) ⟨PRE.blind, va_recv hKc hPc (ci := 4) (q0 := 0) rfl rfl, PRE.of hE hS hFc hPc hKc hDc⟩ rfl rfl hl.1 rfl (lv_room (Nat.le_of_ble_eq_true rfl)) dX0_unite_168 ⟨(Nat.le_of_ble_eq_true rfl), (Nat.le_of_ble_eq_true rfl)⟩) hS (fun q _ h => hFc q h) hFc (fun u t H locs ht hvm hw hB hz1 hk1 hS => ?_)
                      obtain ⟨b1, b2, b3⟩ := hB
                      rw [ht] at b1
                      obtain ⟨hP, hD, hK⟩ := JOINC (wc := (List.flatten ([(oX1 (p0a 1) p0_0a p0_0k p0_0n p0_0w_34 p0_0l), (oX9 (p0_0a 3) p0_0_2a p0_0_2k p0_0_2n p0_0_2w_131)] : List va_W))) (wr := (List.flatten ([(oX0 (p0a 0) p0a p0k p0n p0w)] : List va_W))) (w1 := (List.flatten ([(oX1 (p0a 1) p0_0a p0_0k p0_0n (o_14.1) p0_0l), (oX9 (p0_0a 3) p0_0_2a p0_0_2k p0_0_2n (o_14.2))] : List va_W))) (t1 := (List.flatten ([(tX1 p0_0k), (tX9 p0_0_2k)] : List (List (ClassId × FieldType))))) hPx hDx hKx hk1 hFc b1 (va_K.moved hvm.symm b2) b3
                      have hP : va_P (dC, dI) cls (List.flatten ([(oX0 (p0a 0) p0a p0k p0n p0w), (oX1 (p0a 1) p0_0a p0_0k p0_0n (o_14.1) p0_0l), (oX9 (p0_0a 3) p0_0_2a p0_0_2k p0_0_2n (o_14.2))] : List va_W)) H := vP_perm (vP_fb hP) (bP (((((((List.Perm.refl _)).cons _).trans (List.Perm.swap _ _ _))).cons _).trans (List.Perm.swap _ _ _)))
                      have hD : va_D A (List.flatten ([(oX0 (p0a 0) p0a p0k p0n p0w), (oX1 (p0a 1) p0_0a p0_0k p0_0n (o_14.1) p0_0l), (oX9 (p0_0a 3) p0_0_2a p0_0_2k p0_0_2n (o_14.2))] : List va_W)) := vD_perm (vD_fb hD) (bP (((((((List.Perm.refl _)).cons _).trans (List.Perm.swap _ _ _))).cons _).trans (List.Perm.swap _ _ _)))
                      have hK : va_K (dC, dI) cls (List.flatten ([(tX0 p0k), (tX1 p0_0k), (tX9 p0_0_2k)] : List (List (ClassId × FieldType)))) s := vK_perm (vK_fb hK) (bP (((((((List.Perm.refl _)).cons _).trans (List.Perm.swap _ _ _))).cons _).trans (List.Perm.swap _ _ _)))
                      exact J171 (o_14.1) (o_14.2) _ _ _ hrun hP hD hK hS (lv_sub hl [0, 1, 2, 3, 4, 5] rfl)
                    rcases br9 hrun with ⟨hc15, hrun⟩ | ⟨hc15, hrun⟩
                    · refine lv_icmp_ne (tgt := 160) hx hb dX0_unite_140 (by decide) (fun c => absurd hc15 c) (fun _ => ?_)
                      refine lv_aload_n hx hb dX0_unite_143 rfl (lv_at hl 3 rfl) ?_
                      refine va_get (D := (dC, dI)) (ci := 3) (v := .ref (p0_0_2a 3)) (C := RX9) (T := TX9) (N := 6) hx hb hts i_X9 hown hK hP 27 rfl rfl 2 (by decide) (hts _ qw636) (fun _ h9 => h9) rfl dX0_unite_144 ?_
                      refine lv_iload hx hb dX0_unite_147 (lv_at hl 6 rfl) ?_
                      obtain ⟨hq16, hrun⟩ := chk9 hrun
                      refine va_iald hx hb hK hP 29 26 rfl rfl (ixb_in hq16) dX0_unite_149 ?_
                      refine lv_aload_n hx hb dX0_unite_150 rfl (lv_at hl 3 rfl) ?_
                      refine va_get (D := (dC, dI)) (ci := 3) (v := .ref (p0_0_2a 4)) (C := RX9) (T := TX9) (N := 6) hx hb hts i_X9 hown hK hP 27 rfl rfl 3 (by decide) (hts _ qw631) (fun _ h9 => h9) rfl dX0_unite_151 ?_
                      refine lv_iload hx hb dX0_unite_154 (lv_at hl 6 rfl) ?_
                      obtain ⟨hq17, hrun⟩ := chk9 hrun
                      refine va_iald hx hb hK hP 30 27 rfl rfl (ixb_in hq17) dX0_unite_156 ?_
                      rcases br9 hrun with ⟨hc18, hrun⟩ | ⟨hc18, hrun⟩
                      · refine lv_icmp_eq (tgt := 171) hx hb dX0_unite_157 (by decide) (fun _ => ?_) (fun c => absurd hc18 c)
                        exact J171 p0_0w_34 p0_0_2w_131 _ _ _ hrun hP hD hK hS (lv_sub hl [0, 1, 2, 3, 4, 5] rfl)
                      · refine lv_icmp_eq (tgt := 171) hx hb dX0_unite_157 (by decide) (fun c => absurd c hc18) (fun _ => ?_)
                        exact J160 _ _ _ hrun hP hD hK hS (lv_sub hl [0, 1, 2, 3, 4, 5, 6] rfl)
                    · refine lv_icmp_ne (tgt := 160) hx hb dX0_unite_140 (by decide) (fun _ => ?_) (fun c => absurd c hc15)
                      exact J160 _ _ _ hrun hP hD hK hS (lv_sub hl [0, 1, 2, 3, 4, 5, 6] rfl)
                  rcases br9 hrun with ⟨hc19, hrun⟩ | ⟨hc19, hrun⟩
                  · refine lv_if_eq (tgt := 131) hx hb dX0_unite_109 (by decide) (fun _ => ?_) (fun c => absurd hc19 c)
                    exact J131 p0_0_2w_99 _ _ _ hrun hP hD hK hS (lv_sub hl [0, 1, 2, 3, 4, 5, 6] rfl)
                  · refine lv_if_eq (tgt := 131) hx hb dX0_unite_109 (by decide) (fun c => absurd c hc19) (fun _ => ?_)
                    refine lv_aload_n hx hb dX0_unite_112 rfl (lv_at hl 3 rfl) ?_
                    refine va_get (D := (dC, dI)) (ci := 3) (v := .ref (p0_0_2a 5)) (C := RX9) (T := TX9) (N := 6) hx hb hts i_X9 hown hK hP 27 rfl rfl 4 (by decide) (hts _ qw801) (fun _ h9 => h9) rfl dX0_unite_113 ?_
                    refine lv_iload hx hb dX0_unite_116 (lv_at hl 6 rfl) ?_
                    obtain ⟨hq20, hrun⟩ := chk9 hrun
                    refine va_iald hx hb hK hP 31 28 rfl rfl (ixb_in hq20) dX0_unite_118 ?_
                    refine lv_iload_n hx hb dX0_unite_119 rfl (lv_at hl 2 rfl) ?_
                    rcases br9 hrun with ⟨hc21, hrun⟩ | ⟨hc21, hrun⟩
                    · refine lv_icmp_ne (tgt := 131) hx hb dX0_unite_120 (by decide) (fun c => absurd hc21 c) (fun _ => ?_)
                      refine lv_aload_n hx hb dX0_unite_123 rfl (lv_at hl 3 rfl) ?_
                      refine va_get (D := (dC, dI)) (ci := 3) (v := .ref (p0_0_2a 5)) (C := RX9) (T := TX9) (N := 6) hx hb hts i_X9 hown hK hP 27 rfl rfl 4 (by decide) (hts _ qw801) (fun _ h9 => h9) rfl dX0_unite_124 ?_
                      refine lv_iload hx hb dX0_unite_127 (lv_at hl 6 rfl) ?_
                      refine lv_iload_n hx hb dX0_unite_129 rfl (lv_at hl 1 rfl) ?_
                      obtain ⟨hq22, hrun⟩ := chk9 hrun
                      refine va_iast hx hb hK hP hD hS 31 28 rfl rfl (ixb_in hq22) dX0_unite_130 (fun H locs hP hD hS => ?_)
                      have hP : va_P (dC, dI) cls (List.flatten ([(oX0 (p0a 0) p0a p0k p0n p0w), (oX1 (p0a 1) p0_0a p0_0k p0_0n p0_0w_34 p0_0l), (oX9 (p0_0a 3) p0_0_2a p0_0_2k p0_0_2n (upw p0_0_2w_99 5 (nn v6_34) p1))] : List va_W)) H := hP
                      have hD : va_D A (List.flatten ([(oX0 (p0a 0) p0a p0k p0n p0w), (oX1 (p0a 1) p0_0a p0_0k p0_0n p0_0w_34 p0_0l), (oX9 (p0_0a 3) p0_0_2a p0_0_2k p0_0_2n (upw p0_0_2w_99 5 (nn v6_34) p1))] : List va_W)) := hD
                      obtain ⟨w23, ew23, hrun⟩ := let9 hrun
                      rw [← ew23] at hP hD
                      exact J131 w23 _ _ _ hrun hP hD hK hS (lv_sub hl [0, 1, 2, 3, 4, 5, 6] rfl)
                    · refine lv_icmp_ne (tgt := 131) hx hb dX0_unite_120 (by decide) (fun _ => ?_) (fun c => absurd c hc21)
                      exact J131 p0_0_2w_99 _ _ _ hrun hP hD hK hS (lv_sub hl [0, 1, 2, 3, 4, 5, 6] rfl)
                rcases br9 hrun with ⟨hc24, hrun⟩ | ⟨hc24, hrun⟩
                · refine lv_if_eq (tgt := 99) hx hb dX0_unite_77 (by decide) (fun _ => ?_) (fun c => absurd hc24 c)
                  exact J99 p0_0_2w_67 _ _ _ hrun hP hD hK hS (lv_sub hl [0, 1, 2, 3, 4, 5, 6] rfl)
                · refine lv_if_eq (tgt := 99) hx hb dX0_unite_77 (by decide) (fun c => absurd c hc24) (fun _ => ?_)
                  refine lv_aload_n hx hb dX0_unite_80 rfl (lv_at hl 3 rfl) ?_
                  refine va_get (D := (dC, dI)) (ci := 3) (v := .ref (p0_0_2a 4)) (C := RX9) (T := TX9) (N := 6) hx hb hts i_X9 hown hK hP 27 rfl rfl 3 (by decide) (hts _ qw631) (fun _ h9 => h9) rfl dX0_unite_81 ?_
                  refine lv_iload hx hb dX0_unite_84 (lv_at hl 6 rfl) ?_
                  obtain ⟨hq25, hrun⟩ := chk9 hrun
                  refine va_iald hx hb hK hP 30 27 rfl rfl (ixb_in hq25) dX0_unite_86 ?_
                  refine lv_iload_n hx hb dX0_unite_87 rfl (lv_at hl 2 rfl) ?_
                  rcases br9 hrun with ⟨hc26, hrun⟩ | ⟨hc26, hrun⟩
                  · refine lv_icmp_ne (tgt := 99) hx hb dX0_unite_88 (by decide) (fun c => absurd hc26 c) (fun _ => ?_)
                    refine lv_aload_n hx hb dX0_unite_91 rfl (lv_at hl 3 rfl) ?_
                    refine va_get (D := (dC, dI)) (ci := 3) (v := .ref (p0_0_2a 4)) (C := RX9) (T := TX9) (N := 6) hx hb hts i_X9 hown hK hP 27 rfl rfl 3 (by decide) (hts _ qw631) (fun _ h9 => h9) rfl dX0_unite_92 ?_
                    refine lv_iload hx hb dX0_unite_95 (lv_at hl 6 rfl) ?_
                    refine lv_iload_n hx hb dX0_unite_97 rfl (lv_at hl 1 rfl) ?_
                    obtain ⟨hq27, hrun⟩ := chk9 hrun
                    refine va_iast hx hb hK hP hD hS 30 27 rfl rfl (ixb_in hq27) dX0_unite_98 (fun H locs hP hD hS => ?_)
                    have hP : va_P (dC, dI) cls (List.flatten ([(oX0 (p0a 0) p0a p0k p0n p0w), (oX1 (p0a 1) p0_0a p0_0k p0_0n p0_0w_34 p0_0l), (oX9 (p0_0a 3) p0_0_2a p0_0_2k p0_0_2n (upw p0_0_2w_67 4 (nn v6_34) p1))] : List va_W)) H := hP
                    have hD : va_D A (List.flatten ([(oX0 (p0a 0) p0a p0k p0n p0w), (oX1 (p0a 1) p0_0a p0_0k p0_0n p0_0w_34 p0_0l), (oX9 (p0_0a 3) p0_0_2a p0_0_2k p0_0_2n (upw p0_0_2w_67 4 (nn v6_34) p1))] : List va_W)) := hD
                    obtain ⟨w28, ew28, hrun⟩ := let9 hrun
                    rw [← ew28] at hP hD
                    exact J99 w28 _ _ _ hrun hP hD hK hS (lv_sub hl [0, 1, 2, 3, 4, 5, 6] rfl)
                  · refine lv_icmp_ne (tgt := 99) hx hb dX0_unite_88 (by decide) (fun _ => ?_) (fun c => absurd c hc26)
                    exact J99 p0_0_2w_67 _ _ _ hrun hP hD hK hS (lv_sub hl [0, 1, 2, 3, 4, 5, 6] rfl)
              rcases br9 hrun with ⟨hc29, hrun⟩ | ⟨hc29, hrun⟩
              · refine lv_icmp_ne (tgt := 67) hx hb dX0_unite_56 (by decide) (fun c => absurd hc29 c) (fun _ => ?_)
                refine lv_aload_n hx hb dX0_unite_59 rfl (lv_at hl 4 rfl) ?_
                refine va_get (D := (dC, dI)) (ci := 3) (v := .ref (p0_0_2a 3)) (C := RX9) (T := TX9) (N := 6) hx hb hts i_X9 hown hK hP 27 rfl rfl 2 (by decide) (hts _ qw636) (fun _ h9 => h9) rfl dX0_unite_60 ?_
                refine lv_iload hx hb dX0_unite_63 (lv_at hl 6 rfl) ?_
                refine lv_iload_n hx hb dX0_unite_65 rfl (lv_at hl 2 rfl) ?_
                obtain ⟨hq30, hrun⟩ := chk9 hrun
                refine va_iast hx hb hK hP hD hS 29 26 rfl rfl (ixb_in hq30) dX0_unite_66 (fun H locs hP hD hS => ?_)
                have hP : va_P (dC, dI) cls (List.flatten ([(oX0 (p0a 0) p0a p0k p0n p0w), (oX1 (p0a 1) p0_0a p0_0k p0_0n p0_0w_34 p0_0l), (oX9 (p0_0a 3) p0_0_2a p0_0_2k p0_0_2n (upw p0_0_2w_34 3 (nn v6_34) p1))] : List va_W)) H := hP
                have hD : va_D A (List.flatten ([(oX0 (p0a 0) p0a p0k p0n p0w), (oX1 (p0a 1) p0_0a p0_0k p0_0n p0_0w_34 p0_0l), (oX9 (p0_0a 3) p0_0_2a p0_0_2k p0_0_2n (upw p0_0_2w_34 3 (nn v6_34) p1))] : List va_W)) := hD
                obtain ⟨w31, ew31, hrun⟩ := let9 hrun
                rw [← ew31] at hP hD
                exact J67 w31 _ _ _ hrun hP hD hK hS (lv_sub hl [1, 2, 3, 4, 5, 0, 6] rfl)
              · refine lv_icmp_ne (tgt := 67) hx hb dX0_unite_56 (by decide) (fun _ => ?_) (fun c => absurd c hc29)
                exact J67 p0_0_2w_34 _ _ _ hrun hP hD hK hS (lv_sub hl [1, 2, 3, 4, 5, 0, 6] rfl)
        obtain ⟨o34, hc34, hrun⟩ := bnd9 hrun
        refine L34 NF (o_2.1) (o_2.2) p0_0_2w_11 o34 _ _ _ hc34 hP hD hK hS (lv_sub hl [1, 2, 3, 4, 5, 0] rfl) ?_
        intro H locs ls hP hD hK hS hl
        have hl := hl
        refine lv_aload_n hx hb dX0_unite_178 rfl (lv_at hl 0 rfl) ?_
        refine va_get (D := (dC, dI)) (ci := 8) (v := .ref (p0a 1)) (C := RX0) (T := TX0) (N := 17) hx hb hts i_X0 hown hK hP 0 rfl rfl 0 (by decide) (hts _ qw618) (fun _ h9 => h9) rfl dX0_unite_179 ?_
        refine va_get (D := (dC, dI)) (ci := 4) (v := .ref (p0_0a 9)) (C := RX1) (T := TX1) (N := 21) hx hb hts i_X1 hown hK hP 9 rfl rfl 8 (by decide) (hts _ qw802) (fun _ h9 => h9) rfl dX0_unite_182 ?_
        refine lv_iload hx hb dX0_unite_185 (lv_at hl 4 rfl) ?_
        obtain ⟨hq32, hrun⟩ := chk9 hrun
        refine va_iald hx hb hK hP 15 13 rfl rfl (ixb_in hq32) dX0_unite_187 ?_
        refine lv_iload_n hx hb dX0_unite_188 rfl (lv_at hl 2 rfl) ?_
        have J203 : ∀ (p0_0w_203 : ST) (H : Heap) (locs : List Loc) (ls : Array Slot), (fX0_unite_J203 (fX0_unite_L11 p1 p2 p0_0_2n n_11) v4_11 o34 p0_0w_203) = some o11 → va_P (dC, dI) cls (List.flatten ([(oX0 (p0a 0) p0a p0k p0n p0w), (oX1 (p0a 1) p0_0a p0_0k p0_0n p0_0w_203 p0_0l), (oX9 (p0_0a 3) p0_0_2a p0_0_2k p0_0_2n (o34.2))] : List va_W)) H → va_D A (List.flatten ([(oX0 (p0a 0) p0a p0k p0n p0w), (oX1 (p0a 1) p0_0a p0_0k p0_0n p0_0w_203 p0_0l), (oX9 (p0_0a 3) p0_0_2a p0_0_2k p0_0_2n (o34.2))] : List va_W)) → va_K (dC, dI) cls (List.flatten ([(tX0 p0k), (tX1 p0_0k), (tX9 p0_0_2k)] : List (List (ClassId × FieldType)))) s → va_S A s.heap H locs → lv_has ls 7 [(0, .ref (p0a 0)), (1, .int p1), (2, .int p2), (3, .ref (p0_0a 3)), (4, .int v4_11)] → W p l e ({ frames := 2, cells := 0, slots := 0, locals := 40 } : Room) s m ([.ref (p0a 0), .int p1, .int p2] : List Value).toArray below meth c H locs 0 0 Q (F0 m 203 ls []) := by
          intro p0_0w_203 H locs ls hrun hP hD hK hS hl 
          unfold fX0_unite_J203 at hrun
          refine lv_iinc (v := (v4_11 + 1)) (lv' := [(4, .int (v4_11 + 1)), (0, .ref (p0a 0)), (1, .int p1), (2, .int p2), (3, .ref (p0_0a 3))]) hx hb dX0_unite_203 hl (k := 4) rfl rfl (by decide) rfl (fun ls hl => ?_)
          refine lv_goto (tgt := 11) hx hb dX0_unite_206 (by decide) ?_
          exact IH11 (v4_11 + 1) p0_0w_203 (o34.2) o11 _ _ _ hrun hP hD hK hS (lv_sub hl [1, 2, 3, 4, 0] rfl) hk11
        rcases br9 hrun with ⟨hc33, hrun⟩ | ⟨hc33, hrun⟩
        · refine lv_icmp_ne (tgt := 203) hx hb dX0_unite_189 (by decide) (fun c => absurd hc33 c) (fun _ => ?_)
          refine lv_aload_n hx hb dX0_unite_192 rfl (lv_at hl 0 rfl) ?_
          refine va_get (D := (dC, dI)) (ci := 8) (v := .ref (p0a 1)) (C := RX0) (T := TX0) (N := 17) hx hb hts i_X0 hown hK hP 0 rfl rfl 0 (by decide) (hts _ qw618) (fun _ h9 => h9) rfl dX0_unite_193 ?_
          refine va_get (D := (dC, dI)) (ci := 4) (v := .ref (p0_0a 9)) (C := RX1) (T := TX1) (N := 21) hx hb hts i_X1 hown hK hP 9 rfl rfl 8 (by decide) (hts _ qw802) (fun _ h9 => h9) rfl dX0_unite_196 ?_
          refine lv_iload hx hb dX0_unite_199 (lv_at hl 4 rfl) ?_
          refine lv_iload_n hx hb dX0_unite_201 rfl (lv_at hl 1 rfl) ?_
          obtain ⟨hq34, hrun⟩ := chk9 hrun
          refine va_iast hx hb hK hP hD hS 15 13 rfl rfl (ixb_in hq34) dX0_unite_202 (fun H locs hP hD hS => ?_)
          have hP : va_P (dC, dI) cls (List.flatten ([(oX0 (p0a 0) p0a p0k p0n p0w), (oX1 (p0a 1) p0_0a p0_0k p0_0n (upw (o34.1) 9 (nn v4_11) p1) p0_0l), (oX9 (p0_0a 3) p0_0_2a p0_0_2k p0_0_2n (o34.2))] : List va_W)) H := hP
          have hD : va_D A (List.flatten ([(oX0 (p0a 0) p0a p0k p0n p0w), (oX1 (p0a 1) p0_0a p0_0k p0_0n (upw (o34.1) 9 (nn v4_11) p1) p0_0l), (oX9 (p0_0a 3) p0_0_2a p0_0_2k p0_0_2n (o34.2))] : List va_W)) := hD
          obtain ⟨w35, ew35, hrun⟩ := let9 hrun
          rw [← ew35] at hP hD
          exact J203 w35 _ _ _ hrun hP hD hK hS (lv_sub hl [0, 1, 2, 3, 4] rfl)
        · refine lv_icmp_ne (tgt := 203) hx hb dX0_unite_189 (by decide) (fun _ => ?_) (fun c => absurd c hc33)
          exact J203 (o34.1) _ _ _ hrun hP hD hK hS (lv_sub hl [0, 1, 2, 3, 4] rfl)
  obtain ⟨o11, hc11, hrun⟩ := bnd9 hrun
  refine L11 NF 0 p0_0w p0_0_2w o11 _ _ _ hc11 hP hD hK hS (lv_sub hl [2, 3, 4, 1, 0] rfl) ?_
  intro H locs ls hP hD hK hS hl
  have hl := hl
  have ho9 : ((o11.1), (o11.2)) = o := Option.some.inj hrun
  have hP9 : va_P (dC, dI) cls (List.flatten ([(oX0 (p0a 0) p0a p0k p0n p0w), (oX1 (p0a 1) p0_0a p0_0k p0_0n (o.1) p0_0l), (oX9 (p0_0a 3) p0_0_2a p0_0_2k p0_0_2n (o.2))] : List va_W)) H := by first | exact hP | (rw [← ho9]; exact hP)
  have hD9 : va_D A (List.flatten ([(oX0 (p0a 0) p0a p0k p0n p0w), (oX1 (p0a 1) p0_0a p0_0k p0_0n (o.1) p0_0l), (oX9 (p0_0a 3) p0_0_2a p0_0_2k p0_0_2n (o.2))] : List va_W)) := by first | exact hD | (rw [← ho9]; exact hD)
  subst hQ
  exact W.vret hx hb hr (fun t ht hW => ⟨⟨(), rfl, trivial, ⟨by rw [ht]; exact hP9, va_K.moved hW.alike hK, hD9⟩⟩, hS.F ht⟩) hS.2.2 dX0_unite_209
def fX0_uniteFirst_J106 (kk23 : Int32 → Option (Sum (Int32 × ST × ST) Unit)) (p0_0_2n : Nat → Nat) (p0_0_2w : ST) (v2_23 : Int32) : Option (Sum (Int32 × ST × ST) Unit) := (if ixb v2_23 (p0_0_2n 6) = true then (kk23 (p0_0_2w 6 (nn v2_23))) else none)
def fX0_uniteFirst_L23 (p0w : ST) (p0_0w : ST) (p0_0_2n : Nat → Nat) (p0_0_2w : ST) (p0_6n : Nat → Nat) (p0_6w : ST) (p0_6l : SL) : Nat → Int32 → Option (Sum (Int32 × ST × ST) Unit)
  | 0 => fun _ => none
  | n_23 + 1 => fun v2_23 => (if v2_23 < 0 then some (Sum.inr ()) else (if ixb v2_23 (p0_0_2n 2) = true then (if (p0_0_2w 2 (nn v2_23)) = 25 then (if ixb v2_23 (p0_0_2n 3) = true then (if ixb v2_23 (p0_0_2n 4) = true then ((fX2_mayUnite p0_6n p0_6w p0_6l (p0_0_2w 3 (nn v2_23)) (p0_0_2w 4 (nn v2_23)) (p0w 0 7)).bind fun (o_9 : Int32) => (if o_9 = 0 then (fX0_uniteFirst_J106 (fX0_uniteFirst_L23 p0w p0_0w p0_0_2n p0_0_2w p0_6n p0_6w p0_6l n_23) p0_0_2n p0_0_2w v2_23) else ((fX0_unite (if (p0_0_2w 4 (nn v2_23)) < (p0_0_2w 3 (nn v2_23)) then (p0_0_2w 4 (nn v2_23)) else (p0_0_2w 3 (nn v2_23))) (if (p0_0_2w 3 (nn v2_23)) < (p0_0_2w 4 (nn v2_23)) then (p0_0_2w 4 (nn v2_23)) else (p0_0_2w 3 (nn v2_23))) p0_0w p0_0_2n p0_0_2w).bind fun (o_12 : ST × ST) => some (Sum.inl (1, (o_12.1), (o_12.2)))))) else none) else none) else (fX0_uniteFirst_J106 (fX0_uniteFirst_L23 p0w p0_0w p0_0_2n p0_0_2w p0_6n p0_6w p0_6l n_23) p0_0_2n p0_0_2w v2_23)) else none))
def fX0_uniteFirst_L2 (p0w : ST) (p0_0w : ST) (p0_0_2n : Nat → Nat) (p0_0_2w : ST) (p0_6n : Nat → Nat) (p0_6w : ST) (p0_6l : SL) : Nat → Int32 → Option (Sum (Int32 × ST × ST) Unit)
  | 0 => fun _ => none
  | n_2 + 1 => fun v1_2 => (if (p0_0w 0 0) ≤ v1_2 then some (Sum.inr ()) else (if ixb v1_2 60 = true then ((fX0_uniteFirst_L23 p0w p0_0w p0_0_2n p0_0_2w p0_6n p0_6w p0_6l NF (p0_0w 4 (nn v1_2))).bind fun (o23 : (Sum (Int32 × ST × ST) Unit)) => Sum.elim (fun r => some (Sum.inl r)) (fun (t23 : Unit) => ((fX0_uniteFirst_L2 p0w p0_0w p0_0_2n p0_0_2w p0_6n p0_6w p0_6l n_2) (v1_2 + 1))) o23) else none))
def fX0_uniteFirst (p0w : ST) (p0_0w : ST) (p0_0_2n : Nat → Nat) (p0_0_2w : ST) (p0_6n : Nat → Nat) (p0_6w : ST) (p0_6l : SL) : Option (Int32 × ST × ST) := ((fX0_uniteFirst_L2 p0w p0_0w p0_0_2n p0_0_2w p0_6n p0_6w p0_6l NF 0).bind fun (o2 : (Sum (Int32 × ST × ST) Unit)) => Sum.elim (fun r => some r) (fun (t2 : Unit) => some (0, p0_0w, p0_0_2w)) o2)
set_option maxHeartbeats 16000000 in
set_option maxRecDepth 100000 in
theorem kX0_uniteFirst {zs : ZS} (l : Launch) (dC : Nat → ClassId) (dI : Nat → Nat → Nat) (p0a : Nat → Nat) (p0k : Nat → ClassId) (p0n : Nat → Nat) (p0w : ST) (p0_0a : Nat → Nat) (p0_0k : Nat → ClassId) (p0_0n : Nat → Nat) (p0_0w : ST) (p0_0l : SL) (p0_0_2a : Nat → Nat) (p0_0_2k : Nat → ClassId) (p0_0_2n : Nat → Nat) (p0_0_2w : ST) (p0_6a : Nat → Nat) (p0_6k : Nat → ClassId) (p0_6n : Nat → Nat) (p0_6w : ST) (p0_6l : SL) (sz : Nat) (o : Int32 × ST × ST) (hrun : fX0_uniteFirst p0w p0_0w p0_0_2n p0_0_2w p0_6n p0_6w p0_6l = some o) : Met l yX0_uniteFirst (wz yX0_uniteFirst cX0_uniteFirst 5 (Option.some Jvm.ClassFile.FieldType.boolean)) ({ frames := 3, cells := 0, slots := 0, locals := 72 } : Room) (va_Pc [.ref (p0a 0)] (PRE zs dC dI (List.flatten ([(oX0 (p0a 0) p0a p0k p0n p0w), (oX1 (p0a 1) p0_0a p0_0k p0_0n p0_0w p0_0l), (oX9 (p0_0a 3) p0_0_2a p0_0_2k p0_0_2n p0_0_2w), (oX2 (p0a 7) p0_6a p0_6k p0_6n p0_6w p0_6l)] : List va_W)) (List.flatten ([(tX0 p0k), (tX1 p0_0k), (tX9 p0_0_2k), (tX2 p0_6k)] : List (List (ClassId × FieldType)))) sz)) (va_Qi (fun (r : Int32) (_ : Unit) => r = (o.1)) (fun _ t => POST dC dI (List.flatten ([(oX0 (p0a 0) p0a p0k p0n p0w), (oX1 (p0a 1) p0_0a p0_0k p0_0n (o.2.1) p0_0l), (oX9 (p0_0a 3) p0_0_2a p0_0_2k p0_0_2n (o.2.2)), (oX2 (p0a 7) p0_6a p0_6k p0_6n p0_6w p0_6l)] : List va_W)) (List.flatten ([(tX0 p0k), (tX1 p0_0k), (tX9 p0_0_2k), (tX2 p0_6k)] : List (List (ClassId × FieldType)))) (va_A (List.flatten ([(oX0 (p0a 0) p0a p0k p0n p0w), (oX1 (p0a 1) p0_0a p0_0k p0_0n p0_0w p0_0l), (oX9 (p0_0a 3) p0_0_2a p0_0_2k p0_0_2n p0_0_2w), (oX2 (p0a 7) p0_6a p0_6k p0_6n p0_6w p0_6l)] : List va_W)) sz) t) (va_A (List.flatten ([(oX0 (p0a 0) p0a p0k p0n p0w), (oX1 (p0a 1) p0_0a p0_0k p0_0n p0_0w p0_0l), (oX9 (p0_0a 3) p0_0_2a p0_0_2k p0_0_2n p0_0_2w), (oX2 (p0a 7) p0_6a p0_6k p0_6n p0_6w p0_6l)] : List va_W)) sz)) 0 0 (va_A (List.flatten ([(oX0 (p0a 0) p0a p0k p0n p0w), (oX1 (p0a 1) p0_0a p0_0k p0_0n p0_0w p0_0l), (oX9 (p0_0a 3) p0_0_2a p0_0_2k p0_0_2n p0_0_2w), (oX2 (p0a 7) p0_6a p0_6k p0_6n p0_6w p0_6l)] : List va_W)) sz) := by
  refine Met.ofW (cc := cX0_uniteFirst) (maxL := 5) (ret := (Option.some Jvm.ClassFile.FieldType.boolean)) (by decide) rfl ?_
  intro p e s m args below meth c s₁ B hml hv
  obtain ⟨rfl, hsz, hP, hK, hD0, hE⟩ := hv
  have hx := B.exec
  have hb := B.bytes
  have hr := B.returns
  have hts0 := atoms_spec (ws := wz yX0_uniteFirst cX0_uniteFirst 5 (Option.some Jvm.ClassFile.FieldType.boolean)) B.pre
  have hts : ∀ w ∈ gw, w.before _ s = true := fun w h => hts0 w (List.mem_cons_of_mem _ h)
  have hown : s.vm.findClass RX0 = some m.cls := findClass_of_methodNamed B.named
  have hlocks := B.notSynchronized
  subst hsz
  have hD := hD0.self (sz := s.heap.size)
  refine gQ9 ?_
  intro Q hQ
  generalize hAe : va_A (List.flatten ([(oX0 (p0a 0) p0a p0k p0n p0w), (oX1 (p0a 1) p0_0a p0_0k p0_0n p0_0w p0_0l), (oX9 (p0_0a 3) p0_0_2a p0_0_2k p0_0_2n p0_0_2w), (oX2 (p0a 7) p0_6a p0_6k p0_6n p0_6w p0_6l)] : List va_W)) s.heap.size = A at hD hE hQ
  have hA : ∀ q : Nat, s.heap.size ≤ q → A q := fun q h => by rw [← hAe]; exact Or.inr h
  have hS : va_S A s.heap s.heap [] := va_S.rf
  have hP : va_P (dC, dI) cls (List.flatten ([(oX0 (p0a 0) p0a p0k p0n p0w), (oX1 (p0a 1) p0_0a p0_0k p0_0n p0_0w p0_0l), (oX9 (p0_0a 3) p0_0_2a p0_0_2k p0_0_2n p0_0_2w), (oX2 (p0a 7) p0_6a p0_6k p0_6n p0_6w p0_6l)] : List va_W)) s.heap := hP
  have hl := lv_entry ([.ref (p0a 0)]) (n := 5) (Nat.le_of_ble_eq_true rfl)
  rw [lg_entry_eq]
  generalize (lg_sl ([.ref (p0a 0)]) ++ List.replicate (5 - (lg_sl ([.ref (p0a 0)])).length) Slot.unset).toArray = ls at hl ⊢
  have hl : lv_has ls 5 [(0, .ref (p0a 0))] := hl
  obtain ⟨H, hHe⟩ : ∃ H, H = s.heap := ⟨_, rfl⟩
  obtain ⟨locs, hle⟩ : ∃ locs : List Loc, locs = [] := ⟨_, rfl⟩
  rw [← hHe] at hP
  have hS : va_S A s.heap H locs := by rw [hHe, hle]; exact hS
  show W p l e ({ frames := 3, cells := 0, slots := 0, locals := 72 } : Room) s m ([.ref (p0a 0)] : List Value).toArray below meth c s.heap [] 0 0 Q (F0 m 0 ls [])
  rw [← hle]
  refine wH9 hHe ?_
  unfold fX0_uniteFirst at hrun
  refine lv_iconst (v := 0) hx hb dX0_uniteFirst_0 (by decide) ?_
  refine lv_istore_n (lv' := [(1, .int 0), (0, .ref (p0a 0))]) hx hb dX0_uniteFirst_1 rfl hl (by decide) rfl (fun ls hl => ?_)
  have L2 : ∀ (n_2 : Nat) (v1_2 : Int32) (o2 : (Sum (Int32 × ST × ST) Unit)) (H : Heap) (locs : List Loc) (ls : Array Slot), (fX0_uniteFirst_L2 p0w p0_0w p0_0_2n p0_0_2w p0_6n p0_6w p0_6l n_2) v1_2 = some o2 → va_P (dC, dI) cls (List.flatten ([(oX0 (p0a 0) p0a p0k p0n p0w), (oX1 (p0a 1) p0_0a p0_0k p0_0n p0_0w p0_0l), (oX9 (p0_0a 3) p0_0_2a p0_0_2k p0_0_2n p0_0_2w), (oX2 (p0a 7) p0_6a p0_6k p0_6n p0_6w p0_6l)] : List va_W)) H → va_D A (List.flatten ([(oX0 (p0a 0) p0a p0k p0n p0w), (oX1 (p0a 1) p0_0a p0_0k p0_0n p0_0w p0_0l), (oX9 (p0_0a 3) p0_0_2a p0_0_2k p0_0_2n p0_0_2w), (oX2 (p0a 7) p0_6a p0_6k p0_6n p0_6w p0_6l)] : List va_W)) → va_K (dC, dI) cls (List.flatten ([(tX0 p0k), (tX1 p0_0k), (tX9 p0_0_2k), (tX2 p0_6k)] : List (List (ClassId × FieldType)))) s → va_S A s.heap H locs → lv_has ls 5 [(0, .ref (p0a 0)), (1, .int v1_2)] → (∀ r, o2 = Sum.inl r → r = o) → (∀ (t2 : Unit), o2 = Sum.inr t2 → ∀ (H : Heap) (locs : List Loc) (ls : Array Slot), va_P (dC, dI) cls (List.flatten ([(oX0 (p0a 0) p0a p0k p0n p0w), (oX1 (p0a 1) p0_0a p0_0k p0_0n p0_0w p0_0l), (oX9 (p0_0a 3) p0_0_2a p0_0_2k p0_0_2n p0_0_2w), (oX2 (p0a 7) p0_6a p0_6k p0_6n p0_6w p0_6l)] : List va_W)) H → va_D A (List.flatten ([(oX0 (p0a 0) p0a p0k p0n p0w), (oX1 (p0a 1) p0_0a p0_0k p0_0n p0_0w p0_0l), (oX9 (p0_0a 3) p0_0_2a p0_0_2k p0_0_2n p0_0_2w), (oX2 (p0a 7) p0_6a p0_6k p0_6n p0_6w p0_6l)] : List va_W)) → va_K (dC, dI) cls (List.flatten ([(tX0 p0k), (tX1 p0_0k), (tX9 p0_0_2k), (tX2 p0_6k)] : List (List (ClassId × FieldType)))) s → va_S A s.heap H locs → lv_has ls 5 [] → W p l e ({ frames := 3, cells := 0, slots := 0, locals := 72 } : Room) s m ([.ref (p0a 0)] : List Value).toArray below meth c H locs 0 0 Q (F0 m 128 ls [])) → W p l e ({ frames := 3, cells := 0, slots := 0, locals := 72 } : Room) s m ([.ref (p0a 0)] : List Value).toArray below meth c H locs 0 0 Q (F0 m 2 ls []) := by
    intro n_2
    induction n_2 with
    | zero => intro v1_2 o2 H locs ls hrun; exact (no9 rfl hrun).elim
    | succ n_2 IH2 =>
      intro v1_2 o2 H locs ls hrun hP hD hK hS hl hr2 hk2
      unfold fX0_uniteFirst_L2 at hrun
      refine lv_iload_n hx hb dX0_uniteFirst_2 rfl (lv_at hl 1 rfl) ?_
      refine lv_aload_n hx hb dX0_uniteFirst_3 rfl (lv_at hl 0 rfl) ?_
      refine va_get (D := (dC, dI)) (ci := 8) (v := .ref (p0a 1)) (C := RX0) (T := TX0) (N := 17) hx hb hts i_X0 hown hK hP 0 rfl rfl 0 (by decide) (hts _ qw618) (fun _ h9 => h9) rfl dX0_uniteFirst_4 ?_
      refine va_get (D := (dC, dI)) (ci := 4) (v := .int (p0_0w 0 0)) (C := RX1) (T := TX1) (N := 21) hx hb hts i_X1 hown hK hP 9 rfl rfl 0 (by decide) (hts _ qw644) (fun _ h9 => h9) rfl dX0_uniteFirst_7 ?_
      rcases br9 hrun with ⟨hc1, hrun⟩ | ⟨hc1, hrun⟩
      · refine lv_icmp_ge (tgt := 128) hx hb dX0_uniteFirst_10 (by decide) (fun _ => ?_) (fun c => absurd hc1 c)
        obtain rfl := (Option.some.inj hrun)
        exact hk2 _ rfl _ _ _ hP hD hK hS (lv_sub hl [] rfl)
      · refine lv_icmp_ge (tgt := 128) hx hb dX0_uniteFirst_10 (by decide) (fun c => absurd c hc1) (fun _ => ?_)
        refine lv_aload_n hx hb dX0_uniteFirst_13 rfl (lv_at hl 0 rfl) ?_
        refine va_get (D := (dC, dI)) (ci := 8) (v := .ref (p0a 1)) (C := RX0) (T := TX0) (N := 17) hx hb hts i_X0 hown hK hP 0 rfl rfl 0 (by decide) (hts _ qw618) (fun _ h9 => h9) rfl dX0_uniteFirst_14 ?_
        refine va_get (D := (dC, dI)) (ci := 4) (v := .ref (p0_0a 4)) (C := RX1) (T := TX1) (N := 21) hx hb hts i_X1 hown hK hP 9 rfl rfl 3 (by decide) (hts _ qw791) (fun _ h9 => h9) rfl dX0_uniteFirst_17 ?_
        refine lv_iload_n hx hb dX0_uniteFirst_20 rfl (lv_at hl 1 rfl) ?_
        obtain ⟨hq2, hrun⟩ := chk9 hrun
        refine va_iald hx hb hK hP 10 8 rfl rfl (ixb_in hq2) dX0_uniteFirst_21 ?_
        refine lv_istore_n (lv' := [(2, .int (p0_0w 4 (nn v1_2))), (0, .ref (p0a 0)), (1, .int v1_2)]) hx hb dX0_uniteFirst_22 rfl hl (by decide) rfl (fun ls hl => ?_)
        have L23 : ∀ (n_23 : Nat) (v2_23 : Int32) (o23 : (Sum (Int32 × ST × ST) Unit)) (H : Heap) (locs : List Loc) (ls : Array Slot), (fX0_uniteFirst_L23 p0w p0_0w p0_0_2n p0_0_2w p0_6n p0_6w p0_6l n_23) v2_23 = some o23 → va_P (dC, dI) cls (List.flatten ([(oX0 (p0a 0) p0a p0k p0n p0w), (oX1 (p0a 1) p0_0a p0_0k p0_0n p0_0w p0_0l), (oX9 (p0_0a 3) p0_0_2a p0_0_2k p0_0_2n p0_0_2w), (oX2 (p0a 7) p0_6a p0_6k p0_6n p0_6w p0_6l)] : List va_W)) H → va_D A (List.flatten ([(oX0 (p0a 0) p0a p0k p0n p0w), (oX1 (p0a 1) p0_0a p0_0k p0_0n p0_0w p0_0l), (oX9 (p0_0a 3) p0_0_2a p0_0_2k p0_0_2n p0_0_2w), (oX2 (p0a 7) p0_6a p0_6k p0_6n p0_6w p0_6l)] : List va_W)) → va_K (dC, dI) cls (List.flatten ([(tX0 p0k), (tX1 p0_0k), (tX9 p0_0_2k), (tX2 p0_6k)] : List (List (ClassId × FieldType)))) s → va_S A s.heap H locs → lv_has ls 5 [(0, .ref (p0a 0)), (1, .int v1_2), (2, .int v2_23)] → (∀ r, o23 = Sum.inl r → r = o) → (∀ (t23 : Unit), o23 = Sum.inr t23 → ∀ (H : Heap) (locs : List Loc) (ls : Array Slot), va_P (dC, dI) cls (List.flatten ([(oX0 (p0a 0) p0a p0k p0n p0w), (oX1 (p0a 1) p0_0a p0_0k p0_0n p0_0w p0_0l), (oX9 (p0_0a 3) p0_0_2a p0_0_2k p0_0_2n p0_0_2w), (oX2 (p0a 7) p0_6a p0_6k p0_6n p0_6w p0_6l)] : List va_W)) H → va_D A (List.flatten ([(oX0 (p0a 0) p0a p0k p0n p0w), (oX1 (p0a 1) p0_0a p0_0k p0_0n p0_0w p0_0l), (oX9 (p0_0a 3) p0_0_2a p0_0_2k p0_0_2n p0_0_2w), (oX2 (p0a 7) p0_6a p0_6k p0_6n p0_6w p0_6l)] : List va_W)) → va_K (dC, dI) cls (List.flatten ([(tX0 p0k), (tX1 p0_0k), (tX9 p0_0_2k), (tX2 p0_6k)] : List (List (ClassId × FieldType)))) s → va_S A s.heap H locs → lv_has ls 5 [(0, .ref (p0a 0)), (1, .int v1_2)] → W p l e ({ frames := 3, cells := 0, slots := 0, locals := 72 } : Room) s m ([.ref (p0a 0)] : List Value).toArray below meth c H locs 0 0 Q (F0 m 122 ls [])) → W p l e ({ frames := 3, cells := 0, slots := 0, locals := 72 } : Room) s m ([.ref (p0a 0)] : List Value).toArray below meth c H locs 0 0 Q (F0 m 23 ls []) := by
          intro n_23
          induction n_23 with
          | zero => intro v2_23 o23 H locs ls hrun; exact (no9 rfl hrun).elim
          | succ n_23 IH23 =>
            intro v2_23 o23 H locs ls hrun hP hD hK hS hl hr23 hk23
            unfold fX0_uniteFirst_L23 at hrun
            refine lv_iload_n hx hb dX0_uniteFirst_23 rfl (lv_at hl 2 rfl) ?_
            rcases br9 hrun with ⟨hc3, hrun⟩ | ⟨hc3, hrun⟩
            · refine lv_if_lt (tgt := 122) hx hb dX0_uniteFirst_24 (by decide) (fun _ => ?_) (fun c => absurd hc3 c)
              obtain rfl := (Option.some.inj hrun)
              exact hk23 _ rfl _ _ _ hP hD hK hS (lv_sub hl [0, 1] rfl)
            · refine lv_if_lt (tgt := 122) hx hb dX0_uniteFirst_24 (by decide) (fun c => absurd c hc3) (fun _ => ?_)
              refine lv_aload_n hx hb dX0_uniteFirst_27 rfl (lv_at hl 0 rfl) ?_
              refine va_get (D := (dC, dI)) (ci := 8) (v := .ref (p0a 1)) (C := RX0) (T := TX0) (N := 17) hx hb hts i_X0 hown hK hP 0 rfl rfl 0 (by decide) (hts _ qw618) (fun _ h9 => h9) rfl dX0_uniteFirst_28 ?_
              refine va_get (D := (dC, dI)) (ci := 4) (v := .ref (p0_0a 3)) (C := RX1) (T := TX1) (N := 21) hx hb hts i_X1 hown hK hP 9 rfl rfl 2 (by decide) (hts _ qw629) (fun _ h9 => h9) rfl dX0_uniteFirst_31 ?_
              refine va_get (D := (dC, dI)) (ci := 3) (v := .ref (p0_0_2a 2)) (C := RX9) (T := TX9) (N := 6) hx hb hts i_X9 hown hK hP 27 rfl rfl 1 (by decide) (hts _ qw630) (fun _ h9 => h9) rfl dX0_uniteFirst_34 ?_
              refine lv_iload_n hx hb dX0_uniteFirst_37 rfl (lv_at hl 2 rfl) ?_
              obtain ⟨hq4, hrun⟩ := chk9 hrun
              refine va_iald hx hb hK hP 28 25 rfl rfl (ixb_in hq4) dX0_uniteFirst_38 ?_
              refine lv_bipush (v := 25) hx hb dX0_uniteFirst_39 (by decide) ?_
              have J106 : ∀ (H : Heap) (locs : List Loc) (ls : Array Slot), (fX0_uniteFirst_J106 (fX0_uniteFirst_L23 p0w p0_0w p0_0_2n p0_0_2w p0_6n p0_6w p0_6l n_23) p0_0_2n p0_0_2w v2_23) = some o23 → va_P (dC, dI) cls (List.flatten ([(oX0 (p0a 0) p0a p0k p0n p0w), (oX1 (p0a 1) p0_0a p0_0k p0_0n p0_0w p0_0l), (oX9 (p0_0a 3) p0_0_2a p0_0_2k p0_0_2n p0_0_2w), (oX2 (p0a 7) p0_6a p0_6k p0_6n p0_6w p0_6l)] : List va_W)) H → va_D A (List.flatten ([(oX0 (p0a 0) p0a p0k p0n p0w), (oX1 (p0a 1) p0_0a p0_0k p0_0n p0_0w p0_0l), (oX9 (p0_0a 3) p0_0_2a p0_0_2k p0_0_2n p0_0_2w), (oX2 (p0a 7) p0_6a p0_6k p0_6n p0_6w p0_6l)] : List va_W)) → va_K (dC, dI) cls (List.flatten ([(tX0 p0k), (tX1 p0_0k), (tX9 p0_0_2k), (tX2 p0_6k)] : List (List (ClassId × FieldType)))) s → va_S A s.heap H locs → lv_has ls 5 [(0, .ref (p0a 0)), (1, .int v1_2), (2, .int v2_23)] → W p l e ({ frames := 3, cells := 0, slots := 0, locals := 72 } : Room) s m ([.ref (p0a 0)] : List Value).toArray below meth c H locs 0 0 Q (F0 m 106 ls []) := by
                intro  H locs ls hrun hP hD hK hS hl 
                unfold fX0_uniteFirst_J106 at hrun
                refine lv_aload_n hx hb dX0_uniteFirst_106 rfl (lv_at hl 0 rfl) ?_
                refine va_get (D := (dC, dI)) (ci := 8) (v := .ref (p0a 1)) (C := RX0) (T := TX0) (N := 17) hx hb hts i_X0 hown hK hP 0 rfl rfl 0 (by decide) (hts _ qw618) (fun _ h9 => h9) rfl dX0_uniteFirst_107 ?_
                refine va_get (D := (dC, dI)) (ci := 4) (v := .ref (p0_0a 3)) (C := RX1) (T := TX1) (N := 21) hx hb hts i_X1 hown hK hP 9 rfl rfl 2 (by decide) (hts _ qw629) (fun _ h9 => h9) rfl dX0_uniteFirst_110 ?_
                refine va_get (D := (dC, dI)) (ci := 3) (v := .ref (p0_0_2a 6)) (C := RX9) (T := TX9) (N := 6) hx hb hts i_X9 hown hK hP 27 rfl rfl 5 (by decide) (hts _ qw796) (fun _ h9 => h9) rfl dX0_uniteFirst_113 ?_
                refine lv_iload_n hx hb dX0_uniteFirst_116 rfl (lv_at hl 2 rfl) ?_
                obtain ⟨hq5, hrun⟩ := chk9 hrun
                refine va_iald hx hb hK hP 32 29 rfl rfl (ixb_in hq5) dX0_uniteFirst_117 ?_
                refine lv_istore_n (lv' := [(2, .int (p0_0_2w 6 (nn v2_23))), (0, .ref (p0a 0)), (1, .int v1_2)]) hx hb dX0_uniteFirst_118 rfl hl (by decide) rfl (fun ls hl => ?_)
                refine lv_goto (tgt := 23) hx hb dX0_uniteFirst_119 (by decide) ?_
                exact IH23 (p0_0_2w 6 (nn v2_23)) o23 _ _ _ hrun hP hD hK hS (lv_sub hl [1, 2, 0] rfl) hr23 hk23
              rcases br9 hrun with ⟨hc6, hrun⟩ | ⟨hc6, hrun⟩
              · refine lv_icmp_ne (tgt := 106) hx hb dX0_uniteFirst_41 (by decide) (fun c => absurd hc6 c) (fun _ => ?_)
                refine lv_aload_n hx hb dX0_uniteFirst_44 rfl (lv_at hl 0 rfl) ?_
                refine va_get (D := (dC, dI)) (ci := 8) (v := .ref (p0a 1)) (C := RX0) (T := TX0) (N := 17) hx hb hts i_X0 hown hK hP 0 rfl rfl 0 (by decide) (hts _ qw618) (fun _ h9 => h9) rfl dX0_uniteFirst_45 ?_
                refine va_get (D := (dC, dI)) (ci := 4) (v := .ref (p0_0a 3)) (C := RX1) (T := TX1) (N := 21) hx hb hts i_X1 hown hK hP 9 rfl rfl 2 (by decide) (hts _ qw629) (fun _ h9 => h9) rfl dX0_uniteFirst_48 ?_
                refine va_get (D := (dC, dI)) (ci := 3) (v := .ref (p0_0_2a 3)) (C := RX9) (T := TX9) (N := 6) hx hb hts i_X9 hown hK hP 27 rfl rfl 2 (by decide) (hts _ qw636) (fun _ h9 => h9) rfl dX0_uniteFirst_51 ?_
                refine lv_iload_n hx hb dX0_uniteFirst_54 rfl (lv_at hl 2 rfl) ?_
                obtain ⟨hq7, hrun⟩ := chk9 hrun
                refine va_iald hx hb hK hP 29 26 rfl rfl (ixb_in hq7) dX0_uniteFirst_55 ?_
                refine lv_istore_n (lv' := [(3, .int (p0_0_2w 3 (nn v2_23))), (0, .ref (p0a 0)), (1, .int v1_2), (2, .int v2_23)]) hx hb dX0_uniteFirst_56 rfl hl (by decide) rfl (fun ls hl => ?_)
                refine lv_aload_n hx hb dX0_uniteFirst_57 rfl (lv_at hl 1 rfl) ?_
                refine va_get (D := (dC, dI)) (ci := 8) (v := .ref (p0a 1)) (C := RX0) (T := TX0) (N := 17) hx hb hts i_X0 hown hK hP 0 rfl rfl 0 (by decide) (hts _ qw618) (fun _ h9 => h9) rfl dX0_uniteFirst_58 ?_
                refine va_get (D := (dC, dI)) (ci := 4) (v := .ref (p0_0a 3)) (C := RX1) (T := TX1) (N := 21) hx hb hts i_X1 hown hK hP 9 rfl rfl 2 (by decide) (hts _ qw629) (fun _ h9 => h9) rfl dX0_uniteFirst_61 ?_
                refine va_get (D := (dC, dI)) (ci := 3) (v := .ref (p0_0_2a 4)) (C := RX9) (T := TX9) (N := 6) hx hb hts i_X9 hown hK hP 27 rfl rfl 3 (by decide) (hts _ qw631) (fun _ h9 => h9) rfl dX0_uniteFirst_64 ?_
                refine lv_iload_n hx hb dX0_uniteFirst_67 rfl (lv_at hl 3 rfl) ?_
                obtain ⟨hq8, hrun⟩ := chk9 hrun
                refine va_iald hx hb hK hP 30 27 rfl rfl (ixb_in hq8) dX0_uniteFirst_68 ?_
                refine lv_istore (lv' := [(4, .int (p0_0_2w 4 (nn v2_23))), (3, .int (p0_0_2w 3 (nn v2_23))), (0, .ref (p0a 0)), (1, .int v1_2), (2, .int v2_23)]) hx hb dX0_uniteFirst_69 hl (by decide) rfl (fun ls hl => ?_)
                refine lv_aload_n hx hb dX0_uniteFirst_71 rfl (lv_at hl 2 rfl) ?_
                refine va_get (D := (dC, dI)) (ci := 8) (v := .ref (p0a 7)) (C := RX0) (T := TX0) (N := 17) hx hb hts i_X0 hown hK hP 0 rfl rfl 6 (by decide) (hts _ qw626) (fun _ h9 => h9) rfl dX0_uniteFirst_72 ?_
                refine lv_iload_n hx hb dX0_uniteFirst_75 rfl (lv_at hl 1 rfl) ?_
                refine lv_iload hx hb dX0_uniteFirst_76 (lv_at hl 0 rfl) ?_
                refine lv_aload_n hx hb dX0_uniteFirst_78 rfl (lv_at hl 2 rfl) ?_
                refine va_get (D := (dC, dI)) (ci := 8) (v := .int (p0w 0 7)) (C := RX0) (T := TX0) (N := 17) hx hb hts i_X0 hown hK hP 0 rfl rfl 7 (by decide) (hts _ qw637) (fun _ h9 => h9) rfl dX0_uniteFirst_79 ?_
                obtain ⟨o_9, hc_9, hrun⟩ := bnd9 hrun
                have hPx : va_P (dC, dI) cls ((List.flatten ([(oX2 (p0a 7) p0_6a p0_6k p0_6n p0_6w p0_6l)] : List va_W)) ++ (List.flatten ([(oX0 (p0a 0) p0a p0k p0n p0w), (oX1 (p0a 1) p0_0a p0_0k p0_0n p0_0w p0_0l), (oX9 (p0_0a 3) p0_0_2a p0_0_2k p0_0_2n p0_0_2w)] : List va_W))) H := vP_fa (vP_perm hP (bP ((((((((((List.Perm.refl _)).cons _).trans (List.Perm.swap _ _ _))).cons _).trans (List.Perm.swap _ _ _))).cons _).trans (List.Perm.swap _ _ _))))
                have hDx : va_D A ((List.flatten ([(oX2 (p0a 7) p0_6a p0_6k p0_6n p0_6w p0_6l)] : List va_W)) ++ (List.flatten ([(oX0 (p0a 0) p0a p0k p0n p0w), (oX1 (p0a 1) p0_0a p0_0k p0_0n p0_0w p0_0l), (oX9 (p0_0a 3) p0_0_2a p0_0_2k p0_0_2n p0_0_2w)] : List va_W))) := vD_fa (vD_perm hD (bP ((((((((((List.Perm.refl _)).cons _).trans (List.Perm.swap _ _ _))).cons _).trans (List.Perm.swap _ _ _))).cons _).trans (List.Perm.swap _ _ _))))
                have hKx : va_K (dC, dI) cls ((List.flatten ([(tX2 p0_6k)] : List (List (ClassId × FieldType)))) ++ (List.flatten ([(tX0 p0k), (tX1 p0_0k), (tX9 p0_0_2k)] : List (List (ClassId × FieldType))))) s := vK_fa (vK_perm hK (bP ((((((((((List.Perm.refl _)).cons _).trans (List.Perm.swap _ _ _))).cons _).trans (List.Perm.swap _ _ _))).cons _).trans (List.Perm.swap _ _ _))))
                have hPc := vP_l hPx
                have hDc := vD_l hDx
                have hKc := vK_l hKx
                have hFc := vfree hDx hS hA
                refine va_calli (va_runV (As := [.int (p0_0_2w 3 (nn v2_23)), .int (p0_0_2w 4 (nn v2_23)), .int (p0w 0 7)]) (rest := []) ⟨hx, hb, hml, hown, hts⟩ (kX2_mayUnite l dC dI (p0a := (st0 (p0a 7) p0_6a)) (p0k := p0_6k) (p0n := p0_6n) (p0w := p0_6w) (p0l := p0_6l) (p1 := (p0_0_2w 3 (nn v2_23))) (p2 := (p0_0_2w 4 (nn v2_23))) (p3 := (p0w 0 7)) (sz := _) (o := o_9) (hrun := hc_9)) (cwV 3 hts (gi_V qw793 qw794 qw795 qw694 (gi_z qw792)) rfl rfl rfl (by decide +kernel) ⟨Nat.le_of_ble_eq_true rfl, Nat.le_of_ble_eq_true rfl⟩) ⟨PRE.blind, va_recv hKc hPc (ci := 9) (q0 := 0) rfl rfl, PRE.of hE hS hFc hPc hKc hDc⟩ rfl rfl hl.1 rfl (lv_room (Nat.le_of_ble_eq_true rfl)) dX0_uniteFirst_82 ⟨(Nat.le_of_ble_eq_true rfl), (Nat.le_of_ble_eq_true rfl)⟩) hS (fun q _ h => hFc q h) hFc (fun r10 u t H locs ht hvm hw hB hz1 hk1 hS => ?_)
                obtain ⟨b1, b2, b3⟩ := hB
                rw [ht] at b1
                obtain ⟨hP, hD, hK⟩ := JOINC (wc := (List.flatten ([(oX2 (p0a 7) p0_6a p0_6k p0_6n p0_6w p0_6l)] : List va_W))) (wr := (List.flatten ([(oX0 (p0a 0) p0a p0k p0n p0w), (oX1 (p0a 1) p0_0a p0_0k p0_0n p0_0w p0_0l), (oX9 (p0_0a 3) p0_0_2a p0_0_2k p0_0_2n p0_0_2w)] : List va_W))) (w1 := (List.flatten ([(oX2 (p0a 7) p0_6a p0_6k p0_6n p0_6w p0_6l)] : List va_W))) (t1 := (List.flatten ([(tX2 p0_6k)] : List (List (ClassId × FieldType))))) hPx hDx hKx hk1 hFc b1 (va_K.moved hvm.symm b2) b3
                have hP : va_P (dC, dI) cls (List.flatten ([(oX0 (p0a 0) p0a p0k p0n p0w), (oX1 (p0a 1) p0_0a p0_0k p0_0n p0_0w p0_0l), (oX9 (p0_0a 3) p0_0_2a p0_0_2k p0_0_2n p0_0_2w), (oX2 (p0a 7) p0_6a p0_6k p0_6n p0_6w p0_6l)] : List va_W)) H := vP_perm (vP_fb hP) (bP ((((((List.Perm.refl _)).cons _).trans (List.Perm.swap _ _ _))).trans ((((((((List.Perm.refl _)).cons _).trans (List.Perm.swap _ _ _))).trans ((((((List.Perm.refl _)).cons _).trans (List.Perm.swap _ _ _))).cons _))).cons _)))
                have hD : va_D A (List.flatten ([(oX0 (p0a 0) p0a p0k p0n p0w), (oX1 (p0a 1) p0_0a p0_0k p0_0n p0_0w p0_0l), (oX9 (p0_0a 3) p0_0_2a p0_0_2k p0_0_2n p0_0_2w), (oX2 (p0a 7) p0_6a p0_6k p0_6n p0_6w p0_6l)] : List va_W)) := vD_perm (vD_fb hD) (bP ((((((List.Perm.refl _)).cons _).trans (List.Perm.swap _ _ _))).trans ((((((((List.Perm.refl _)).cons _).trans (List.Perm.swap _ _ _))).trans ((((((List.Perm.refl _)).cons _).trans (List.Perm.swap _ _ _))).cons _))).cons _)))
                have hK : va_K (dC, dI) cls (List.flatten ([(tX0 p0k), (tX1 p0_0k), (tX9 p0_0_2k), (tX2 p0_6k)] : List (List (ClassId × FieldType)))) s := vK_perm (vK_fb hK) (bP ((((((List.Perm.refl _)).cons _).trans (List.Perm.swap _ _ _))).trans ((((((((List.Perm.refl _)).cons _).trans (List.Perm.swap _ _ _))).trans ((((((List.Perm.refl _)).cons _).trans (List.Perm.swap _ _ _))).cons _))).cons _)))
                obtain rfl : o_9 = r10 := hw.symm
                rcases br9 hrun with ⟨hc11, hrun⟩ | ⟨hc11, hrun⟩
                · refine lv_if_eq (tgt := 106) hx hb dX0_uniteFirst_85 (by decide) (fun _ => ?_) (fun c => absurd hc11 c)
                  exact J106 _ _ _ hrun hP hD hK hS (lv_sub hl [2, 3, 4] rfl)
                · refine lv_if_eq (tgt := 106) hx hb dX0_uniteFirst_85 (by decide) (fun c => absurd c hc11) (fun _ => ?_)
                  refine lv_aload_n hx hb dX0_uniteFirst_88 rfl (lv_at hl 2 rfl) ?_
                  refine lv_iload_n hx hb dX0_uniteFirst_89 rfl (lv_at hl 1 rfl) ?_
                  refine lv_iload hx hb dX0_uniteFirst_90 (lv_at hl 0 rfl) ?_
                  refine va_mmin hx hb (hml.trans hl.1.symm) hown (hts _ qw797) (hts _ qw99) (hts _ qw100) (hts _ qw101) (Nat.le_of_ble_eq_true rfl) (Nat.le_of_ble_eq_true rfl) (Nat.le_of_ble_eq_true rfl) (Nat.le_of_ble_eq_true rfl) dX0_uniteFirst_92 ?_
                  refine lv_iload_n hx hb dX0_uniteFirst_95 rfl (lv_at hl 1 rfl) ?_
                  refine lv_iload hx hb dX0_uniteFirst_96 (lv_at hl 0 rfl) ?_
                  refine va_mmax hx hb (hml.trans hl.1.symm) hown (hts _ qw798) (hts _ qw359) (hts _ qw100) (hts _ qw360) (Nat.le_of_ble_eq_true rfl) (Nat.le_of_ble_eq_true rfl) (Nat.le_of_ble_eq_true rfl) (Nat.le_of_ble_eq_true rfl) dX0_uniteFirst_98 ?_
                  obtain ⟨o_12, hc_12, hrun⟩ := bnd9 hrun
                  have hPx : va_P (dC, dI) cls ((List.flatten ([(oX0 (p0a 0) p0a p0k p0n p0w), (oX1 (p0a 1) p0_0a p0_0k p0_0n p0_0w p0_0l), (oX9 (p0_0a 3) p0_0_2a p0_0_2k p0_0_2n p0_0_2w)] : List va_W)) ++ (List.flatten ([(oX2 (p0a 7) p0_6a p0_6k p0_6n p0_6w p0_6l)] : List va_W))) H := vP_fa (vP_perm hP (bP (List.Perm.refl _)))
                  have hDx : va_D A ((List.flatten ([(oX0 (p0a 0) p0a p0k p0n p0w), (oX1 (p0a 1) p0_0a p0_0k p0_0n p0_0w p0_0l), (oX9 (p0_0a 3) p0_0_2a p0_0_2k p0_0_2n p0_0_2w)] : List va_W)) ++ (List.flatten ([(oX2 (p0a 7) p0_6a p0_6k p0_6n p0_6w p0_6l)] : List va_W))) := vD_fa (vD_perm hD (bP (List.Perm.refl _)))
                  have hKx : va_K (dC, dI) cls ((List.flatten ([(tX0 p0k), (tX1 p0_0k), (tX9 p0_0_2k)] : List (List (ClassId × FieldType)))) ++ (List.flatten ([(tX2 p0_6k)] : List (List (ClassId × FieldType))))) s := vK_fa (vK_perm hK (bP (List.Perm.refl _)))
                  have hPc := vP_l hPx
                  have hDc := vD_l hDx
                  have hKc := vK_l hKx
                  have hFc := vfree hDx hS hA
                  refine va_callv (va_runV (As := [.int (if (p0_0_2w 4 (nn v2_23)) < (p0_0_2w 3 (nn v2_23)) then (p0_0_2w 4 (nn v2_23)) else (p0_0_2w 3 (nn v2_23))), .int (if (p0_0_2w 3 (nn v2_23)) < (p0_0_2w 4 (nn v2_23)) then (p0_0_2w 4 (nn v2_23)) else (p0_0_2w 3 (nn v2_23)))]) (rest := []) ⟨hx, hb, hml, hown, hts⟩ (kX0_unite l dC dI (p0a := p0a) (p0k := p0k) (p0n := p0n) (p0w := p0w) (p1 := (if (p0_0_2w 4 (nn v2_23)) < (p0_0_2w 3 (nn v2_23)) then (p0_0_2w 4 (nn v2_23)) else (p0_0_2w 3 (nn v2_23)))) (p2 := (if (p0_0_2w 3 (nn v2_23)) < (p0_0_2w 4 (nn v2_23)) then (p0_0_2w 4 (nn v2_23)) else (p0_0_2w 3 (nn v2_23)))) (p0_0a := p0_0a) (p0_0k := p0_0k) (p0_0n := p0_0n) (p0_0w := p0_0w) (p0_0l := p0_0l) (p0_0_2a := p0_0_2a) (p0_0_2k := p0_0_2k) (p0_0_2n := p0_0_2n) (p0_0_2w := p0_0_2w) (sz := _) (o := o_12) (hrun := hc_12)) (cwV 2 hts (gi_V qw804 qw805 qw806 qw655 (gi_z qw803)) rfl rfl rfl (by decide +kernel) ⟨Nat.le_of_ble_eq_true rfl, Nat.le_of_ble_eq_true rfl⟩) ⟨PRE.blind, va_recv hKc hPc (ci := 8) (q0 := 0) rfl rfl, PRE.of hE hS hFc hPc hKc hDc⟩ rfl rfl hl.1 rfl (lv_room (Nat.le_of_ble_eq_true rfl)) dX0_uniteFirst_101 ⟨(Nat.le_of_ble_eq_true rfl), (Nat.le_of_ble_eq_true rfl)⟩) hS (fun q _ h => hFc q h) hFc (fun u t H locs ht hvm hw hB hz1 hk1 hS => ?_)
                  obtain ⟨b1, b2, b3⟩ := hB
                  rw [ht] at b1
                  obtain ⟨hP, hD, hK⟩ := JOINC (wc := (List.flatten ([(oX0 (p0a 0) p0a p0k p0n p0w), (oX1 (p0a 1) p0_0a p0_0k p0_0n p0_0w p0_0l), (oX9 (p0_0a 3) p0_0_2a p0_0_2k p0_0_2n p0_0_2w)] : List va_W))) (wr := (List.flatten ([(oX2 (p0a 7) p0_6a p0_6k p0_6n p0_6w p0_6l)] : List va_W))) (w1 := (List.flatten ([(oX0 (p0a 0) p0a p0k p0n p0w), (oX1 (p0a 1) p0_0a p0_0k p0_0n (o_12.1) p0_0l), (oX9 (p0_0a 3) p0_0_2a p0_0_2k p0_0_2n (o_12.2))] : List va_W))) (t1 := (List.flatten ([(tX0 p0k), (tX1 p0_0k), (tX9 p0_0_2k)] : List (List (ClassId × FieldType))))) hPx hDx hKx hk1 hFc b1 (va_K.moved hvm.symm b2) b3
                  have hP : va_P (dC, dI) cls (List.flatten ([(oX0 (p0a 0) p0a p0k p0n p0w), (oX1 (p0a 1) p0_0a p0_0k p0_0n (o_12.1) p0_0l), (oX9 (p0_0a 3) p0_0_2a p0_0_2k p0_0_2n (o_12.2)), (oX2 (p0a 7) p0_6a p0_6k p0_6n p0_6w p0_6l)] : List va_W)) H := vP_perm (vP_fb hP) (bP (List.Perm.refl _))
                  have hD : va_D A (List.flatten ([(oX0 (p0a 0) p0a p0k p0n p0w), (oX1 (p0a 1) p0_0a p0_0k p0_0n (o_12.1) p0_0l), (oX9 (p0_0a 3) p0_0_2a p0_0_2k p0_0_2n (o_12.2)), (oX2 (p0a 7) p0_6a p0_6k p0_6n p0_6w p0_6l)] : List va_W)) := vD_perm (vD_fb hD) (bP (List.Perm.refl _))
                  have hK : va_K (dC, dI) cls (List.flatten ([(tX0 p0k), (tX1 p0_0k), (tX9 p0_0_2k), (tX2 p0_6k)] : List (List (ClassId × FieldType)))) s := vK_perm (vK_fb hK) (bP (List.Perm.refl _))
                  refine lv_iconst (v := 1) hx hb dX0_uniteFirst_104 (by decide) ?_
                  have ho9 : (1, (o_12.1), (o_12.2)) = o := hr23 _ (Option.some.inj hrun).symm
                  have hP9 : va_P (dC, dI) cls (List.flatten ([(oX0 (p0a 0) p0a p0k p0n p0w), (oX1 (p0a 1) p0_0a p0_0k p0_0n (o.2.1) p0_0l), (oX9 (p0_0a 3) p0_0_2a p0_0_2k p0_0_2n (o.2.2)), (oX2 (p0a 7) p0_6a p0_6k p0_6n p0_6w p0_6l)] : List va_W)) H := by first | exact hP | (rw [← ho9]; exact hP)
                  have hD9 : va_D A (List.flatten ([(oX0 (p0a 0) p0a p0k p0n p0w), (oX1 (p0a 1) p0_0a p0_0k p0_0n (o.2.1) p0_0l), (oX9 (p0_0a 3) p0_0_2a p0_0_2k p0_0_2n (o.2.2)), (oX2 (p0a 7) p0_6a p0_6k p0_6n p0_6w p0_6l)] : List va_W)) := by first | exact hD | (rw [← ho9]; exact hD)
                  subst hQ
                  exact W.zret (v := 1) hx hb hr (by decide) (fun t ht hW => ⟨⟨1, (), rfl, (by rw [← ho9]), ⟨by rw [ht]; exact hP9, va_K.moved hW.alike hK, hD9⟩⟩, hS.F ht⟩) hS.2.2 dX0_uniteFirst_105
              · refine lv_icmp_ne (tgt := 106) hx hb dX0_uniteFirst_41 (by decide) (fun _ => ?_) (fun c => absurd c hc6)
                exact J106 _ _ _ hrun hP hD hK hS (lv_sub hl [0, 1, 2] rfl)
        obtain ⟨o23, hc23, hrun⟩ := bnd9 hrun
        refine L23 NF (p0_0w 4 (nn v1_2)) o23 _ _ _ hc23 hP hD hK hS (lv_sub hl [1, 2, 0] rfl) (fun r e9 => by subst e9; exact hr2 _ (Option.some.inj hrun).symm) ?_
        intro t23 e9
        subst e9
        replace hrun := el9 hrun
        intro H locs ls hP hD hK hS hl
        have hl := hl
        refine lv_iinc (v := (v1_2 + 1)) (lv' := [(1, .int (v1_2 + 1)), (0, .ref (p0a 0))]) hx hb dX0_uniteFirst_122 hl (k := 1) rfl rfl (by decide) rfl (fun ls hl => ?_)
        refine lv_goto (tgt := 2) hx hb dX0_uniteFirst_125 (by decide) ?_
        exact IH2 (v1_2 + 1) o2 _ _ _ hrun hP hD hK hS (lv_sub hl [1, 0] rfl) hr2 hk2
  obtain ⟨o2, hc2, hrun⟩ := bnd9 hrun
  refine L2 NF 0 o2 _ _ _ hc2 hP hD hK hS (lv_sub hl [1, 0] rfl) (fun r e9 => by subst e9; exact Option.some.inj hrun) ?_
  intro t2 e9
  subst e9
  replace hrun := el9 hrun
  intro H locs ls hP hD hK hS hl
  have hl := hl
  refine lv_iconst (v := 0) hx hb dX0_uniteFirst_128 (by decide) ?_
  have ho9 : (0, p0_0w, p0_0_2w) = o := Option.some.inj hrun
  have hP9 : va_P (dC, dI) cls (List.flatten ([(oX0 (p0a 0) p0a p0k p0n p0w), (oX1 (p0a 1) p0_0a p0_0k p0_0n (o.2.1) p0_0l), (oX9 (p0_0a 3) p0_0_2a p0_0_2k p0_0_2n (o.2.2)), (oX2 (p0a 7) p0_6a p0_6k p0_6n p0_6w p0_6l)] : List va_W)) H := by first | exact hP | (rw [← ho9]; exact hP)
  have hD9 : va_D A (List.flatten ([(oX0 (p0a 0) p0a p0k p0n p0w), (oX1 (p0a 1) p0_0a p0_0k p0_0n (o.2.1) p0_0l), (oX9 (p0_0a 3) p0_0_2a p0_0_2k p0_0_2n (o.2.2)), (oX2 (p0a 7) p0_6a p0_6k p0_6n p0_6w p0_6l)] : List va_W)) := by first | exact hD | (rw [← ho9]; exact hD)
  subst hQ
  exact W.zret (v := 0) hx hb hr (by decide) (fun t ht hW => ⟨⟨0, (), rfl, (by rw [← ho9]), ⟨by rw [ht]; exact hP9, va_K.moved hW.alike hK, hD9⟩⟩, hS.F ht⟩) hS.2.2 dX0_uniteFirst_129
def fX2_weigh_J208 (kk65 : Int32 → ST → SL → Option (ST × SL)) (p1_2n : Nat → Nat) (p1_2w : ST) (v6_65 : Int32) (p0w_208 : ST) (p0l_208 : SL) : Option (ST × SL) := (if ixb v6_65 (p1_2n 6) = true then (kk65 (p1_2w 6 (nn v6_65)) p0w_208 p0l_208) else none)
def fX2_weigh_J151 (kk65 : Int32 → ST → SL → Option (ST × SL)) (p0n : Nat → Nat) (p1w : ST) (p1_2n : Nat → Nat) (p1_2w : ST) (v3_33 : Int32) (v6_65 : Int32) (p0w_65 : ST) (p0l_151 : SL) : Option (ST × SL) := (if ixb v6_65 (p1_2n 3) = true then (if (p1_2w 3 (nn v6_65)) < 0 then (fX2_weigh_J208 kk65 p1_2n p1_2w v6_65 p0w_65 p0l_151) else (if ixb v6_65 (p1_2n 3) = true then (if ixb (p1_2w 3 (nn v6_65)) (p0n 14) = true then (if ixb (p1_2w 3 (nn v6_65)) (p0n 14) = true then (lt9 (upl p0l_151 14 (nn (p1_2w 3 (nn v6_65))) ((p0l_151 14 (nn (p1_2w 3 (nn v6_65)))) + (((1 : Int64) <<< (((3 * (if (4 : Int32) < (p1w 13 (nn v3_33)) then 4 else (p1w 13 (nn v3_33)))) : Int32).toInt64 &&& 63))))) fun (l19 : SL) => (if ixb v6_65 (p1_2n 3) = true then (if ixb (p1_2w 3 (nn v6_65)) (p0n 15) = true then (if ixb (p1_2w 3 (nn v6_65)) (p0n 15) = true then (lt9 (upw p0w_65 15 (nn (p1_2w 3 (nn v6_65))) ((p0w_65 15 (nn (p1_2w 3 (nn v6_65)))) + 1)) fun (w23 : ST) => (if ixb v6_65 (p1_2n 3) = true then (if ixb (p1_2w 3 (nn v6_65)) (p0n 16) = true then (lt9 (upw w23 16 (nn (p1_2w 3 (nn v6_65))) v6_65) fun (w26 : ST) => (fX2_weigh_J208 kk65 p1_2n p1_2w v6_65 w26 l19)) else none) else none)) else none) else none) else none)) else none) else none) else none)) else none)
def fX2_weigh_J104 (kk65 : Int32 → ST → SL → Option (ST × SL)) (p0n : Nat → Nat) (p1w : ST) (p1_2n : Nat → Nat) (p1_2w : ST) (v3_33 : Int32) (v6_65 : Int32) (p0w_65 : ST) (p0l_104 : SL) : Option (ST × SL) := (if ixb v6_65 (p1_2n 2) = true then ((fX11_usesRight (p1_2w 2 (nn v6_65))).bind fun (o_11 : Int32) => (if o_11 = 0 then (fX2_weigh_J151 kk65 p0n p1w p1_2n p1_2w v3_33 v6_65 p0w_65 p0l_104) else (if ixb v6_65 (p1_2n 5) = true then (if ixb v6_65 (p1_2n 4) = true then (if (p1_2w 5 (nn v6_65)) = (p1_2w 4 (nn v6_65)) then (fX2_weigh_J151 kk65 p0n p1w p1_2n p1_2w v3_33 v6_65 p0w_65 p0l_104) else (if ixb v6_65 (p1_2n 5) = true then (if ixb (p1_2w 5 (nn v6_65)) (p0n 14) = true then (if ixb (p1_2w 5 (nn v6_65)) (p0n 14) = true then (lt9 (upl p0l_104 14 (nn (p1_2w 5 (nn v6_65))) ((p0l_104 14 (nn (p1_2w 5 (nn v6_65)))) + (((1 : Int64) <<< (((3 * (if (4 : Int32) < (p1w 13 (nn v3_33)) then 4 else (p1w 13 (nn v3_33)))) : Int32).toInt64 &&& 63))))) fun (l34 : SL) => (fX2_weigh_J151 kk65 p0n p1w p1_2n p1_2w v3_33 v6_65 p0w_65 l34)) else none) else none) else none)) else none) else none))) else none)
def fX2_weigh_L65 (p0n : Nat → Nat) (p1w : ST) (p1_2n : Nat → Nat) (p1_2w : ST) (v3_33 : Int32) : Nat → Int32 → ST → SL → Option (ST × SL)
  | 0 => fun _ _ _ => none
  | n_65 + 1 => fun v6_65 p0w_65 p0l_65 => (if v6_65 < 0 then some (p0w_65, p0l_65) else (if ixb v6_65 (p1_2n 2) = true then ((fX11_usesLeft (p1_2w 2 (nn v6_65))).bind fun (o_8 : Int32) => (if o_8 = 0 then (fX2_weigh_J104 (fX2_weigh_L65 p0n p1w p1_2n p1_2w v3_33 n_65) p0n p1w p1_2n p1_2w v3_33 v6_65 p0w_65 p0l_65) else (if ixb v6_65 (p1_2n 4) = true then (if ixb (p1_2w 4 (nn v6_65)) (p0n 14) = true then (if ixb (p1_2w 4 (nn v6_65)) (p0n 14) = true then (lt9 (upl p0l_65 14 (nn (p1_2w 4 (nn v6_65))) ((p0l_65 14 (nn (p1_2w 4 (nn v6_65)))) + (((1 : Int64) <<< (((3 * (if (4 : Int32) < (p1w 13 (nn v3_33)) then 4 else (p1w 13 (nn v3_33)))) : Int32).toInt64 &&& 63))))) fun (l39 : SL) => (fX2_weigh_J104 (fX2_weigh_L65 p0n p1w p1_2n p1_2w v3_33 n_65) p0n p1w p1_2n p1_2w v3_33 v6_65 p0w_65 l39)) else none) else none) else none))) else none))
def fX2_weigh_J245 (kk33 : Int32 → ST → SL → Option (ST × SL)) (v3_33 : Int32) (o65 : ST × SL) (p0l_245 : SL) : Option (ST × SL) := (kk33 (v3_33 + 1) (o65.1) p0l_245)
def fX2_weigh_L33 (p0n : Nat → Nat) (p1w : ST) (p1_2n : Nat → Nat) (p1_2w : ST) : Nat → Int32 → ST → SL → Option (ST × SL)
  | 0 => fun _ _ _ => none
  | n_33 + 1 => fun v3_33 p0w_33 p0l_33 => (if (p1w 0 0) ≤ v3_33 then some (p0w_33, p0l_33) else (if ixb v3_33 60 = true then (if ixb v3_33 60 = true then ((fX2_weigh_L65 p0n p1w p1_2n p1_2w v3_33 NF (p1w 4 (nn v3_33)) p0w_33 p0l_33).bind fun (o65 : ST × SL) => (if ixb v3_33 60 = true then (if (p1w 9 (nn v3_33)) < 0 then (fX2_weigh_J245 (fX2_weigh_L33 p0n p1w p1_2n p1_2w n_33) v3_33 o65 (o65.2)) else (if ixb v3_33 60 = true then (if ixb (p1w 9 (nn v3_33)) (p0n 14) = true then (if ixb (p1w 9 (nn v3_33)) (p0n 14) = true then (lt9 (upl (o65.2) 14 (nn (p1w 9 (nn v3_33))) ((((o65.2) 14) (nn (p1w 9 (nn v3_33)))) + (((1 : Int64) <<< (((3 * (if (4 : Int32) < (p1w 13 (nn v3_33)) then 4 else (p1w 13 (nn v3_33)))) : Int32).toInt64 &&& 63))))) fun (l45 : SL) => (fX2_weigh_J245 (fX2_weigh_L33 p0n p1w p1_2n p1_2w n_33) v3_33 o65 l45)) else none) else none) else none)) else none)) else none) else none))
def fX2_weigh (p0n : Nat → Nat) (p0w : ST) (p0l : SL) (p1w : ST) (p1_2n : Nat → Nat) (p1_2w : ST) : Option (ST × SL) := ((fJ7_fill_bad5a (p0n 14) (p0l 14) 0 (p0w 0 1) 0).bind fun (o_1 : RL) => ((fJ7_fill_fda19 (p0n 15) (p0w 15) 0 (p0w 0 1) 0).bind fun (o_2 : RI) => ((fX2_weigh_L33 p0n p1w p1_2n p1_2w NF 0 (srw p0w 15 o_2) (srl p0l 14 o_1)).bind fun (o33 : ST × SL) => some ((o33.1), (o33.2)))))
set_option maxHeartbeats 16000000 in
set_option maxRecDepth 100000 in
theorem kX2_weigh {zs : ZS} (l : Launch) (dC : Nat → ClassId) (dI : Nat → Nat → Nat) (p0a : Nat → Nat) (p0k : Nat → ClassId) (p0n : Nat → Nat) (p0w : ST) (p0l : SL) (p1a : Nat → Nat) (p1k : Nat → ClassId) (p1n : Nat → Nat) (p1w : ST) (p1l : SL) (p1_2a : Nat → Nat) (p1_2k : Nat → ClassId) (p1_2n : Nat → Nat) (p1_2w : ST) (sz : Nat) (o : ST × SL) (hrun : fX2_weigh p0n p0w p0l p1w p1_2n p1_2w = some o) : Met l yX2_weigh (wz yX2_weigh cX2_weigh 8 (Option.none : Option Jvm.ClassFile.FieldType)) ({ frames := 2, cells := 0, slots := 0, locals := 47 } : Room) (va_Pc [.ref (p0a 0), .ref (p1a 0)] (PRE zs dC dI (List.flatten ([(oX2 (p0a 0) p0a p0k p0n p0w p0l), (oX1 (p1a 0) p1a p1k p1n p1w p1l), (oX9 (p1a 3) p1_2a p1_2k p1_2n p1_2w)] : List va_W)) (List.flatten ([(tX2 p0k), (tX1 p1k), (tX9 p1_2k)] : List (List (ClassId × FieldType)))) sz)) (va_Qv (fun (_ : Unit) => True) (fun _ t => POST dC dI (List.flatten ([(oX2 (p0a 0) p0a p0k p0n (o.1) (o.2)), (oX1 (p1a 0) p1a p1k p1n p1w p1l), (oX9 (p1a 3) p1_2a p1_2k p1_2n p1_2w)] : List va_W)) (List.flatten ([(tX2 p0k), (tX1 p1k), (tX9 p1_2k)] : List (List (ClassId × FieldType)))) (va_A (List.flatten ([(oX2 (p0a 0) p0a p0k p0n p0w p0l), (oX1 (p1a 0) p1a p1k p1n p1w p1l), (oX9 (p1a 3) p1_2a p1_2k p1_2n p1_2w)] : List va_W)) sz) t) (va_A (List.flatten ([(oX2 (p0a 0) p0a p0k p0n p0w p0l), (oX1 (p1a 0) p1a p1k p1n p1w p1l), (oX9 (p1a 3) p1_2a p1_2k p1_2n p1_2w)] : List va_W)) sz)) 0 0 (va_A (List.flatten ([(oX2 (p0a 0) p0a p0k p0n p0w p0l), (oX1 (p1a 0) p1a p1k p1n p1w p1l), (oX9 (p1a 3) p1_2a p1_2k p1_2n p1_2w)] : List va_W)) sz) := by
  refine Met.ofW (cc := cX2_weigh) (maxL := 8) (ret := (Option.none : Option Jvm.ClassFile.FieldType)) (by decide) rfl ?_
  intro p e s m args below meth c s₁ B hml hv
  obtain ⟨rfl, hsz, hP, hK, hD0, hE⟩ := hv
  have hx := B.exec
  have hb := B.bytes
  have hr := B.returns
  have hts0 := atoms_spec (ws := wz yX2_weigh cX2_weigh 8 (Option.none : Option Jvm.ClassFile.FieldType)) B.pre
  have hts : ∀ w ∈ gw, w.before _ s = true := fun w h => hts0 w (List.mem_cons_of_mem _ h)
  have hown : s.vm.findClass RX2 = some m.cls := findClass_of_methodNamed B.named
  have hlocks := B.notSynchronized
  subst hsz
  have hD := hD0.self (sz := s.heap.size)
  refine gQ9 ?_
  intro Q hQ
  generalize hAe : va_A (List.flatten ([(oX2 (p0a 0) p0a p0k p0n p0w p0l), (oX1 (p1a 0) p1a p1k p1n p1w p1l), (oX9 (p1a 3) p1_2a p1_2k p1_2n p1_2w)] : List va_W)) s.heap.size = A at hD hE hQ
  have hA : ∀ q : Nat, s.heap.size ≤ q → A q := fun q h => by rw [← hAe]; exact Or.inr h
  have hS : va_S A s.heap s.heap [] := va_S.rf
  have hP : va_P (dC, dI) cls (List.flatten ([(oX2 (p0a 0) p0a p0k p0n p0w p0l), (oX1 (p1a 0) p1a p1k p1n p1w p1l), (oX9 (p1a 3) p1_2a p1_2k p1_2n p1_2w)] : List va_W)) s.heap := hP
  have hl := lv_entry ([.ref (p0a 0), .ref (p1a 0)]) (n := 8) (Nat.le_of_ble_eq_true rfl)
  rw [lg_entry_eq]
  generalize (lg_sl ([.ref (p0a 0), .ref (p1a 0)]) ++ List.replicate (8 - (lg_sl ([.ref (p0a 0), .ref (p1a 0)])).length) Slot.unset).toArray = ls at hl ⊢
  have hl : lv_has ls 8 [(0, .ref (p0a 0)), (1, .ref (p1a 0))] := hl
  obtain ⟨H, hHe⟩ : ∃ H, H = s.heap := ⟨_, rfl⟩
  obtain ⟨locs, hle⟩ : ∃ locs : List Loc, locs = [] := ⟨_, rfl⟩
  rw [← hHe] at hP
  have hS : va_S A s.heap H locs := by rw [hHe, hle]; exact hS
  show W p l e ({ frames := 2, cells := 0, slots := 0, locals := 47 } : Room) s m ([.ref (p0a 0), .ref (p1a 0)] : List Value).toArray below meth c s.heap [] 0 0 Q (F0 m 0 ls [])
  rw [← hle]
  refine wH9 hHe ?_
  unfold fX2_weigh at hrun
  refine lv_aload_n hx hb dX2_weigh_0 rfl (lv_at hl 0 rfl) ?_
  refine va_get (D := (dC, dI)) (ci := 9) (v := .ref (p0a 14)) (C := RX2) (T := TX2) (N := 19) hx hb hts i_X2 hown hK hP 0 rfl rfl 13 (by decide) (hts _ qw684) (fun _ h9 => h9) rfl dX2_weigh_1 ?_
  refine lv_iconst (v := 0) hx hb dX2_weigh_4 (by decide) ?_
  refine lv_aload_n hx hb dX2_weigh_5 rfl (lv_at hl 0 rfl) ?_
  refine va_get (D := (dC, dI)) (ci := 9) (v := .int (p0w 0 1)) (C := RX2) (T := TX2) (N := 19) hx hb hts i_X2 hown hK hP 0 rfl rfl 1 (by decide) (hts _ qw668) (fun _ h9 => h9) rfl dX2_weigh_6 ?_
  refine lv_lconst (v := 0) hx hb dX2_weigh_9 (by decide) ?_
  obtain ⟨o_1, hc_1, hrun⟩ := bnd9 hrun
  have hP2 : va_P (dC, dI) cls (List.flatten ([[((p0a 14), .inl ((p0k 14), (p0n 14), .inr (.inl (p0l 14))))], [((p0a 0), .inr (9, [.int (p0w 0 0), .int (p0w 0 1), .int (p0w 0 2), .ref (p0a 4), .ref (p0a 5), .ref (p0a 6), .ref (p0a 7), .ref (p0a 8), .int (p0w 0 8), .ref (p0a 10), .ref (p0a 11), .ref (p0a 12), .ref (p0a 13), .ref (p0a 14), .ref (p0a 15), .ref (p0a 16), .ref (p0a 17), .ref (p0a 18), .ref (p0a 19)])), ((p0a 4), .inl ((p0k 4), (p0n 4), .inr (.inl (p0l 4)))), ((p0a 5), .inl ((p0k 5), (p0n 5), .inr (.inl (p0l 5)))), ((p0a 6), .inl ((p0k 6), (p0n 6), .inr (.inl (p0l 6)))), ((p0a 7), .inl ((p0k 7), (p0n 7), .inr (.inl (p0l 7)))), ((p0a 8), .inl ((p0k 8), 2, .inl (p0w 8))), ((p0a 10), .inl ((p0k 10), (p0n 10), .inl (p0w 10))), ((p0a 11), .inl ((p0k 11), (p0n 11), .inr (.inl (p0l 11)))), ((p0a 12), .inl ((p0k 12), (p0n 12), .inl (p0w 12))), ((p0a 13), .inl ((p0k 13), (p0n 13), .inl (p0w 13))), ((p0a 15), .inl ((p0k 15), (p0n 15), .inl (p0w 15))), ((p0a 16), .inl ((p0k 16), (p0n 16), .inl (p0w 16))), ((p0a 17), .inl ((p0k 17), (p0n 17), .inl (p0w 17))), ((p0a 18), .inl ((p0k 18), (p0n 18), .inl (p0w 18))), ((p0a 19), .inl ((p0k 19), (p0n 19), .inl (p0w 19)))], (oX1 (p1a 0) p1a p1k p1n p1w p1l), (oX9 (p1a 3) p1_2a p1_2k p1_2n p1_2w)] : List va_W)) H := vP_perm hP ((bP (List.Perm.refl _)).trans (List.Perm.append_right _ (List.perm_middle (a := (((p0a 14), .inl ((p0k 14), (p0n 14), .inr (.inl (p0l 14)))) : Nat × va_E)) (l₁ := ([((p0a 0), .inr (9, [.int (p0w 0 0), .int (p0w 0 1), .int (p0w 0 2), .ref (p0a 4), .ref (p0a 5), .ref (p0a 6), .ref (p0a 7), .ref (p0a 8), .int (p0w 0 8), .ref (p0a 10), .ref (p0a 11), .ref (p0a 12), .ref (p0a 13), .ref (p0a 14), .ref (p0a 15), .ref (p0a 16), .ref (p0a 17), .ref (p0a 18), .ref (p0a 19)])), ((p0a 4), .inl ((p0k 4), (p0n 4), .inr (.inl (p0l 4)))), ((p0a 5), .inl ((p0k 5), (p0n 5), .inr (.inl (p0l 5)))), ((p0a 6), .inl ((p0k 6), (p0n 6), .inr (.inl (p0l 6)))), ((p0a 7), .inl ((p0k 7), (p0n 7), .inr (.inl (p0l 7)))), ((p0a 8), .inl ((p0k 8), 2, .inl (p0w 8))), ((p0a 10), .inl ((p0k 10), (p0n 10), .inl (p0w 10))), ((p0a 11), .inl ((p0k 11), (p0n 11), .inr (.inl (p0l 11)))), ((p0a 12), .inl ((p0k 12), (p0n 12), .inl (p0w 12))), ((p0a 13), .inl ((p0k 13), (p0n 13), .inl (p0w 13)))] : va_W)) (l₂ := ([((p0a 15), .inl ((p0k 15), (p0n 15), .inl (p0w 15))), ((p0a 16), .inl ((p0k 16), (p0n 16), .inl (p0w 16))), ((p0a 17), .inl ((p0k 17), (p0n 17), .inl (p0w 17))), ((p0a 18), .inl ((p0k 18), (p0n 18), .inl (p0w 18))), ((p0a 19), .inl ((p0k 19), (p0n 19), .inl (p0w 19)))] : va_W)))))
  have hD2 : va_D A (List.flatten ([[((p0a 14), .inl ((p0k 14), (p0n 14), .inr (.inl (p0l 14))))], [((p0a 0), .inr (9, [.int (p0w 0 0), .int (p0w 0 1), .int (p0w 0 2), .ref (p0a 4), .ref (p0a 5), .ref (p0a 6), .ref (p0a 7), .ref (p0a 8), .int (p0w 0 8), .ref (p0a 10), .ref (p0a 11), .ref (p0a 12), .ref (p0a 13), .ref (p0a 14), .ref (p0a 15), .ref (p0a 16), .ref (p0a 17), .ref (p0a 18), .ref (p0a 19)])), ((p0a 4), .inl ((p0k 4), (p0n 4), .inr (.inl (p0l 4)))), ((p0a 5), .inl ((p0k 5), (p0n 5), .inr (.inl (p0l 5)))), ((p0a 6), .inl ((p0k 6), (p0n 6), .inr (.inl (p0l 6)))), ((p0a 7), .inl ((p0k 7), (p0n 7), .inr (.inl (p0l 7)))), ((p0a 8), .inl ((p0k 8), 2, .inl (p0w 8))), ((p0a 10), .inl ((p0k 10), (p0n 10), .inl (p0w 10))), ((p0a 11), .inl ((p0k 11), (p0n 11), .inr (.inl (p0l 11)))), ((p0a 12), .inl ((p0k 12), (p0n 12), .inl (p0w 12))), ((p0a 13), .inl ((p0k 13), (p0n 13), .inl (p0w 13))), ((p0a 15), .inl ((p0k 15), (p0n 15), .inl (p0w 15))), ((p0a 16), .inl ((p0k 16), (p0n 16), .inl (p0w 16))), ((p0a 17), .inl ((p0k 17), (p0n 17), .inl (p0w 17))), ((p0a 18), .inl ((p0k 18), (p0n 18), .inl (p0w 18))), ((p0a 19), .inl ((p0k 19), (p0n 19), .inl (p0w 19)))], (oX1 (p1a 0) p1a p1k p1n p1w p1l), (oX9 (p1a 3) p1_2a p1_2k p1_2n p1_2w)] : List va_W)) := vD_perm hD ((bP (List.Perm.refl _)).trans (List.Perm.append_right _ (List.perm_middle (a := (((p0a 14), .inl ((p0k 14), (p0n 14), .inr (.inl (p0l 14)))) : Nat × va_E)) (l₁ := ([((p0a 0), .inr (9, [.int (p0w 0 0), .int (p0w 0 1), .int (p0w 0 2), .ref (p0a 4), .ref (p0a 5), .ref (p0a 6), .ref (p0a 7), .ref (p0a 8), .int (p0w 0 8), .ref (p0a 10), .ref (p0a 11), .ref (p0a 12), .ref (p0a 13), .ref (p0a 14), .ref (p0a 15), .ref (p0a 16), .ref (p0a 17), .ref (p0a 18), .ref (p0a 19)])), ((p0a 4), .inl ((p0k 4), (p0n 4), .inr (.inl (p0l 4)))), ((p0a 5), .inl ((p0k 5), (p0n 5), .inr (.inl (p0l 5)))), ((p0a 6), .inl ((p0k 6), (p0n 6), .inr (.inl (p0l 6)))), ((p0a 7), .inl ((p0k 7), (p0n 7), .inr (.inl (p0l 7)))), ((p0a 8), .inl ((p0k 8), 2, .inl (p0w 8))), ((p0a 10), .inl ((p0k 10), (p0n 10), .inl (p0w 10))), ((p0a 11), .inl ((p0k 11), (p0n 11), .inr (.inl (p0l 11)))), ((p0a 12), .inl ((p0k 12), (p0n 12), .inl (p0w 12))), ((p0a 13), .inl ((p0k 13), (p0n 13), .inl (p0w 13)))] : va_W)) (l₂ := ([((p0a 15), .inl ((p0k 15), (p0n 15), .inl (p0w 15))), ((p0a 16), .inl ((p0k 16), (p0n 16), .inl (p0w 16))), ((p0a 17), .inl ((p0k 17), (p0n 17), .inl (p0w 17))), ((p0a 18), .inl ((p0k 18), (p0n 18), .inl (p0w 18))), ((p0a 19), .inl ((p0k 19), (p0n 19), .inl (p0w 19)))] : va_W)))))
  have hK2 : va_K (dC, dI) cls (List.flatten ([[((p0k 14), .long)], [((p0k 4), .long), ((p0k 5), .long), ((p0k 6), .long), ((p0k 7), .long), ((p0k 8), .int), ((p0k 10), .int), ((p0k 11), .long), ((p0k 12), .int), ((p0k 13), .int), ((p0k 15), .int), ((p0k 16), .int), ((p0k 17), .int), ((p0k 18), .int), ((p0k 19), .int)], (tX1 p1k), (tX9 p1_2k)] : List (List (ClassId × FieldType)))) s := vK_perm hK ((bP (List.Perm.refl _)).trans (List.Perm.append_right _ (List.perm_middle (a := (((p0k 14), .long) : ClassId × FieldType)) (l₁ := ([((p0k 4), .long), ((p0k 5), .long), ((p0k 6), .long), ((p0k 7), .long), ((p0k 8), .int), ((p0k 10), .int), ((p0k 11), .long), ((p0k 12), .int), ((p0k 13), .int)] : List (ClassId × FieldType))) (l₂ := ([((p0k 15), .int), ((p0k 16), .int), ((p0k 17), .int), ((p0k 18), .int), ((p0k 19), .int)] : List (ClassId × FieldType))))))
  have hPx : va_P (dC, dI) cls ((List.flatten ([[((p0a 14), .inl ((p0k 14), (p0n 14), .inr (.inl (p0l 14))))]] : List va_W)) ++ (List.flatten ([[((p0a 0), .inr (9, [.int (p0w 0 0), .int (p0w 0 1), .int (p0w 0 2), .ref (p0a 4), .ref (p0a 5), .ref (p0a 6), .ref (p0a 7), .ref (p0a 8), .int (p0w 0 8), .ref (p0a 10), .ref (p0a 11), .ref (p0a 12), .ref (p0a 13), .ref (p0a 14), .ref (p0a 15), .ref (p0a 16), .ref (p0a 17), .ref (p0a 18), .ref (p0a 19)])), ((p0a 4), .inl ((p0k 4), (p0n 4), .inr (.inl (p0l 4)))), ((p0a 5), .inl ((p0k 5), (p0n 5), .inr (.inl (p0l 5)))), ((p0a 6), .inl ((p0k 6), (p0n 6), .inr (.inl (p0l 6)))), ((p0a 7), .inl ((p0k 7), (p0n 7), .inr (.inl (p0l 7)))), ((p0a 8), .inl ((p0k 8), 2, .inl (p0w 8))), ((p0a 10), .inl ((p0k 10), (p0n 10), .inl (p0w 10))), ((p0a 11), .inl ((p0k 11), (p0n 11), .inr (.inl (p0l 11)))), ((p0a 12), .inl ((p0k 12), (p0n 12), .inl (p0w 12))), ((p0a 13), .inl ((p0k 13), (p0n 13), .inl (p0w 13))), ((p0a 15), .inl ((p0k 15), (p0n 15), .inl (p0w 15))), ((p0a 16), .inl ((p0k 16), (p0n 16), .inl (p0w 16))), ((p0a 17), .inl ((p0k 17), (p0n 17), .inl (p0w 17))), ((p0a 18), .inl ((p0k 18), (p0n 18), .inl (p0w 18))), ((p0a 19), .inl ((p0k 19), (p0n 19), .inl (p0w 19)))], (oX1 (p1a 0) p1a p1k p1n p1w p1l), (oX9 (p1a 3) p1_2a p1_2k p1_2n p1_2w)] : List va_W))) H := vP_fa (vP_perm hP2 (bP (List.Perm.refl _)))
  have hDx : va_D A ((List.flatten ([[((p0a 14), .inl ((p0k 14), (p0n 14), .inr (.inl (p0l 14))))]] : List va_W)) ++ (List.flatten ([[((p0a 0), .inr (9, [.int (p0w 0 0), .int (p0w 0 1), .int (p0w 0 2), .ref (p0a 4), .ref (p0a 5), .ref (p0a 6), .ref (p0a 7), .ref (p0a 8), .int (p0w 0 8), .ref (p0a 10), .ref (p0a 11), .ref (p0a 12), .ref (p0a 13), .ref (p0a 14), .ref (p0a 15), .ref (p0a 16), .ref (p0a 17), .ref (p0a 18), .ref (p0a 19)])), ((p0a 4), .inl ((p0k 4), (p0n 4), .inr (.inl (p0l 4)))), ((p0a 5), .inl ((p0k 5), (p0n 5), .inr (.inl (p0l 5)))), ((p0a 6), .inl ((p0k 6), (p0n 6), .inr (.inl (p0l 6)))), ((p0a 7), .inl ((p0k 7), (p0n 7), .inr (.inl (p0l 7)))), ((p0a 8), .inl ((p0k 8), 2, .inl (p0w 8))), ((p0a 10), .inl ((p0k 10), (p0n 10), .inl (p0w 10))), ((p0a 11), .inl ((p0k 11), (p0n 11), .inr (.inl (p0l 11)))), ((p0a 12), .inl ((p0k 12), (p0n 12), .inl (p0w 12))), ((p0a 13), .inl ((p0k 13), (p0n 13), .inl (p0w 13))), ((p0a 15), .inl ((p0k 15), (p0n 15), .inl (p0w 15))), ((p0a 16), .inl ((p0k 16), (p0n 16), .inl (p0w 16))), ((p0a 17), .inl ((p0k 17), (p0n 17), .inl (p0w 17))), ((p0a 18), .inl ((p0k 18), (p0n 18), .inl (p0w 18))), ((p0a 19), .inl ((p0k 19), (p0n 19), .inl (p0w 19)))], (oX1 (p1a 0) p1a p1k p1n p1w p1l), (oX9 (p1a 3) p1_2a p1_2k p1_2n p1_2w)] : List va_W))) := vD_fa (vD_perm hD2 (bP (List.Perm.refl _)))
  have hKx : va_K (dC, dI) cls ((List.flatten ([[((p0k 14), .long)]] : List (List (ClassId × FieldType)))) ++ (List.flatten ([[((p0k 4), .long), ((p0k 5), .long), ((p0k 6), .long), ((p0k 7), .long), ((p0k 8), .int), ((p0k 10), .int), ((p0k 11), .long), ((p0k 12), .int), ((p0k 13), .int), ((p0k 15), .int), ((p0k 16), .int), ((p0k 17), .int), ((p0k 18), .int), ((p0k 19), .int)], (tX1 p1k), (tX9 p1_2k)] : List (List (ClassId × FieldType))))) s := vK_fa (vK_perm hK2 (bP (List.Perm.refl _)))
  have hPc := vP_l hPx
  have hDc := vD_l hDx
  have hKc := vK_l hKx
  have hFc := vfree hDx hS hA
  refine va_callv (va_runS (As := [.ref (p0a 14), .int 0, .int (p0w 0 1), .long 0]) (rest := []) ⟨hx, hb, hml, hown, hts⟩ (kJ7_fill_bad5a l dC dI (p0a := (p0a 14)) (p0k := (p0k 14)) (p0n := (p0n 14)) (p0f := (p0l 14)) (p1 := 0) (p2 := (p0w 0 1)) (p3 := 0) (sz := _) (o := o_1) (hrun := hc_1)) (va_cwS 4 hts (gi_S qw696 qw697 qw109 (gi_z qw695)) rfl rfl rfl (by decide +kernel) ⟨Nat.le_of_ble_eq_true rfl, Nat.le_of_ble_eq_true rfl⟩) ⟨PRE.blind, PRE.of hE hS hFc hPc hKc hDc⟩ rfl rfl hl.1 rfl (lv_room (Nat.le_of_ble_eq_true rfl)) dX2_weigh_10 ⟨(Nat.le_of_ble_eq_true rfl), (Nat.le_of_ble_eq_true rfl)⟩) hS (fun q _ h => hFc q h) hFc (fun u t H locs ht hvm hw hB hz1 hk1 hS => ?_)
  obtain ⟨b1, b2, b3⟩ := hB
  rw [ht] at b1
  obtain ⟨hP, hD, hK⟩ := JOINC (wc := (List.flatten ([[((p0a 14), .inl ((p0k 14), (p0n 14), .inr (.inl (p0l 14))))]] : List va_W))) (wr := (List.flatten ([[((p0a 0), .inr (9, [.int (p0w 0 0), .int (p0w 0 1), .int (p0w 0 2), .ref (p0a 4), .ref (p0a 5), .ref (p0a 6), .ref (p0a 7), .ref (p0a 8), .int (p0w 0 8), .ref (p0a 10), .ref (p0a 11), .ref (p0a 12), .ref (p0a 13), .ref (p0a 14), .ref (p0a 15), .ref (p0a 16), .ref (p0a 17), .ref (p0a 18), .ref (p0a 19)])), ((p0a 4), .inl ((p0k 4), (p0n 4), .inr (.inl (p0l 4)))), ((p0a 5), .inl ((p0k 5), (p0n 5), .inr (.inl (p0l 5)))), ((p0a 6), .inl ((p0k 6), (p0n 6), .inr (.inl (p0l 6)))), ((p0a 7), .inl ((p0k 7), (p0n 7), .inr (.inl (p0l 7)))), ((p0a 8), .inl ((p0k 8), 2, .inl (p0w 8))), ((p0a 10), .inl ((p0k 10), (p0n 10), .inl (p0w 10))), ((p0a 11), .inl ((p0k 11), (p0n 11), .inr (.inl (p0l 11)))), ((p0a 12), .inl ((p0k 12), (p0n 12), .inl (p0w 12))), ((p0a 13), .inl ((p0k 13), (p0n 13), .inl (p0w 13))), ((p0a 15), .inl ((p0k 15), (p0n 15), .inl (p0w 15))), ((p0a 16), .inl ((p0k 16), (p0n 16), .inl (p0w 16))), ((p0a 17), .inl ((p0k 17), (p0n 17), .inl (p0w 17))), ((p0a 18), .inl ((p0k 18), (p0n 18), .inl (p0w 18))), ((p0a 19), .inl ((p0k 19), (p0n 19), .inl (p0w 19)))], (oX1 (p1a 0) p1a p1k p1n p1w p1l), (oX9 (p1a 3) p1_2a p1_2k p1_2n p1_2w)] : List va_W))) (w1 := (List.flatten ([[((p0a 14), .inl ((p0k 14), (p0n 14), .inr (.inl ((srl p0l 14 o_1) 14))))]] : List va_W))) (t1 := (List.flatten ([[((p0k 14), .long)]] : List (List (ClassId × FieldType))))) hPx hDx hKx hk1 hFc b1 (va_K.moved hvm.symm b2) b3
  have hP3 : va_P (dC, dI) cls (List.flatten ([(oX2 (p0a 0) p0a p0k p0n p0w (srl p0l 14 o_1)), (oX1 (p1a 0) p1a p1k p1n p1w p1l), (oX9 (p1a 3) p1_2a p1_2k p1_2n p1_2w)] : List va_W)) H := vP_perm (vP_fb hP) ((bP (List.Perm.refl _)).trans (List.Perm.append_right _ (List.perm_middle (a := (((p0a 14), .inl ((p0k 14), (p0n 14), .inr (.inl ((srl p0l 14 o_1) 14)))) : Nat × va_E)) (l₁ := ([((p0a 0), .inr (9, [.int (p0w 0 0), .int (p0w 0 1), .int (p0w 0 2), .ref (p0a 4), .ref (p0a 5), .ref (p0a 6), .ref (p0a 7), .ref (p0a 8), .int (p0w 0 8), .ref (p0a 10), .ref (p0a 11), .ref (p0a 12), .ref (p0a 13), .ref (p0a 14), .ref (p0a 15), .ref (p0a 16), .ref (p0a 17), .ref (p0a 18), .ref (p0a 19)])), ((p0a 4), .inl ((p0k 4), (p0n 4), .inr (.inl ((srl p0l 14 o_1) 4)))), ((p0a 5), .inl ((p0k 5), (p0n 5), .inr (.inl ((srl p0l 14 o_1) 5)))), ((p0a 6), .inl ((p0k 6), (p0n 6), .inr (.inl ((srl p0l 14 o_1) 6)))), ((p0a 7), .inl ((p0k 7), (p0n 7), .inr (.inl ((srl p0l 14 o_1) 7)))), ((p0a 8), .inl ((p0k 8), 2, .inl (p0w 8))), ((p0a 10), .inl ((p0k 10), (p0n 10), .inl (p0w 10))), ((p0a 11), .inl ((p0k 11), (p0n 11), .inr (.inl ((srl p0l 14 o_1) 11)))), ((p0a 12), .inl ((p0k 12), (p0n 12), .inl (p0w 12))), ((p0a 13), .inl ((p0k 13), (p0n 13), .inl (p0w 13)))] : va_W)) (l₂ := ([((p0a 15), .inl ((p0k 15), (p0n 15), .inl (p0w 15))), ((p0a 16), .inl ((p0k 16), (p0n 16), .inl (p0w 16))), ((p0a 17), .inl ((p0k 17), (p0n 17), .inl (p0w 17))), ((p0a 18), .inl ((p0k 18), (p0n 18), .inl (p0w 18))), ((p0a 19), .inl ((p0k 19), (p0n 19), .inl (p0w 19)))] : va_W))).symm))
  have hD3 : va_D A (List.flatten ([(oX2 (p0a 0) p0a p0k p0n p0w (srl p0l 14 o_1)), (oX1 (p1a 0) p1a p1k p1n p1w p1l), (oX9 (p1a 3) p1_2a p1_2k p1_2n p1_2w)] : List va_W)) := vD_perm (vD_fb hD) ((bP (List.Perm.refl _)).trans (List.Perm.append_right _ (List.perm_middle (a := (((p0a 14), .inl ((p0k 14), (p0n 14), .inr (.inl ((srl p0l 14 o_1) 14)))) : Nat × va_E)) (l₁ := ([((p0a 0), .inr (9, [.int (p0w 0 0), .int (p0w 0 1), .int (p0w 0 2), .ref (p0a 4), .ref (p0a 5), .ref (p0a 6), .ref (p0a 7), .ref (p0a 8), .int (p0w 0 8), .ref (p0a 10), .ref (p0a 11), .ref (p0a 12), .ref (p0a 13), .ref (p0a 14), .ref (p0a 15), .ref (p0a 16), .ref (p0a 17), .ref (p0a 18), .ref (p0a 19)])), ((p0a 4), .inl ((p0k 4), (p0n 4), .inr (.inl ((srl p0l 14 o_1) 4)))), ((p0a 5), .inl ((p0k 5), (p0n 5), .inr (.inl ((srl p0l 14 o_1) 5)))), ((p0a 6), .inl ((p0k 6), (p0n 6), .inr (.inl ((srl p0l 14 o_1) 6)))), ((p0a 7), .inl ((p0k 7), (p0n 7), .inr (.inl ((srl p0l 14 o_1) 7)))), ((p0a 8), .inl ((p0k 8), 2, .inl (p0w 8))), ((p0a 10), .inl ((p0k 10), (p0n 10), .inl (p0w 10))), ((p0a 11), .inl ((p0k 11), (p0n 11), .inr (.inl ((srl p0l 14 o_1) 11)))), ((p0a 12), .inl ((p0k 12), (p0n 12), .inl (p0w 12))), ((p0a 13), .inl ((p0k 13), (p0n 13), .inl (p0w 13)))] : va_W)) (l₂ := ([((p0a 15), .inl ((p0k 15), (p0n 15), .inl (p0w 15))), ((p0a 16), .inl ((p0k 16), (p0n 16), .inl (p0w 16))), ((p0a 17), .inl ((p0k 17), (p0n 17), .inl (p0w 17))), ((p0a 18), .inl ((p0k 18), (p0n 18), .inl (p0w 18))), ((p0a 19), .inl ((p0k 19), (p0n 19), .inl (p0w 19)))] : va_W))).symm))
  have hK3 : va_K (dC, dI) cls (List.flatten ([(tX2 p0k), (tX1 p1k), (tX9 p1_2k)] : List (List (ClassId × FieldType)))) s := vK_perm (vK_fb hK) ((bP (List.Perm.refl _)).trans (List.Perm.append_right _ (List.perm_middle (a := (((p0k 14), .long) : ClassId × FieldType)) (l₁ := ([((p0k 4), .long), ((p0k 5), .long), ((p0k 6), .long), ((p0k 7), .long), ((p0k 8), .int), ((p0k 10), .int), ((p0k 11), .long), ((p0k 12), .int), ((p0k 13), .int)] : List (ClassId × FieldType))) (l₂ := ([((p0k 15), .int), ((p0k 16), .int), ((p0k 17), .int), ((p0k 18), .int), ((p0k 19), .int)] : List (ClassId × FieldType)))).symm))
  have hP : va_P (dC, dI) cls (List.flatten ([(oX2 (p0a 0) p0a p0k p0n p0w (srl p0l 14 o_1)), (oX1 (p1a 0) p1a p1k p1n p1w p1l), (oX9 (p1a 3) p1_2a p1_2k p1_2n p1_2w)] : List va_W)) H := vP_perm hP3 (bP (List.Perm.refl _))
  have hD : va_D A (List.flatten ([(oX2 (p0a 0) p0a p0k p0n p0w (srl p0l 14 o_1)), (oX1 (p1a 0) p1a p1k p1n p1w p1l), (oX9 (p1a 3) p1_2a p1_2k p1_2n p1_2w)] : List va_W)) := vD_perm hD3 (bP (List.Perm.refl _))
  have hK : va_K (dC, dI) cls (List.flatten ([(tX2 p0k), (tX1 p1k), (tX9 p1_2k)] : List (List (ClassId × FieldType)))) s := vK_perm hK3 (bP (List.Perm.refl _))
  refine lv_aload_n hx hb dX2_weigh_13 rfl (lv_at hl 0 rfl) ?_
  refine va_get (D := (dC, dI)) (ci := 9) (v := .ref (p0a 15)) (C := RX2) (T := TX2) (N := 19) hx hb hts i_X2 hown hK hP 0 rfl rfl 14 (by decide) (hts _ qw685) (fun _ h9 => h9) rfl dX2_weigh_14 ?_
  refine lv_iconst (v := 0) hx hb dX2_weigh_17 (by decide) ?_
  refine lv_aload_n hx hb dX2_weigh_18 rfl (lv_at hl 0 rfl) ?_
  refine va_get (D := (dC, dI)) (ci := 9) (v := .int (p0w 0 1)) (C := RX2) (T := TX2) (N := 19) hx hb hts i_X2 hown hK hP 0 rfl rfl 1 (by decide) (hts _ qw668) (fun _ h9 => h9) rfl dX2_weigh_19 ?_
  refine lv_iconst (v := 0) hx hb dX2_weigh_22 (by decide) ?_
  obtain ⟨o_2, hc_2, hrun⟩ := bnd9 hrun
  have hP2 : va_P (dC, dI) cls (List.flatten ([[((p0a 15), .inl ((p0k 15), (p0n 15), .inl (p0w 15)))], [((p0a 0), .inr (9, [.int (p0w 0 0), .int (p0w 0 1), .int (p0w 0 2), .ref (p0a 4), .ref (p0a 5), .ref (p0a 6), .ref (p0a 7), .ref (p0a 8), .int (p0w 0 8), .ref (p0a 10), .ref (p0a 11), .ref (p0a 12), .ref (p0a 13), .ref (p0a 14), .ref (p0a 15), .ref (p0a 16), .ref (p0a 17), .ref (p0a 18), .ref (p0a 19)])), ((p0a 4), .inl ((p0k 4), (p0n 4), .inr (.inl ((srl p0l 14 o_1) 4)))), ((p0a 5), .inl ((p0k 5), (p0n 5), .inr (.inl ((srl p0l 14 o_1) 5)))), ((p0a 6), .inl ((p0k 6), (p0n 6), .inr (.inl ((srl p0l 14 o_1) 6)))), ((p0a 7), .inl ((p0k 7), (p0n 7), .inr (.inl ((srl p0l 14 o_1) 7)))), ((p0a 8), .inl ((p0k 8), 2, .inl (p0w 8))), ((p0a 10), .inl ((p0k 10), (p0n 10), .inl (p0w 10))), ((p0a 11), .inl ((p0k 11), (p0n 11), .inr (.inl ((srl p0l 14 o_1) 11)))), ((p0a 12), .inl ((p0k 12), (p0n 12), .inl (p0w 12))), ((p0a 13), .inl ((p0k 13), (p0n 13), .inl (p0w 13))), ((p0a 14), .inl ((p0k 14), (p0n 14), .inr (.inl ((srl p0l 14 o_1) 14)))), ((p0a 16), .inl ((p0k 16), (p0n 16), .inl (p0w 16))), ((p0a 17), .inl ((p0k 17), (p0n 17), .inl (p0w 17))), ((p0a 18), .inl ((p0k 18), (p0n 18), .inl (p0w 18))), ((p0a 19), .inl ((p0k 19), (p0n 19), .inl (p0w 19)))], (oX1 (p1a 0) p1a p1k p1n p1w p1l), (oX9 (p1a 3) p1_2a p1_2k p1_2n p1_2w)] : List va_W)) H := vP_perm hP ((bP (List.Perm.refl _)).trans (List.Perm.append_right _ (List.perm_middle (a := (((p0a 15), .inl ((p0k 15), (p0n 15), .inl (p0w 15))) : Nat × va_E)) (l₁ := ([((p0a 0), .inr (9, [.int (p0w 0 0), .int (p0w 0 1), .int (p0w 0 2), .ref (p0a 4), .ref (p0a 5), .ref (p0a 6), .ref (p0a 7), .ref (p0a 8), .int (p0w 0 8), .ref (p0a 10), .ref (p0a 11), .ref (p0a 12), .ref (p0a 13), .ref (p0a 14), .ref (p0a 15), .ref (p0a 16), .ref (p0a 17), .ref (p0a 18), .ref (p0a 19)])), ((p0a 4), .inl ((p0k 4), (p0n 4), .inr (.inl ((srl p0l 14 o_1) 4)))), ((p0a 5), .inl ((p0k 5), (p0n 5), .inr (.inl ((srl p0l 14 o_1) 5)))), ((p0a 6), .inl ((p0k 6), (p0n 6), .inr (.inl ((srl p0l 14 o_1) 6)))), ((p0a 7), .inl ((p0k 7), (p0n 7), .inr (.inl ((srl p0l 14 o_1) 7)))), ((p0a 8), .inl ((p0k 8), 2, .inl (p0w 8))), ((p0a 10), .inl ((p0k 10), (p0n 10), .inl (p0w 10))), ((p0a 11), .inl ((p0k 11), (p0n 11), .inr (.inl ((srl p0l 14 o_1) 11)))), ((p0a 12), .inl ((p0k 12), (p0n 12), .inl (p0w 12))), ((p0a 13), .inl ((p0k 13), (p0n 13), .inl (p0w 13))), ((p0a 14), .inl ((p0k 14), (p0n 14), .inr (.inl ((srl p0l 14 o_1) 14))))] : va_W)) (l₂ := ([((p0a 16), .inl ((p0k 16), (p0n 16), .inl (p0w 16))), ((p0a 17), .inl ((p0k 17), (p0n 17), .inl (p0w 17))), ((p0a 18), .inl ((p0k 18), (p0n 18), .inl (p0w 18))), ((p0a 19), .inl ((p0k 19), (p0n 19), .inl (p0w 19)))] : va_W)))))
  have hD2 : va_D A (List.flatten ([[((p0a 15), .inl ((p0k 15), (p0n 15), .inl (p0w 15)))], [((p0a 0), .inr (9, [.int (p0w 0 0), .int (p0w 0 1), .int (p0w 0 2), .ref (p0a 4), .ref (p0a 5), .ref (p0a 6), .ref (p0a 7), .ref (p0a 8), .int (p0w 0 8), .ref (p0a 10), .ref (p0a 11), .ref (p0a 12), .ref (p0a 13), .ref (p0a 14), .ref (p0a 15), .ref (p0a 16), .ref (p0a 17), .ref (p0a 18), .ref (p0a 19)])), ((p0a 4), .inl ((p0k 4), (p0n 4), .inr (.inl ((srl p0l 14 o_1) 4)))), ((p0a 5), .inl ((p0k 5), (p0n 5), .inr (.inl ((srl p0l 14 o_1) 5)))), ((p0a 6), .inl ((p0k 6), (p0n 6), .inr (.inl ((srl p0l 14 o_1) 6)))), ((p0a 7), .inl ((p0k 7), (p0n 7), .inr (.inl ((srl p0l 14 o_1) 7)))), ((p0a 8), .inl ((p0k 8), 2, .inl (p0w 8))), ((p0a 10), .inl ((p0k 10), (p0n 10), .inl (p0w 10))), ((p0a 11), .inl ((p0k 11), (p0n 11), .inr (.inl ((srl p0l 14 o_1) 11)))), ((p0a 12), .inl ((p0k 12), (p0n 12), .inl (p0w 12))), ((p0a 13), .inl ((p0k 13), (p0n 13), .inl (p0w 13))), ((p0a 14), .inl ((p0k 14), (p0n 14), .inr (.inl ((srl p0l 14 o_1) 14)))), ((p0a 16), .inl ((p0k 16), (p0n 16), .inl (p0w 16))), ((p0a 17), .inl ((p0k 17), (p0n 17), .inl (p0w 17))), ((p0a 18), .inl ((p0k 18), (p0n 18), .inl (p0w 18))), ((p0a 19), .inl ((p0k 19), (p0n 19), .inl (p0w 19)))], (oX1 (p1a 0) p1a p1k p1n p1w p1l), (oX9 (p1a 3) p1_2a p1_2k p1_2n p1_2w)] : List va_W)) := vD_perm hD ((bP (List.Perm.refl _)).trans (List.Perm.append_right _ (List.perm_middle (a := (((p0a 15), .inl ((p0k 15), (p0n 15), .inl (p0w 15))) : Nat × va_E)) (l₁ := ([((p0a 0), .inr (9, [.int (p0w 0 0), .int (p0w 0 1), .int (p0w 0 2), .ref (p0a 4), .ref (p0a 5), .ref (p0a 6), .ref (p0a 7), .ref (p0a 8), .int (p0w 0 8), .ref (p0a 10), .ref (p0a 11), .ref (p0a 12), .ref (p0a 13), .ref (p0a 14), .ref (p0a 15), .ref (p0a 16), .ref (p0a 17), .ref (p0a 18), .ref (p0a 19)])), ((p0a 4), .inl ((p0k 4), (p0n 4), .inr (.inl ((srl p0l 14 o_1) 4)))), ((p0a 5), .inl ((p0k 5), (p0n 5), .inr (.inl ((srl p0l 14 o_1) 5)))), ((p0a 6), .inl ((p0k 6), (p0n 6), .inr (.inl ((srl p0l 14 o_1) 6)))), ((p0a 7), .inl ((p0k 7), (p0n 7), .inr (.inl ((srl p0l 14 o_1) 7)))), ((p0a 8), .inl ((p0k 8), 2, .inl (p0w 8))), ((p0a 10), .inl ((p0k 10), (p0n 10), .inl (p0w 10))), ((p0a 11), .inl ((p0k 11), (p0n 11), .inr (.inl ((srl p0l 14 o_1) 11)))), ((p0a 12), .inl ((p0k 12), (p0n 12), .inl (p0w 12))), ((p0a 13), .inl ((p0k 13), (p0n 13), .inl (p0w 13))), ((p0a 14), .inl ((p0k 14), (p0n 14), .inr (.inl ((srl p0l 14 o_1) 14))))] : va_W)) (l₂ := ([((p0a 16), .inl ((p0k 16), (p0n 16), .inl (p0w 16))), ((p0a 17), .inl ((p0k 17), (p0n 17), .inl (p0w 17))), ((p0a 18), .inl ((p0k 18), (p0n 18), .inl (p0w 18))), ((p0a 19), .inl ((p0k 19), (p0n 19), .inl (p0w 19)))] : va_W)))))
  have hK2 : va_K (dC, dI) cls (List.flatten ([[((p0k 15), .int)], [((p0k 4), .long), ((p0k 5), .long), ((p0k 6), .long), ((p0k 7), .long), ((p0k 8), .int), ((p0k 10), .int), ((p0k 11), .long), ((p0k 12), .int), ((p0k 13), .int), ((p0k 14), .long), ((p0k 16), .int), ((p0k 17), .int), ((p0k 18), .int), ((p0k 19), .int)], (tX1 p1k), (tX9 p1_2k)] : List (List (ClassId × FieldType)))) s := vK_perm hK ((bP (List.Perm.refl _)).trans (List.Perm.append_right _ (List.perm_middle (a := (((p0k 15), .int) : ClassId × FieldType)) (l₁ := ([((p0k 4), .long), ((p0k 5), .long), ((p0k 6), .long), ((p0k 7), .long), ((p0k 8), .int), ((p0k 10), .int), ((p0k 11), .long), ((p0k 12), .int), ((p0k 13), .int), ((p0k 14), .long)] : List (ClassId × FieldType))) (l₂ := ([((p0k 16), .int), ((p0k 17), .int), ((p0k 18), .int), ((p0k 19), .int)] : List (ClassId × FieldType))))))
  have hPx : va_P (dC, dI) cls ((List.flatten ([[((p0a 15), .inl ((p0k 15), (p0n 15), .inl (p0w 15)))]] : List va_W)) ++ (List.flatten ([[((p0a 0), .inr (9, [.int (p0w 0 0), .int (p0w 0 1), .int (p0w 0 2), .ref (p0a 4), .ref (p0a 5), .ref (p0a 6), .ref (p0a 7), .ref (p0a 8), .int (p0w 0 8), .ref (p0a 10), .ref (p0a 11), .ref (p0a 12), .ref (p0a 13), .ref (p0a 14), .ref (p0a 15), .ref (p0a 16), .ref (p0a 17), .ref (p0a 18), .ref (p0a 19)])), ((p0a 4), .inl ((p0k 4), (p0n 4), .inr (.inl ((srl p0l 14 o_1) 4)))), ((p0a 5), .inl ((p0k 5), (p0n 5), .inr (.inl ((srl p0l 14 o_1) 5)))), ((p0a 6), .inl ((p0k 6), (p0n 6), .inr (.inl ((srl p0l 14 o_1) 6)))), ((p0a 7), .inl ((p0k 7), (p0n 7), .inr (.inl ((srl p0l 14 o_1) 7)))), ((p0a 8), .inl ((p0k 8), 2, .inl (p0w 8))), ((p0a 10), .inl ((p0k 10), (p0n 10), .inl (p0w 10))), ((p0a 11), .inl ((p0k 11), (p0n 11), .inr (.inl ((srl p0l 14 o_1) 11)))), ((p0a 12), .inl ((p0k 12), (p0n 12), .inl (p0w 12))), ((p0a 13), .inl ((p0k 13), (p0n 13), .inl (p0w 13))), ((p0a 14), .inl ((p0k 14), (p0n 14), .inr (.inl ((srl p0l 14 o_1) 14)))), ((p0a 16), .inl ((p0k 16), (p0n 16), .inl (p0w 16))), ((p0a 17), .inl ((p0k 17), (p0n 17), .inl (p0w 17))), ((p0a 18), .inl ((p0k 18), (p0n 18), .inl (p0w 18))), ((p0a 19), .inl ((p0k 19), (p0n 19), .inl (p0w 19)))], (oX1 (p1a 0) p1a p1k p1n p1w p1l), (oX9 (p1a 3) p1_2a p1_2k p1_2n p1_2w)] : List va_W))) H := vP_fa (vP_perm hP2 (bP (List.Perm.refl _)))
  have hDx : va_D A ((List.flatten ([[((p0a 15), .inl ((p0k 15), (p0n 15), .inl (p0w 15)))]] : List va_W)) ++ (List.flatten ([[((p0a 0), .inr (9, [.int (p0w 0 0), .int (p0w 0 1), .int (p0w 0 2), .ref (p0a 4), .ref (p0a 5), .ref (p0a 6), .ref (p0a 7), .ref (p0a 8), .int (p0w 0 8), .ref (p0a 10), .ref (p0a 11), .ref (p0a 12), .ref (p0a 13), .ref (p0a 14), .ref (p0a 15), .ref (p0a 16), .ref (p0a 17), .ref (p0a 18), .ref (p0a 19)])), ((p0a 4), .inl ((p0k 4), (p0n 4), .inr (.inl ((srl p0l 14 o_1) 4)))), ((p0a 5), .inl ((p0k 5), (p0n 5), .inr (.inl ((srl p0l 14 o_1) 5)))), ((p0a 6), .inl ((p0k 6), (p0n 6), .inr (.inl ((srl p0l 14 o_1) 6)))), ((p0a 7), .inl ((p0k 7), (p0n 7), .inr (.inl ((srl p0l 14 o_1) 7)))), ((p0a 8), .inl ((p0k 8), 2, .inl (p0w 8))), ((p0a 10), .inl ((p0k 10), (p0n 10), .inl (p0w 10))), ((p0a 11), .inl ((p0k 11), (p0n 11), .inr (.inl ((srl p0l 14 o_1) 11)))), ((p0a 12), .inl ((p0k 12), (p0n 12), .inl (p0w 12))), ((p0a 13), .inl ((p0k 13), (p0n 13), .inl (p0w 13))), ((p0a 14), .inl ((p0k 14), (p0n 14), .inr (.inl ((srl p0l 14 o_1) 14)))), ((p0a 16), .inl ((p0k 16), (p0n 16), .inl (p0w 16))), ((p0a 17), .inl ((p0k 17), (p0n 17), .inl (p0w 17))), ((p0a 18), .inl ((p0k 18), (p0n 18), .inl (p0w 18))), ((p0a 19), .inl ((p0k 19), (p0n 19), .inl (p0w 19)))], (oX1 (p1a 0) p1a p1k p1n p1w p1l), (oX9 (p1a 3) p1_2a p1_2k p1_2n p1_2w)] : List va_W))) := vD_fa (vD_perm hD2 (bP (List.Perm.refl _)))
  have hKx : va_K (dC, dI) cls ((List.flatten ([[((p0k 15), .int)]] : List (List (ClassId × FieldType)))) ++ (List.flatten ([[((p0k 4), .long), ((p0k 5), .long), ((p0k 6), .long), ((p0k 7), .long), ((p0k 8), .int), ((p0k 10), .int), ((p0k 11), .long), ((p0k 12), .int), ((p0k 13), .int), ((p0k 14), .long), ((p0k 16), .int), ((p0k 17), .int), ((p0k 18), .int), ((p0k 19), .int)], (tX1 p1k), (tX9 p1_2k)] : List (List (ClassId × FieldType))))) s := vK_fa (vK_perm hK2 (bP (List.Perm.refl _)))
  have hPc := vP_l hPx
  have hDc := vD_l hDx
  have hKc := vK_l hKx
  have hFc := vfree hDx hS hA
  refine va_callv (va_runS (As := [.ref (p0a 15), .int 0, .int (p0w 0 1), .int 0]) (rest := []) ⟨hx, hb, hml, hown, hts⟩ (kJ7_fill_fda19 l dC dI (p0a := (p0a 15)) (p0k := (p0k 15)) (p0n := (p0n 15)) (p0f := (p0w 15)) (p1 := 0) (p2 := (p0w 0 1)) (p3 := 0) (sz := _) (o := o_2) (hrun := hc_2)) (va_cwS 4 hts (gi_S qw735 qw281 qw109 (gi_z qw279)) rfl rfl rfl (by decide +kernel) ⟨Nat.le_of_ble_eq_true rfl, Nat.le_of_ble_eq_true rfl⟩) ⟨PRE.blind, PRE.of hE hS hFc hPc hKc hDc⟩ rfl rfl hl.1 rfl (lv_room (Nat.le_of_ble_eq_true rfl)) dX2_weigh_23 ⟨(Nat.le_of_ble_eq_true rfl), (Nat.le_of_ble_eq_true rfl)⟩) hS (fun q _ h => hFc q h) hFc (fun u t H locs ht hvm hw hB hz1 hk1 hS => ?_)
  obtain ⟨b1, b2, b3⟩ := hB
  rw [ht] at b1
  obtain ⟨hP, hD, hK⟩ := JOINC (wc := (List.flatten ([[((p0a 15), .inl ((p0k 15), (p0n 15), .inl (p0w 15)))]] : List va_W))) (wr := (List.flatten ([[((p0a 0), .inr (9, [.int (p0w 0 0), .int (p0w 0 1), .int (p0w 0 2), .ref (p0a 4), .ref (p0a 5), .ref (p0a 6), .ref (p0a 7), .ref (p0a 8), .int (p0w 0 8), .ref (p0a 10), .ref (p0a 11), .ref (p0a 12), .ref (p0a 13), .ref (p0a 14), .ref (p0a 15), .ref (p0a 16), .ref (p0a 17), .ref (p0a 18), .ref (p0a 19)])), ((p0a 4), .inl ((p0k 4), (p0n 4), .inr (.inl ((srl p0l 14 o_1) 4)))), ((p0a 5), .inl ((p0k 5), (p0n 5), .inr (.inl ((srl p0l 14 o_1) 5)))), ((p0a 6), .inl ((p0k 6), (p0n 6), .inr (.inl ((srl p0l 14 o_1) 6)))), ((p0a 7), .inl ((p0k 7), (p0n 7), .inr (.inl ((srl p0l 14 o_1) 7)))), ((p0a 8), .inl ((p0k 8), 2, .inl (p0w 8))), ((p0a 10), .inl ((p0k 10), (p0n 10), .inl (p0w 10))), ((p0a 11), .inl ((p0k 11), (p0n 11), .inr (.inl ((srl p0l 14 o_1) 11)))), ((p0a 12), .inl ((p0k 12), (p0n 12), .inl (p0w 12))), ((p0a 13), .inl ((p0k 13), (p0n 13), .inl (p0w 13))), ((p0a 14), .inl ((p0k 14), (p0n 14), .inr (.inl ((srl p0l 14 o_1) 14)))), ((p0a 16), .inl ((p0k 16), (p0n 16), .inl (p0w 16))), ((p0a 17), .inl ((p0k 17), (p0n 17), .inl (p0w 17))), ((p0a 18), .inl ((p0k 18), (p0n 18), .inl (p0w 18))), ((p0a 19), .inl ((p0k 19), (p0n 19), .inl (p0w 19)))], (oX1 (p1a 0) p1a p1k p1n p1w p1l), (oX9 (p1a 3) p1_2a p1_2k p1_2n p1_2w)] : List va_W))) (w1 := (List.flatten ([[((p0a 15), .inl ((p0k 15), (p0n 15), .inl ((srw p0w 15 o_2) 15)))]] : List va_W))) (t1 := (List.flatten ([[((p0k 15), .int)]] : List (List (ClassId × FieldType))))) hPx hDx hKx hk1 hFc b1 (va_K.moved hvm.symm b2) b3
  have hP3 : va_P (dC, dI) cls (List.flatten ([(oX2 (p0a 0) p0a p0k p0n (srw p0w 15 o_2) (srl p0l 14 o_1)), (oX1 (p1a 0) p1a p1k p1n p1w p1l), (oX9 (p1a 3) p1_2a p1_2k p1_2n p1_2w)] : List va_W)) H := vP_perm (vP_fb hP) ((bP (List.Perm.refl _)).trans (List.Perm.append_right _ (List.perm_middle (a := (((p0a 15), .inl ((p0k 15), (p0n 15), .inl ((srw p0w 15 o_2) 15))) : Nat × va_E)) (l₁ := ([((p0a 0), .inr (9, [.int ((srw p0w 15 o_2) 0 0), .int ((srw p0w 15 o_2) 0 1), .int ((srw p0w 15 o_2) 0 2), .ref (p0a 4), .ref (p0a 5), .ref (p0a 6), .ref (p0a 7), .ref (p0a 8), .int ((srw p0w 15 o_2) 0 8), .ref (p0a 10), .ref (p0a 11), .ref (p0a 12), .ref (p0a 13), .ref (p0a 14), .ref (p0a 15), .ref (p0a 16), .ref (p0a 17), .ref (p0a 18), .ref (p0a 19)])), ((p0a 4), .inl ((p0k 4), (p0n 4), .inr (.inl ((srl p0l 14 o_1) 4)))), ((p0a 5), .inl ((p0k 5), (p0n 5), .inr (.inl ((srl p0l 14 o_1) 5)))), ((p0a 6), .inl ((p0k 6), (p0n 6), .inr (.inl ((srl p0l 14 o_1) 6)))), ((p0a 7), .inl ((p0k 7), (p0n 7), .inr (.inl ((srl p0l 14 o_1) 7)))), ((p0a 8), .inl ((p0k 8), 2, .inl ((srw p0w 15 o_2) 8))), ((p0a 10), .inl ((p0k 10), (p0n 10), .inl ((srw p0w 15 o_2) 10))), ((p0a 11), .inl ((p0k 11), (p0n 11), .inr (.inl ((srl p0l 14 o_1) 11)))), ((p0a 12), .inl ((p0k 12), (p0n 12), .inl ((srw p0w 15 o_2) 12))), ((p0a 13), .inl ((p0k 13), (p0n 13), .inl ((srw p0w 15 o_2) 13))), ((p0a 14), .inl ((p0k 14), (p0n 14), .inr (.inl ((srl p0l 14 o_1) 14))))] : va_W)) (l₂ := ([((p0a 16), .inl ((p0k 16), (p0n 16), .inl ((srw p0w 15 o_2) 16))), ((p0a 17), .inl ((p0k 17), (p0n 17), .inl ((srw p0w 15 o_2) 17))), ((p0a 18), .inl ((p0k 18), (p0n 18), .inl ((srw p0w 15 o_2) 18))), ((p0a 19), .inl ((p0k 19), (p0n 19), .inl ((srw p0w 15 o_2) 19)))] : va_W))).symm))
  have hD3 : va_D A (List.flatten ([(oX2 (p0a 0) p0a p0k p0n (srw p0w 15 o_2) (srl p0l 14 o_1)), (oX1 (p1a 0) p1a p1k p1n p1w p1l), (oX9 (p1a 3) p1_2a p1_2k p1_2n p1_2w)] : List va_W)) := vD_perm (vD_fb hD) ((bP (List.Perm.refl _)).trans (List.Perm.append_right _ (List.perm_middle (a := (((p0a 15), .inl ((p0k 15), (p0n 15), .inl ((srw p0w 15 o_2) 15))) : Nat × va_E)) (l₁ := ([((p0a 0), .inr (9, [.int ((srw p0w 15 o_2) 0 0), .int ((srw p0w 15 o_2) 0 1), .int ((srw p0w 15 o_2) 0 2), .ref (p0a 4), .ref (p0a 5), .ref (p0a 6), .ref (p0a 7), .ref (p0a 8), .int ((srw p0w 15 o_2) 0 8), .ref (p0a 10), .ref (p0a 11), .ref (p0a 12), .ref (p0a 13), .ref (p0a 14), .ref (p0a 15), .ref (p0a 16), .ref (p0a 17), .ref (p0a 18), .ref (p0a 19)])), ((p0a 4), .inl ((p0k 4), (p0n 4), .inr (.inl ((srl p0l 14 o_1) 4)))), ((p0a 5), .inl ((p0k 5), (p0n 5), .inr (.inl ((srl p0l 14 o_1) 5)))), ((p0a 6), .inl ((p0k 6), (p0n 6), .inr (.inl ((srl p0l 14 o_1) 6)))), ((p0a 7), .inl ((p0k 7), (p0n 7), .inr (.inl ((srl p0l 14 o_1) 7)))), ((p0a 8), .inl ((p0k 8), 2, .inl ((srw p0w 15 o_2) 8))), ((p0a 10), .inl ((p0k 10), (p0n 10), .inl ((srw p0w 15 o_2) 10))), ((p0a 11), .inl ((p0k 11), (p0n 11), .inr (.inl ((srl p0l 14 o_1) 11)))), ((p0a 12), .inl ((p0k 12), (p0n 12), .inl ((srw p0w 15 o_2) 12))), ((p0a 13), .inl ((p0k 13), (p0n 13), .inl ((srw p0w 15 o_2) 13))), ((p0a 14), .inl ((p0k 14), (p0n 14), .inr (.inl ((srl p0l 14 o_1) 14))))] : va_W)) (l₂ := ([((p0a 16), .inl ((p0k 16), (p0n 16), .inl ((srw p0w 15 o_2) 16))), ((p0a 17), .inl ((p0k 17), (p0n 17), .inl ((srw p0w 15 o_2) 17))), ((p0a 18), .inl ((p0k 18), (p0n 18), .inl ((srw p0w 15 o_2) 18))), ((p0a 19), .inl ((p0k 19), (p0n 19), .inl ((srw p0w 15 o_2) 19)))] : va_W))).symm))
  have hK3 : va_K (dC, dI) cls (List.flatten ([(tX2 p0k), (tX1 p1k), (tX9 p1_2k)] : List (List (ClassId × FieldType)))) s := vK_perm (vK_fb hK) ((bP (List.Perm.refl _)).trans (List.Perm.append_right _ (List.perm_middle (a := (((p0k 15), .int) : ClassId × FieldType)) (l₁ := ([((p0k 4), .long), ((p0k 5), .long), ((p0k 6), .long), ((p0k 7), .long), ((p0k 8), .int), ((p0k 10), .int), ((p0k 11), .long), ((p0k 12), .int), ((p0k 13), .int), ((p0k 14), .long)] : List (ClassId × FieldType))) (l₂ := ([((p0k 16), .int), ((p0k 17), .int), ((p0k 18), .int), ((p0k 19), .int)] : List (ClassId × FieldType)))).symm))
  have hP : va_P (dC, dI) cls (List.flatten ([(oX2 (p0a 0) p0a p0k p0n (srw p0w 15 o_2) (srl p0l 14 o_1)), (oX1 (p1a 0) p1a p1k p1n p1w p1l), (oX9 (p1a 3) p1_2a p1_2k p1_2n p1_2w)] : List va_W)) H := vP_perm hP3 (bP (List.Perm.refl _))
  have hD : va_D A (List.flatten ([(oX2 (p0a 0) p0a p0k p0n (srw p0w 15 o_2) (srl p0l 14 o_1)), (oX1 (p1a 0) p1a p1k p1n p1w p1l), (oX9 (p1a 3) p1_2a p1_2k p1_2n p1_2w)] : List va_W)) := vD_perm hD3 (bP (List.Perm.refl _))
  have hK : va_K (dC, dI) cls (List.flatten ([(tX2 p0k), (tX1 p1k), (tX9 p1_2k)] : List (List (ClassId × FieldType)))) s := vK_perm hK3 (bP (List.Perm.refl _))
  refine lv_aload_n hx hb dX2_weigh_26 rfl (lv_at hl 1 rfl) ?_
  refine va_get (D := (dC, dI)) (ci := 4) (v := .ref (p1a 3)) (C := RX1) (T := TX1) (N := 21) hx hb hts i_X1 hown hK hP 16 rfl rfl 2 (by decide) (hts _ qw698) (fun _ h9 => h9) rfl dX2_weigh_27 ?_
  refine lv_astore_n (lv' := [(2, .ref (p1a 3)), (0, .ref (p0a 0)), (1, .ref (p1a 0))]) hx hb dX2_weigh_30 rfl hl (by decide) rfl (fun ls hl => ?_)
  refine lv_iconst (v := 0) hx hb dX2_weigh_31 (by decide) ?_
  refine lv_istore_n (lv' := [(3, .int 0), (2, .ref (p1a 3)), (0, .ref (p0a 0)), (1, .ref (p1a 0))]) hx hb dX2_weigh_32 rfl hl (by decide) rfl (fun ls hl => ?_)
  have L33 : ∀ (n_33 : Nat) (v3_33 : Int32) (p0w_33 : ST) (p0l_33 : SL) (o33 : ST × SL) (H : Heap) (locs : List Loc) (ls : Array Slot), (fX2_weigh_L33 p0n p1w p1_2n p1_2w n_33) v3_33 p0w_33 p0l_33 = some o33 → va_P (dC, dI) cls (List.flatten ([(oX2 (p0a 0) p0a p0k p0n p0w_33 p0l_33), (oX1 (p1a 0) p1a p1k p1n p1w p1l), (oX9 (p1a 3) p1_2a p1_2k p1_2n p1_2w)] : List va_W)) H → va_D A (List.flatten ([(oX2 (p0a 0) p0a p0k p0n p0w_33 p0l_33), (oX1 (p1a 0) p1a p1k p1n p1w p1l), (oX9 (p1a 3) p1_2a p1_2k p1_2n p1_2w)] : List va_W)) → va_K (dC, dI) cls (List.flatten ([(tX2 p0k), (tX1 p1k), (tX9 p1_2k)] : List (List (ClassId × FieldType)))) s → va_S A s.heap H locs → lv_has ls 8 [(0, .ref (p0a 0)), (1, .ref (p1a 0)), (2, .ref (p1a 3)), (3, .int v3_33)] → (∀ (H : Heap) (locs : List Loc) (ls : Array Slot), va_P (dC, dI) cls (List.flatten ([(oX2 (p0a 0) p0a p0k p0n (o33.1) (o33.2)), (oX1 (p1a 0) p1a p1k p1n p1w p1l), (oX9 (p1a 3) p1_2a p1_2k p1_2n p1_2w)] : List va_W)) H → va_D A (List.flatten ([(oX2 (p0a 0) p0a p0k p0n (o33.1) (o33.2)), (oX1 (p1a 0) p1a p1k p1n p1w p1l), (oX9 (p1a 3) p1_2a p1_2k p1_2n p1_2w)] : List va_W)) → va_K (dC, dI) cls (List.flatten ([(tX2 p0k), (tX1 p1k), (tX9 p1_2k)] : List (List (ClassId × FieldType)))) s → va_S A s.heap H locs → lv_has ls 8 [] → W p l e ({ frames := 2, cells := 0, slots := 0, locals := 47 } : Room) s m ([.ref (p0a 0), .ref (p1a 0)] : List Value).toArray below meth c H locs 0 0 Q (F0 m 251 ls [])) → W p l e ({ frames := 2, cells := 0, slots := 0, locals := 47 } : Room) s m ([.ref (p0a 0), .ref (p1a 0)] : List Value).toArray below meth c H locs 0 0 Q (F0 m 33 ls []) := by
    intro n_33
    induction n_33 with
    | zero => intro v3_33 p0w_33 p0l_33 o33 H locs ls hrun; exact (no9 rfl hrun).elim
    | succ n_33 IH33 =>
      intro v3_33 p0w_33 p0l_33 o33 H locs ls hrun hP hD hK hS hl hk33
      unfold fX2_weigh_L33 at hrun
      refine lv_iload_n hx hb dX2_weigh_33 rfl (lv_at hl 3 rfl) ?_
      refine lv_aload_n hx hb dX2_weigh_34 rfl (lv_at hl 1 rfl) ?_
      refine va_get (D := (dC, dI)) (ci := 4) (v := .int (p1w 0 0)) (C := RX1) (T := TX1) (N := 21) hx hb hts i_X1 hown hK hP 16 rfl rfl 0 (by decide) (hts _ qw670) (fun _ h9 => h9) rfl dX2_weigh_35 ?_
      rcases br9 hrun with ⟨hc3, hrun⟩ | ⟨hc3, hrun⟩
      · refine lv_icmp_ge (tgt := 251) hx hb dX2_weigh_38 (by decide) (fun _ => ?_) (fun c => absurd hc3 c)
        obtain rfl := (Option.some.inj hrun)
        exact hk33 _ _ _ hP hD hK hS (lv_sub hl [] rfl)
      · refine lv_icmp_ge (tgt := 251) hx hb dX2_weigh_38 (by decide) (fun c => absurd c hc3) (fun _ => ?_)
        refine lv_lconst (v := 1) hx hb dX2_weigh_41 (by decide) ?_
        refine lv_iconst (v := 3) hx hb dX2_weigh_42 (by decide) ?_
        refine lv_aload_n hx hb dX2_weigh_43 rfl (lv_at hl 1 rfl) ?_
        refine va_get (D := (dC, dI)) (ci := 4) (v := .ref (p1a 13)) (C := RX1) (T := TX1) (N := 21) hx hb hts i_X1 hown hK hP 16 rfl rfl 12 (by decide) (hts _ qw811) (fun _ h9 => h9) rfl dX2_weigh_44 ?_
        refine lv_iload_n hx hb dX2_weigh_47 rfl (lv_at hl 3 rfl) ?_
        obtain ⟨hq4, hrun⟩ := chk9 hrun
        refine va_iald hx hb hK hP 26 24 rfl rfl (ixb_in hq4) dX2_weigh_48 ?_
        refine lv_iconst (v := 4) hx hb dX2_weigh_49 (by decide) ?_
        refine va_mmin hx hb (hml.trans hl.1.symm) hown (hts _ qw812) (hts _ qw99) (hts _ qw100) (hts _ qw101) (Nat.le_of_ble_eq_true rfl) (Nat.le_of_ble_eq_true rfl) (Nat.le_of_ble_eq_true rfl) (Nat.le_of_ble_eq_true rfl) dX2_weigh_50 ?_
        refine lv_imul hx hb dX2_weigh_53 ?_
        refine lv_lshl (v := (((1 : Int64) <<< (((3 * (if (4 : Int32) < (p1w 13 (nn v3_33)) then 4 else (p1w 13 (nn v3_33)))) : Int32).toInt64 &&& 63)))) hx hb dX2_weigh_54 rfl ?_
        refine lv_lstore (lv' := [(4, .long (((1 : Int64) <<< (((3 * (if (4 : Int32) < (p1w 13 (nn v3_33)) then 4 else (p1w 13 (nn v3_33)))) : Int32).toInt64 &&& 63)))), (0, .ref (p0a 0)), (1, .ref (p1a 0)), (2, .ref (p1a 3)), (3, .int v3_33)]) hx hb dX2_weigh_55 hl (by decide) rfl (fun ls hl => ?_)
        refine lv_aload_n hx hb dX2_weigh_57 rfl (lv_at hl 2 rfl) ?_
        refine va_get (D := (dC, dI)) (ci := 4) (v := .ref (p1a 4)) (C := RX1) (T := TX1) (N := 21) hx hb hts i_X1 hown hK hP 16 rfl rfl 3 (by decide) (hts _ qw699) (fun _ h9 => h9) rfl dX2_weigh_58 ?_
        refine lv_iload_n hx hb dX2_weigh_61 rfl (lv_at hl 4 rfl) ?_
        obtain ⟨hq5, hrun⟩ := chk9 hrun
        refine va_iald hx hb hK hP 17 15 rfl rfl (ixb_in hq5) dX2_weigh_62 ?_
        refine lv_istore (lv' := [(6, .int (p1w 4 (nn v3_33))), (4, .long (((1 : Int64) <<< (((3 * (if (4 : Int32) < (p1w 13 (nn v3_33)) then 4 else (p1w 13 (nn v3_33)))) : Int32).toInt64 &&& 63)))), (0, .ref (p0a 0)), (1, .ref (p1a 0)), (2, .ref (p1a 3)), (3, .int v3_33)]) hx hb dX2_weigh_63 hl (by decide) rfl (fun ls hl => ?_)
        have L65 : ∀ (n_65 : Nat) (v6_65 : Int32) (p0w_65 : ST) (p0l_65 : SL) (o65 : ST × SL) (H : Heap) (locs : List Loc) (ls : Array Slot), (fX2_weigh_L65 p0n p1w p1_2n p1_2w v3_33 n_65) v6_65 p0w_65 p0l_65 = some o65 → va_P (dC, dI) cls (List.flatten ([(oX2 (p0a 0) p0a p0k p0n p0w_65 p0l_65), (oX1 (p1a 0) p1a p1k p1n p1w p1l), (oX9 (p1a 3) p1_2a p1_2k p1_2n p1_2w)] : List va_W)) H → va_D A (List.flatten ([(oX2 (p0a 0) p0a p0k p0n p0w_65 p0l_65), (oX1 (p1a 0) p1a p1k p1n p1w p1l), (oX9 (p1a 3) p1_2a p1_2k p1_2n p1_2w)] : List va_W)) → va_K (dC, dI) cls (List.flatten ([(tX2 p0k), (tX1 p1k), (tX9 p1_2k)] : List (List (ClassId × FieldType)))) s → va_S A s.heap H locs → lv_has ls 8 [(0, .ref (p0a 0)), (1, .ref (p1a 0)), (2, .ref (p1a 3)), (3, .int v3_33), (4, .long (((1 : Int64) <<< (((3 * (if (4 : Int32) < (p1w 13 (nn v3_33)) then 4 else (p1w 13 (nn v3_33)))) : Int32).toInt64 &&& 63)))), (6, .int v6_65)] → (∀ (H : Heap) (locs : List Loc) (ls : Array Slot), va_P (dC, dI) cls (List.flatten ([(oX2 (p0a 0) p0a p0k p0n (o65.1) (o65.2)), (oX1 (p1a 0) p1a p1k p1n p1w p1l), (oX9 (p1a 3) p1_2a p1_2k p1_2n p1_2w)] : List va_W)) H → va_D A (List.flatten ([(oX2 (p0a 0) p0a p0k p0n (o65.1) (o65.2)), (oX1 (p1a 0) p1a p1k p1n p1w p1l), (oX9 (p1a 3) p1_2a p1_2k p1_2n p1_2w)] : List va_W)) → va_K (dC, dI) cls (List.flatten ([(tX2 p0k), (tX1 p1k), (tX9 p1_2k)] : List (List (ClassId × FieldType)))) s → va_S A s.heap H locs → lv_has ls 8 [(0, .ref (p0a 0)), (1, .ref (p1a 0)), (2, .ref (p1a 3)), (3, .int v3_33), (4, .long (((1 : Int64) <<< (((3 * (if (4 : Int32) < (p1w 13 (nn v3_33)) then 4 else (p1w 13 (nn v3_33)))) : Int32).toInt64 &&& 63))))] → W p l e ({ frames := 2, cells := 0, slots := 0, locals := 47 } : Room) s m ([.ref (p0a 0), .ref (p1a 0)] : List Value).toArray below meth c H locs 0 0 Q (F0 m 220 ls [])) → W p l e ({ frames := 2, cells := 0, slots := 0, locals := 47 } : Room) s m ([.ref (p0a 0), .ref (p1a 0)] : List Value).toArray below meth c H locs 0 0 Q (F0 m 65 ls []) := by
          intro n_65
          induction n_65 with
          | zero => intro v6_65 p0w_65 p0l_65 o65 H locs ls hrun; exact (no9 rfl hrun).elim
          | succ n_65 IH65 =>
            intro v6_65 p0w_65 p0l_65 o65 H locs ls hrun hP hD hK hS hl hk65
            unfold fX2_weigh_L65 at hrun
            refine lv_iload hx hb dX2_weigh_65 (lv_at hl 5 rfl) ?_
            rcases br9 hrun with ⟨hc6, hrun⟩ | ⟨hc6, hrun⟩
            · refine lv_if_lt (tgt := 220) hx hb dX2_weigh_67 (by decide) (fun _ => ?_) (fun c => absurd hc6 c)
              obtain rfl := (Option.some.inj hrun)
              exact hk65 _ _ _ hP hD hK hS (lv_sub hl [0, 1, 2, 3, 4] rfl)
            · refine lv_if_lt (tgt := 220) hx hb dX2_weigh_67 (by decide) (fun c => absurd c hc6) (fun _ => ?_)
              refine lv_aload_n hx hb dX2_weigh_70 rfl (lv_at hl 2 rfl) ?_
              refine va_get (D := (dC, dI)) (ci := 3) (v := .ref (p1_2a 2)) (C := RX9) (T := TX9) (N := 6) hx hb hts i_X9 hown hK hP 34 rfl rfl 1 (by decide) (hts _ qw700) (fun _ h9 => h9) rfl dX2_weigh_71 ?_
              refine lv_iload hx hb dX2_weigh_74 (lv_at hl 5 rfl) ?_
              obtain ⟨hq7, hrun⟩ := chk9 hrun
              refine va_iald hx hb hK hP 35 32 rfl rfl (ixb_in hq7) dX2_weigh_76 ?_
              obtain ⟨o_8, hc_8, hrun⟩ := bnd9 hrun
              have hPx : va_P (dC, dI) cls ((List.flatten ([] : List va_W)) ++ (List.flatten ([(oX2 (p0a 0) p0a p0k p0n p0w_65 p0l_65), (oX1 (p1a 0) p1a p1k p1n p1w p1l), (oX9 (p1a 3) p1_2a p1_2k p1_2n p1_2w)] : List va_W))) H := vP_fa (vP_perm hP (bP (List.Perm.refl _)))
              have hDx : va_D A ((List.flatten ([] : List va_W)) ++ (List.flatten ([(oX2 (p0a 0) p0a p0k p0n p0w_65 p0l_65), (oX1 (p1a 0) p1a p1k p1n p1w p1l), (oX9 (p1a 3) p1_2a p1_2k p1_2n p1_2w)] : List va_W))) := vD_fa (vD_perm hD (bP (List.Perm.refl _)))
              have hKx : va_K (dC, dI) cls ((List.flatten ([] : List (List (ClassId × FieldType)))) ++ (List.flatten ([(tX2 p0k), (tX1 p1k), (tX9 p1_2k)] : List (List (ClassId × FieldType))))) s := vK_fa (vK_perm hK (bP (List.Perm.refl _)))
              have hPc := vP_l hPx
              have hDc := vD_l hDx
              have hKc := vK_l hKx
              have hFc := vfree hDx hS hA
              refine va_calli (va_runSN (As := [.int (p1_2w 2 (nn v6_65))]) (rest := []) ⟨hx, hb, hml, hown, hts⟩ (kX11_usesLeft l dC dI (p0 := (p1_2w 2 (nn v6_65))) (sz := _) (o := o_8) (hrun := hc_8)) ⟨(va_cnB 1 hts (gi_z qw446) rfl rfl rfl (hE.nw (List.mem_append_right _ (tbl_8 (i := 214) rfl)) rfl) (hts _ qw129) (by decide +kernel) ⟨Nat.le_of_ble_eq_true rfl, Nat.le_of_ble_eq_true rfl⟩), (hts _ qw447), trivial⟩ ⟨PRE.blind, PRE.of hE hS hFc hPc hKc hDc⟩ rfl rfl hl.1 rfl (lv_room (Nat.le_of_ble_eq_true rfl)) dX2_weigh_77 ⟨(Nat.le_of_ble_eq_true rfl), (Nat.le_of_ble_eq_true rfl)⟩) hS (fun q _ h => hFc q h) hFc (fun r9 u t H locs ht hvm hw hB hz1 hk1 hS => ?_)
              obtain ⟨b1, b2, b3⟩ := hB
              rw [ht] at b1
              obtain ⟨hP, hD, hK⟩ := JOINC (wc := (List.flatten ([] : List va_W))) (wr := (List.flatten ([(oX2 (p0a 0) p0a p0k p0n p0w_65 p0l_65), (oX1 (p1a 0) p1a p1k p1n p1w p1l), (oX9 (p1a 3) p1_2a p1_2k p1_2n p1_2w)] : List va_W))) (w1 := (List.flatten ([] : List va_W))) (t1 := (List.flatten ([] : List (List (ClassId × FieldType))))) hPx hDx hKx hk1 hFc b1 (va_K.moved hvm.symm b2) b3
              have hP : va_P (dC, dI) cls (List.flatten ([(oX2 (p0a 0) p0a p0k p0n p0w_65 p0l_65), (oX1 (p1a 0) p1a p1k p1n p1w p1l), (oX9 (p1a 3) p1_2a p1_2k p1_2n p1_2w)] : List va_W)) H := vP_perm (vP_fb hP) (bP (List.Perm.refl _))
              have hD : va_D A (List.flatten ([(oX2 (p0a 0) p0a p0k p0n p0w_65 p0l_65), (oX1 (p1a 0) p1a p1k p1n p1w p1l), (oX9 (p1a 3) p1_2a p1_2k p1_2n p1_2w)] : List va_W)) := vD_perm (vD_fb hD) (bP (List.Perm.refl _))
              have hK : va_K (dC, dI) cls (List.flatten ([(tX2 p0k), (tX1 p1k), (tX9 p1_2k)] : List (List (ClassId × FieldType)))) s := vK_perm (vK_fb hK) (bP (List.Perm.refl _))
              obtain rfl : o_8 = r9 := hw.symm
              refine lv_istore (lv' := [(7, .int o_8), (0, .ref (p0a 0)), (1, .ref (p1a 0)), (2, .ref (p1a 3)), (3, .int v3_33), (4, .long (((1 : Int64) <<< (((3 * (if (4 : Int32) < (p1w 13 (nn v3_33)) then 4 else (p1w 13 (nn v3_33)))) : Int32).toInt64 &&& 63)))), (6, .int v6_65)]) hx hb dX2_weigh_80 hl (by decide) rfl (fun ls hl => ?_)
              refine lv_iload hx hb dX2_weigh_82 (lv_at hl 0 rfl) ?_
              have J104 : ∀ (p0l_104 : SL) (H : Heap) (locs : List Loc) (ls : Array Slot), (fX2_weigh_J104 (fX2_weigh_L65 p0n p1w p1_2n p1_2w v3_33 n_65) p0n p1w p1_2n p1_2w v3_33 v6_65 p0w_65 p0l_104) = some o65 → va_P (dC, dI) cls (List.flatten ([(oX2 (p0a 0) p0a p0k p0n p0w_65 p0l_104), (oX1 (p1a 0) p1a p1k p1n p1w p1l), (oX9 (p1a 3) p1_2a p1_2k p1_2n p1_2w)] : List va_W)) H → va_D A (List.flatten ([(oX2 (p0a 0) p0a p0k p0n p0w_65 p0l_104), (oX1 (p1a 0) p1a p1k p1n p1w p1l), (oX9 (p1a 3) p1_2a p1_2k p1_2n p1_2w)] : List va_W)) → va_K (dC, dI) cls (List.flatten ([(tX2 p0k), (tX1 p1k), (tX9 p1_2k)] : List (List (ClassId × FieldType)))) s → va_S A s.heap H locs → lv_has ls 8 [(0, .ref (p0a 0)), (1, .ref (p1a 0)), (2, .ref (p1a 3)), (3, .int v3_33), (4, .long (((1 : Int64) <<< (((3 * (if (4 : Int32) < (p1w 13 (nn v3_33)) then 4 else (p1w 13 (nn v3_33)))) : Int32).toInt64 &&& 63)))), (6, .int v6_65)] → W p l e ({ frames := 2, cells := 0, slots := 0, locals := 47 } : Room) s m ([.ref (p0a 0), .ref (p1a 0)] : List Value).toArray below meth c H locs 0 0 Q (F0 m 104 ls []) := by
                intro p0l_104 H locs ls hrun hP hD hK hS hl 
                unfold fX2_weigh_J104 at hrun
                refine lv_aload_n hx hb dX2_weigh_104 rfl (lv_at hl 2 rfl) ?_
                refine va_get (D := (dC, dI)) (ci := 3) (v := .ref (p1_2a 2)) (C := RX9) (T := TX9) (N := 6) hx hb hts i_X9 hown hK hP 34 rfl rfl 1 (by decide) (hts _ qw700) (fun _ h9 => h9) rfl dX2_weigh_105 ?_
                refine lv_iload hx hb dX2_weigh_108 (lv_at hl 5 rfl) ?_
                obtain ⟨hq10, hrun⟩ := chk9 hrun
                refine va_iald hx hb hK hP 35 32 rfl rfl (ixb_in hq10) dX2_weigh_110 ?_
                obtain ⟨o_11, hc_11, hrun⟩ := bnd9 hrun
                have hPx : va_P (dC, dI) cls ((List.flatten ([] : List va_W)) ++ (List.flatten ([(oX2 (p0a 0) p0a p0k p0n p0w_65 p0l_104), (oX1 (p1a 0) p1a p1k p1n p1w p1l), (oX9 (p1a 3) p1_2a p1_2k p1_2n p1_2w)] : List va_W))) H := vP_fa (vP_perm hP (bP (List.Perm.refl _)))
                have hDx : va_D A ((List.flatten ([] : List va_W)) ++ (List.flatten ([(oX2 (p0a 0) p0a p0k p0n p0w_65 p0l_104), (oX1 (p1a 0) p1a p1k p1n p1w p1l), (oX9 (p1a 3) p1_2a p1_2k p1_2n p1_2w)] : List va_W))) := vD_fa (vD_perm hD (bP (List.Perm.refl _)))
                have hKx : va_K (dC, dI) cls ((List.flatten ([] : List (List (ClassId × FieldType)))) ++ (List.flatten ([(tX2 p0k), (tX1 p1k), (tX9 p1_2k)] : List (List (ClassId × FieldType))))) s := vK_fa (vK_perm hK (bP (List.Perm.refl _)))
                have hPc := vP_l hPx
                have hDc := vD_l hDx
                have hKc := vK_l hKx
                have hFc := vfree hDx hS hA
                refine va_calli (va_runSN (As := [.int (p1_2w 2 (nn v6_65))]) (rest := []) ⟨hx, hb, hml, hown, hts⟩ (kX11_usesRight l dC dI (p0 := (p1_2w 2 (nn v6_65))) (sz := _) (o := o_11) (hrun := hc_11)) ⟨(va_cnB 1 hts (gi_z qw351) rfl rfl rfl (hE.nw (List.mem_append_right _ (tbl_8 (i := 228) rfl)) rfl) (hts _ qw129) (by decide +kernel) ⟨Nat.le_of_ble_eq_true rfl, Nat.le_of_ble_eq_true rfl⟩), (hts _ qw352), trivial⟩ ⟨PRE.blind, PRE.of hE hS hFc hPc hKc hDc⟩ rfl rfl hl.1 rfl (lv_room (Nat.le_of_ble_eq_true rfl)) dX2_weigh_111 ⟨(Nat.le_of_ble_eq_true rfl), (Nat.le_of_ble_eq_true rfl)⟩) hS (fun q _ h => hFc q h) hFc (fun r12 u t H locs ht hvm hw hB hz1 hk1 hS => ?_)
                obtain ⟨b1, b2, b3⟩ := hB
                rw [ht] at b1
                obtain ⟨hP, hD, hK⟩ := JOINC (wc := (List.flatten ([] : List va_W))) (wr := (List.flatten ([(oX2 (p0a 0) p0a p0k p0n p0w_65 p0l_104), (oX1 (p1a 0) p1a p1k p1n p1w p1l), (oX9 (p1a 3) p1_2a p1_2k p1_2n p1_2w)] : List va_W))) (w1 := (List.flatten ([] : List va_W))) (t1 := (List.flatten ([] : List (List (ClassId × FieldType))))) hPx hDx hKx hk1 hFc b1 (va_K.moved hvm.symm b2) b3
                have hP : va_P (dC, dI) cls (List.flatten ([(oX2 (p0a 0) p0a p0k p0n p0w_65 p0l_104), (oX1 (p1a 0) p1a p1k p1n p1w p1l), (oX9 (p1a 3) p1_2a p1_2k p1_2n p1_2w)] : List va_W)) H := vP_perm (vP_fb hP) (bP (List.Perm.refl _))
                have hD : va_D A (List.flatten ([(oX2 (p0a 0) p0a p0k p0n p0w_65 p0l_104), (oX1 (p1a 0) p1a p1k p1n p1w p1l), (oX9 (p1a 3) p1_2a p1_2k p1_2n p1_2w)] : List va_W)) := vD_perm (vD_fb hD) (bP (List.Perm.refl _))
                have hK : va_K (dC, dI) cls (List.flatten ([(tX2 p0k), (tX1 p1k), (tX9 p1_2k)] : List (List (ClassId × FieldType)))) s := vK_perm (vK_fb hK) (bP (List.Perm.refl _))
                obtain rfl : o_11 = r12 := hw.symm
                have J151 : ∀ (p0l_151 : SL) (H : Heap) (locs : List Loc) (ls : Array Slot), (fX2_weigh_J151 (fX2_weigh_L65 p0n p1w p1_2n p1_2w v3_33 n_65) p0n p1w p1_2n p1_2w v3_33 v6_65 p0w_65 p0l_151) = some o65 → va_P (dC, dI) cls (List.flatten ([(oX2 (p0a 0) p0a p0k p0n p0w_65 p0l_151), (oX1 (p1a 0) p1a p1k p1n p1w p1l), (oX9 (p1a 3) p1_2a p1_2k p1_2n p1_2w)] : List va_W)) H → va_D A (List.flatten ([(oX2 (p0a 0) p0a p0k p0n p0w_65 p0l_151), (oX1 (p1a 0) p1a p1k p1n p1w p1l), (oX9 (p1a 3) p1_2a p1_2k p1_2n p1_2w)] : List va_W)) → va_K (dC, dI) cls (List.flatten ([(tX2 p0k), (tX1 p1k), (tX9 p1_2k)] : List (List (ClassId × FieldType)))) s → va_S A s.heap H locs → lv_has ls 8 [(0, .ref (p0a 0)), (1, .ref (p1a 0)), (2, .ref (p1a 3)), (3, .int v3_33), (4, .long (((1 : Int64) <<< (((3 * (if (4 : Int32) < (p1w 13 (nn v3_33)) then 4 else (p1w 13 (nn v3_33)))) : Int32).toInt64 &&& 63)))), (6, .int v6_65)] → W p l e ({ frames := 2, cells := 0, slots := 0, locals := 47 } : Room) s m ([.ref (p0a 0), .ref (p1a 0)] : List Value).toArray below meth c H locs 0 0 Q (F0 m 151 ls []) := by
                  intro p0l_151 H locs ls hrun hP hD hK hS hl 
                  unfold fX2_weigh_J151 at hrun
                  refine lv_aload_n hx hb dX2_weigh_151 rfl (lv_at hl 2 rfl) ?_
                  refine va_get (D := (dC, dI)) (ci := 3) (v := .ref (p1_2a 3)) (C := RX9) (T := TX9) (N := 6) hx hb hts i_X9 hown hK hP 34 rfl rfl 2 (by decide) (hts _ qw701) (fun _ h9 => h9) rfl dX2_weigh_152 ?_
                  refine lv_iload hx hb dX2_weigh_155 (lv_at hl 5 rfl) ?_
                  obtain ⟨hq13, hrun⟩ := chk9 hrun
                  refine va_iald hx hb hK hP 36 33 rfl rfl (ixb_in hq13) dX2_weigh_157 ?_
                  have J208 : ∀ (p0w_208 : ST) (p0l_208 : SL) (H : Heap) (locs : List Loc) (ls : Array Slot), (fX2_weigh_J208 (fX2_weigh_L65 p0n p1w p1_2n p1_2w v3_33 n_65) p1_2n p1_2w v6_65 p0w_208 p0l_208) = some o65 → va_P (dC, dI) cls (List.flatten ([(oX2 (p0a 0) p0a p0k p0n p0w_208 p0l_208), (oX1 (p1a 0) p1a p1k p1n p1w p1l), (oX9 (p1a 3) p1_2a p1_2k p1_2n p1_2w)] : List va_W)) H → va_D A (List.flatten ([(oX2 (p0a 0) p0a p0k p0n p0w_208 p0l_208), (oX1 (p1a 0) p1a p1k p1n p1w p1l), (oX9 (p1a 3) p1_2a p1_2k p1_2n p1_2w)] : List va_W)) → va_K (dC, dI) cls (List.flatten ([(tX2 p0k), (tX1 p1k), (tX9 p1_2k)] : List (List (ClassId × FieldType)))) s → va_S A s.heap H locs → lv_has ls 8 [(0, .ref (p0a 0)), (1, .ref (p1a 0)), (2, .ref (p1a 3)), (3, .int v3_33), (4, .long (((1 : Int64) <<< (((3 * (if (4 : Int32) < (p1w 13 (nn v3_33)) then 4 else (p1w 13 (nn v3_33)))) : Int32).toInt64 &&& 63)))), (6, .int v6_65)] → W p l e ({ frames := 2, cells := 0, slots := 0, locals := 47 } : Room) s m ([.ref (p0a 0), .ref (p1a 0)] : List Value).toArray below meth c H locs 0 0 Q (F0 m 208 ls []) := by
                    intro p0w_208 p0l_208 H locs ls hrun hP hD hK hS hl 
                    unfold fX2_weigh_J208 at hrun
                    refine lv_aload_n hx hb dX2_weigh_208 rfl (lv_at hl 2 rfl) ?_
                    refine va_get (D := (dC, dI)) (ci := 3) (v := .ref (p1_2a 6)) (C := RX9) (T := TX9) (N := 6) hx hb hts i_X9 hown hK hP 34 rfl rfl 5 (by decide) (hts _ qw702) (fun _ h9 => h9) rfl dX2_weigh_209 ?_
                    refine lv_iload hx hb dX2_weigh_212 (lv_at hl 5 rfl) ?_
                    obtain ⟨hq14, hrun⟩ := chk9 hrun
                    refine va_iald hx hb hK hP 39 36 rfl rfl (ixb_in hq14) dX2_weigh_214 ?_
                    refine lv_istore (lv' := [(6, .int (p1_2w 6 (nn v6_65))), (0, .ref (p0a 0)), (1, .ref (p1a 0)), (2, .ref (p1a 3)), (3, .int v3_33), (4, .long (((1 : Int64) <<< (((3 * (if (4 : Int32) < (p1w 13 (nn v3_33)) then 4 else (p1w 13 (nn v3_33)))) : Int32).toInt64 &&& 63))))]) hx hb dX2_weigh_215 hl (by decide) rfl (fun ls hl => ?_)
                    refine lv_goto (tgt := 65) hx hb dX2_weigh_217 (by decide) ?_
                    exact IH65 (p1_2w 6 (nn v6_65)) p0w_208 p0l_208 o65 _ _ _ hrun hP hD hK hS (lv_sub hl [1, 2, 3, 4, 5, 0] rfl) hk65
                  rcases br9 hrun with ⟨hc15, hrun⟩ | ⟨hc15, hrun⟩
                  · refine lv_if_lt (tgt := 208) hx hb dX2_weigh_158 (by decide) (fun _ => ?_) (fun c => absurd hc15 c)
                    exact J208 p0w_65 p0l_151 _ _ _ hrun hP hD hK hS (lv_sub hl [0, 1, 2, 3, 4, 5] rfl)
                  · refine lv_if_lt (tgt := 208) hx hb dX2_weigh_158 (by decide) (fun c => absurd c hc15) (fun _ => ?_)
                    refine lv_aload_n hx hb dX2_weigh_161 rfl (lv_at hl 0 rfl) ?_
                    refine va_get (D := (dC, dI)) (ci := 9) (v := .ref (p0a 14)) (C := RX2) (T := TX2) (N := 19) hx hb hts i_X2 hown hK hP 0 rfl rfl 13 (by decide) (hts _ qw684) (fun _ h9 => h9) rfl dX2_weigh_162 ?_
                    refine lv_aload_n hx hb dX2_weigh_165 rfl (lv_at hl 2 rfl) ?_
                    refine va_get (D := (dC, dI)) (ci := 3) (v := .ref (p1_2a 3)) (C := RX9) (T := TX9) (N := 6) hx hb hts i_X9 hown hK hP 34 rfl rfl 2 (by decide) (hts _ qw701) (fun _ h9 => h9) rfl dX2_weigh_166 ?_
                    refine lv_iload hx hb dX2_weigh_169 (lv_at hl 5 rfl) ?_
                    obtain ⟨hq16, hrun⟩ := chk9 hrun
                    refine va_iald hx hb hK hP 36 33 rfl rfl (ixb_in hq16) dX2_weigh_171 ?_
                    refine lv_dup2_11 hx hb dX2_weigh_172 rfl rfl ?_
                    obtain ⟨hq17, hrun⟩ := chk9 hrun
                    refine va_lald hx hb hK hP 10 9 rfl rfl (ixb_in hq17) dX2_weigh_173 ?_
                    refine lv_lload hx hb dX2_weigh_174 (lv_at hl 4 rfl) ?_
                    refine lv_ladd hx hb dX2_weigh_176 ?_
                    obtain ⟨hq18, hrun⟩ := chk9 hrun
                    refine va_last hx hb hK hP hD hS 10 9 rfl rfl (ixb_in hq18) dX2_weigh_177 (fun H locs hP hD hS => ?_)
                    have hP : va_P (dC, dI) cls (List.flatten ([(oX2 (p0a 0) p0a p0k p0n p0w_65 (upl p0l_151 14 (nn (p1_2w 3 (nn v6_65))) ((p0l_151 14 (nn (p1_2w 3 (nn v6_65)))) + (((1 : Int64) <<< (((3 * (if (4 : Int32) < (p1w 13 (nn v3_33)) then 4 else (p1w 13 (nn v3_33)))) : Int32).toInt64 &&& 63)))))), (oX1 (p1a 0) p1a p1k p1n p1w p1l), (oX9 (p1a 3) p1_2a p1_2k p1_2n p1_2w)] : List va_W)) H := hP
                    have hD : va_D A (List.flatten ([(oX2 (p0a 0) p0a p0k p0n p0w_65 (upl p0l_151 14 (nn (p1_2w 3 (nn v6_65))) ((p0l_151 14 (nn (p1_2w 3 (nn v6_65)))) + (((1 : Int64) <<< (((3 * (if (4 : Int32) < (p1w 13 (nn v3_33)) then 4 else (p1w 13 (nn v3_33)))) : Int32).toInt64 &&& 63)))))), (oX1 (p1a 0) p1a p1k p1n p1w p1l), (oX9 (p1a 3) p1_2a p1_2k p1_2n p1_2w)] : List va_W)) := hD
                    obtain ⟨l19, el19, hrun⟩ := let9 hrun
                    rw [← el19] at hP hD
                    refine lv_aload_n hx hb dX2_weigh_178 rfl (lv_at hl 0 rfl) ?_
                    refine va_get (D := (dC, dI)) (ci := 9) (v := .ref (p0a 15)) (C := RX2) (T := TX2) (N := 19) hx hb hts i_X2 hown hK hP 0 rfl rfl 14 (by decide) (hts _ qw685) (fun _ h9 => h9) rfl dX2_weigh_179 ?_
                    refine lv_aload_n hx hb dX2_weigh_182 rfl (lv_at hl 2 rfl) ?_
                    refine va_get (D := (dC, dI)) (ci := 3) (v := .ref (p1_2a 3)) (C := RX9) (T := TX9) (N := 6) hx hb hts i_X9 hown hK hP 34 rfl rfl 2 (by decide) (hts _ qw701) (fun _ h9 => h9) rfl dX2_weigh_183 ?_
                    refine lv_iload hx hb dX2_weigh_186 (lv_at hl 5 rfl) ?_
                    obtain ⟨hq20, hrun⟩ := chk9 hrun
                    refine va_iald hx hb hK hP 36 33 rfl rfl (ixb_in hq20) dX2_weigh_188 ?_
                    refine lv_dup2_11 hx hb dX2_weigh_189 rfl rfl ?_
                    obtain ⟨hq21, hrun⟩ := chk9 hrun
                    refine va_iald hx hb hK hP 11 10 rfl rfl (ixb_in hq21) dX2_weigh_190 ?_
                    refine lv_iconst (v := 1) hx hb dX2_weigh_191 (by decide) ?_
                    refine lv_iadd hx hb dX2_weigh_192 ?_
                    obtain ⟨hq22, hrun⟩ := chk9 hrun
                    refine va_iast hx hb hK hP hD hS 11 10 rfl rfl (ixb_in hq22) dX2_weigh_193 (fun H locs hP hD hS => ?_)
                    have hP : va_P (dC, dI) cls (List.flatten ([(oX2 (p0a 0) p0a p0k p0n (upw p0w_65 15 (nn (p1_2w 3 (nn v6_65))) ((p0w_65 15 (nn (p1_2w 3 (nn v6_65)))) + 1)) l19), (oX1 (p1a 0) p1a p1k p1n p1w p1l), (oX9 (p1a 3) p1_2a p1_2k p1_2n p1_2w)] : List va_W)) H := hP
                    have hD : va_D A (List.flatten ([(oX2 (p0a 0) p0a p0k p0n (upw p0w_65 15 (nn (p1_2w 3 (nn v6_65))) ((p0w_65 15 (nn (p1_2w 3 (nn v6_65)))) + 1)) l19), (oX1 (p1a 0) p1a p1k p1n p1w p1l), (oX9 (p1a 3) p1_2a p1_2k p1_2n p1_2w)] : List va_W)) := hD
                    obtain ⟨w23, ew23, hrun⟩ := let9 hrun
                    rw [← ew23] at hP hD
                    refine lv_aload_n hx hb dX2_weigh_194 rfl (lv_at hl 0 rfl) ?_
                    refine va_get (D := (dC, dI)) (ci := 9) (v := .ref (p0a 16)) (C := RX2) (T := TX2) (N := 19) hx hb hts i_X2 hown hK hP 0 rfl rfl 15 (by decide) (hts _ qw686) (fun _ h9 => h9) rfl dX2_weigh_195 ?_
                    refine lv_aload_n hx hb dX2_weigh_198 rfl (lv_at hl 2 rfl) ?_
                    refine va_get (D := (dC, dI)) (ci := 3) (v := .ref (p1_2a 3)) (C := RX9) (T := TX9) (N := 6) hx hb hts i_X9 hown hK hP 34 rfl rfl 2 (by decide) (hts _ qw701) (fun _ h9 => h9) rfl dX2_weigh_199 ?_
                    refine lv_iload hx hb dX2_weigh_202 (lv_at hl 5 rfl) ?_
                    obtain ⟨hq24, hrun⟩ := chk9 hrun
                    refine va_iald hx hb hK hP 36 33 rfl rfl (ixb_in hq24) dX2_weigh_204 ?_
                    refine lv_iload hx hb dX2_weigh_205 (lv_at hl 5 rfl) ?_
                    obtain ⟨hq25, hrun⟩ := chk9 hrun
                    refine va_iast hx hb hK hP hD hS 12 11 rfl rfl (ixb_in hq25) dX2_weigh_207 (fun H locs hP hD hS => ?_)
                    have hP : va_P (dC, dI) cls (List.flatten ([(oX2 (p0a 0) p0a p0k p0n (upw w23 16 (nn (p1_2w 3 (nn v6_65))) v6_65) l19), (oX1 (p1a 0) p1a p1k p1n p1w p1l), (oX9 (p1a 3) p1_2a p1_2k p1_2n p1_2w)] : List va_W)) H := hP
                    have hD : va_D A (List.flatten ([(oX2 (p0a 0) p0a p0k p0n (upw w23 16 (nn (p1_2w 3 (nn v6_65))) v6_65) l19), (oX1 (p1a 0) p1a p1k p1n p1w p1l), (oX9 (p1a 3) p1_2a p1_2k p1_2n p1_2w)] : List va_W)) := hD
                    obtain ⟨w26, ew26, hrun⟩ := let9 hrun
                    rw [← ew26] at hP hD
                    exact J208 w26 l19 _ _ _ hrun hP hD hK hS (lv_sub hl [0, 1, 2, 3, 4, 5] rfl)
                rcases br9 hrun with ⟨hc27, hrun⟩ | ⟨hc27, hrun⟩
                · refine lv_if_eq (tgt := 151) hx hb dX2_weigh_114 (by decide) (fun _ => ?_) (fun c => absurd hc27 c)
                  exact J151 p0l_104 _ _ _ hrun hP hD hK hS (lv_sub hl [0, 1, 2, 3, 4, 5] rfl)
                · refine lv_if_eq (tgt := 151) hx hb dX2_weigh_114 (by decide) (fun c => absurd c hc27) (fun _ => ?_)
                  refine lv_aload_n hx hb dX2_weigh_117 rfl (lv_at hl 2 rfl) ?_
                  refine va_get (D := (dC, dI)) (ci := 3) (v := .ref (p1_2a 5)) (C := RX9) (T := TX9) (N := 6) hx hb hts i_X9 hown hK hP 34 rfl rfl 4 (by decide) (hts _ qw707) (fun _ h9 => h9) rfl dX2_weigh_118 ?_
                  refine lv_iload hx hb dX2_weigh_121 (lv_at hl 5 rfl) ?_
                  obtain ⟨hq28, hrun⟩ := chk9 hrun
                  refine va_iald hx hb hK hP 38 35 rfl rfl (ixb_in hq28) dX2_weigh_123 ?_
                  refine lv_aload_n hx hb dX2_weigh_124 rfl (lv_at hl 2 rfl) ?_
                  refine va_get (D := (dC, dI)) (ci := 3) (v := .ref (p1_2a 4)) (C := RX9) (T := TX9) (N := 6) hx hb hts i_X9 hown hK hP 34 rfl rfl 3 (by decide) (hts _ qw716) (fun _ h9 => h9) rfl dX2_weigh_125 ?_
                  refine lv_iload hx hb dX2_weigh_128 (lv_at hl 5 rfl) ?_
                  obtain ⟨hq29, hrun⟩ := chk9 hrun
                  refine va_iald hx hb hK hP 37 34 rfl rfl (ixb_in hq29) dX2_weigh_130 ?_
                  rcases br9 hrun with ⟨hc30, hrun⟩ | ⟨hc30, hrun⟩
                  · refine lv_icmp_eq (tgt := 151) hx hb dX2_weigh_131 (by decide) (fun _ => ?_) (fun c => absurd hc30 c)
                    exact J151 p0l_104 _ _ _ hrun hP hD hK hS (lv_sub hl [0, 1, 2, 3, 4, 5] rfl)
                  · refine lv_icmp_eq (tgt := 151) hx hb dX2_weigh_131 (by decide) (fun c => absurd c hc30) (fun _ => ?_)
                    refine lv_aload_n hx hb dX2_weigh_134 rfl (lv_at hl 0 rfl) ?_
                    refine va_get (D := (dC, dI)) (ci := 9) (v := .ref (p0a 14)) (C := RX2) (T := TX2) (N := 19) hx hb hts i_X2 hown hK hP 0 rfl rfl 13 (by decide) (hts _ qw684) (fun _ h9 => h9) rfl dX2_weigh_135 ?_
                    refine lv_aload_n hx hb dX2_weigh_138 rfl (lv_at hl 2 rfl) ?_
                    refine va_get (D := (dC, dI)) (ci := 3) (v := .ref (p1_2a 5)) (C := RX9) (T := TX9) (N := 6) hx hb hts i_X9 hown hK hP 34 rfl rfl 4 (by decide) (hts _ qw707) (fun _ h9 => h9) rfl dX2_weigh_139 ?_
                    refine lv_iload hx hb dX2_weigh_142 (lv_at hl 5 rfl) ?_
                    obtain ⟨hq31, hrun⟩ := chk9 hrun
                    refine va_iald hx hb hK hP 38 35 rfl rfl (ixb_in hq31) dX2_weigh_144 ?_
                    refine lv_dup2_11 hx hb dX2_weigh_145 rfl rfl ?_
                    obtain ⟨hq32, hrun⟩ := chk9 hrun
                    refine va_lald hx hb hK hP 10 9 rfl rfl (ixb_in hq32) dX2_weigh_146 ?_
                    refine lv_lload hx hb dX2_weigh_147 (lv_at hl 4 rfl) ?_
                    refine lv_ladd hx hb dX2_weigh_149 ?_
                    obtain ⟨hq33, hrun⟩ := chk9 hrun
                    refine va_last hx hb hK hP hD hS 10 9 rfl rfl (ixb_in hq33) dX2_weigh_150 (fun H locs hP hD hS => ?_)
                    have hP : va_P (dC, dI) cls (List.flatten ([(oX2 (p0a 0) p0a p0k p0n p0w_65 (upl p0l_104 14 (nn (p1_2w 5 (nn v6_65))) ((p0l_104 14 (nn (p1_2w 5 (nn v6_65)))) + (((1 : Int64) <<< (((3 * (if (4 : Int32) < (p1w 13 (nn v3_33)) then 4 else (p1w 13 (nn v3_33)))) : Int32).toInt64 &&& 63)))))), (oX1 (p1a 0) p1a p1k p1n p1w p1l), (oX9 (p1a 3) p1_2a p1_2k p1_2n p1_2w)] : List va_W)) H := hP
                    have hD : va_D A (List.flatten ([(oX2 (p0a 0) p0a p0k p0n p0w_65 (upl p0l_104 14 (nn (p1_2w 5 (nn v6_65))) ((p0l_104 14 (nn (p1_2w 5 (nn v6_65)))) + (((1 : Int64) <<< (((3 * (if (4 : Int32) < (p1w 13 (nn v3_33)) then 4 else (p1w 13 (nn v3_33)))) : Int32).toInt64 &&& 63)))))), (oX1 (p1a 0) p1a p1k p1n p1w p1l), (oX9 (p1a 3) p1_2a p1_2k p1_2n p1_2w)] : List va_W)) := hD
                    obtain ⟨l34, el34, hrun⟩ := let9 hrun
                    rw [← el34] at hP hD
                    exact J151 l34 _ _ _ hrun hP hD hK hS (lv_sub hl [0, 1, 2, 3, 4, 5] rfl)
              rcases br9 hrun with ⟨hc35, hrun⟩ | ⟨hc35, hrun⟩
              · refine lv_if_eq (tgt := 104) hx hb dX2_weigh_84 (by decide) (fun _ => ?_) (fun c => absurd hc35 c)
                exact J104 p0l_65 _ _ _ hrun hP hD hK hS (lv_sub hl [1, 2, 3, 4, 5, 6] rfl)
              · refine lv_if_eq (tgt := 104) hx hb dX2_weigh_84 (by decide) (fun c => absurd c hc35) (fun _ => ?_)
                refine lv_aload_n hx hb dX2_weigh_87 rfl (lv_at hl 1 rfl) ?_
                refine va_get (D := (dC, dI)) (ci := 9) (v := .ref (p0a 14)) (C := RX2) (T := TX2) (N := 19) hx hb hts i_X2 hown hK hP 0 rfl rfl 13 (by decide) (hts _ qw684) (fun _ h9 => h9) rfl dX2_weigh_88 ?_
                refine lv_aload_n hx hb dX2_weigh_91 rfl (lv_at hl 3 rfl) ?_
                refine va_get (D := (dC, dI)) (ci := 3) (v := .ref (p1_2a 4)) (C := RX9) (T := TX9) (N := 6) hx hb hts i_X9 hown hK hP 34 rfl rfl 3 (by decide) (hts _ qw716) (fun _ h9 => h9) rfl dX2_weigh_92 ?_
                refine lv_iload hx hb dX2_weigh_95 (lv_at hl 6 rfl) ?_
                obtain ⟨hq36, hrun⟩ := chk9 hrun
                refine va_iald hx hb hK hP 37 34 rfl rfl (ixb_in hq36) dX2_weigh_97 ?_
                refine lv_dup2_11 hx hb dX2_weigh_98 rfl rfl ?_
                obtain ⟨hq37, hrun⟩ := chk9 hrun
                refine va_lald hx hb hK hP 10 9 rfl rfl (ixb_in hq37) dX2_weigh_99 ?_
                refine lv_lload hx hb dX2_weigh_100 (lv_at hl 5 rfl) ?_
                refine lv_ladd hx hb dX2_weigh_102 ?_
                obtain ⟨hq38, hrun⟩ := chk9 hrun
                refine va_last hx hb hK hP hD hS 10 9 rfl rfl (ixb_in hq38) dX2_weigh_103 (fun H locs hP hD hS => ?_)
                have hP : va_P (dC, dI) cls (List.flatten ([(oX2 (p0a 0) p0a p0k p0n p0w_65 (upl p0l_65 14 (nn (p1_2w 4 (nn v6_65))) ((p0l_65 14 (nn (p1_2w 4 (nn v6_65)))) + (((1 : Int64) <<< (((3 * (if (4 : Int32) < (p1w 13 (nn v3_33)) then 4 else (p1w 13 (nn v3_33)))) : Int32).toInt64 &&& 63)))))), (oX1 (p1a 0) p1a p1k p1n p1w p1l), (oX9 (p1a 3) p1_2a p1_2k p1_2n p1_2w)] : List va_W)) H := hP
                have hD : va_D A (List.flatten ([(oX2 (p0a 0) p0a p0k p0n p0w_65 (upl p0l_65 14 (nn (p1_2w 4 (nn v6_65))) ((p0l_65 14 (nn (p1_2w 4 (nn v6_65)))) + (((1 : Int64) <<< (((3 * (if (4 : Int32) < (p1w 13 (nn v3_33)) then 4 else (p1w 13 (nn v3_33)))) : Int32).toInt64 &&& 63)))))), (oX1 (p1a 0) p1a p1k p1n p1w p1l), (oX9 (p1a 3) p1_2a p1_2k p1_2n p1_2w)] : List va_W)) := hD
                obtain ⟨l39, el39, hrun⟩ := let9 hrun
                rw [← el39] at hP hD
                exact J104 l39 _ _ _ hrun hP hD hK hS (lv_sub hl [1, 2, 3, 4, 5, 6] rfl)
        obtain ⟨o65, hc65, hrun⟩ := bnd9 hrun
        refine L65 NF (p1w 4 (nn v3_33)) p0w_33 p0l_33 o65 _ _ _ hc65 hP hD hK hS (lv_sub hl [2, 3, 4, 5, 1, 0] rfl) ?_
        intro H locs ls hP hD hK hS hl
        have hl := hl
        refine lv_aload_n hx hb dX2_weigh_220 rfl (lv_at hl 1 rfl) ?_
        refine va_get (D := (dC, dI)) (ci := 4) (v := .ref (p1a 9)) (C := RX1) (T := TX1) (N := 21) hx hb hts i_X1 hown hK hP 16 rfl rfl 8 (by decide) (hts _ qw717) (fun _ h9 => h9) rfl dX2_weigh_221 ?_
        refine lv_iload_n hx hb dX2_weigh_224 rfl (lv_at hl 3 rfl) ?_
        obtain ⟨hq40, hrun⟩ := chk9 hrun
        refine va_iald hx hb hK hP 22 20 rfl rfl (ixb_in hq40) dX2_weigh_225 ?_
        have J245 : ∀ (p0l_245 : SL) (H : Heap) (locs : List Loc) (ls : Array Slot), (fX2_weigh_J245 (fX2_weigh_L33 p0n p1w p1_2n p1_2w n_33) v3_33 o65 p0l_245) = some o33 → va_P (dC, dI) cls (List.flatten ([(oX2 (p0a 0) p0a p0k p0n (o65.1) p0l_245), (oX1 (p1a 0) p1a p1k p1n p1w p1l), (oX9 (p1a 3) p1_2a p1_2k p1_2n p1_2w)] : List va_W)) H → va_D A (List.flatten ([(oX2 (p0a 0) p0a p0k p0n (o65.1) p0l_245), (oX1 (p1a 0) p1a p1k p1n p1w p1l), (oX9 (p1a 3) p1_2a p1_2k p1_2n p1_2w)] : List va_W)) → va_K (dC, dI) cls (List.flatten ([(tX2 p0k), (tX1 p1k), (tX9 p1_2k)] : List (List (ClassId × FieldType)))) s → va_S A s.heap H locs → lv_has ls 8 [(0, .ref (p0a 0)), (1, .ref (p1a 0)), (2, .ref (p1a 3)), (3, .int v3_33)] → W p l e ({ frames := 2, cells := 0, slots := 0, locals := 47 } : Room) s m ([.ref (p0a 0), .ref (p1a 0)] : List Value).toArray below meth c H locs 0 0 Q (F0 m 245 ls []) := by
          intro p0l_245 H locs ls hrun hP hD hK hS hl 
          unfold fX2_weigh_J245 at hrun
          refine lv_iinc (v := (v3_33 + 1)) (lv' := [(3, .int (v3_33 + 1)), (0, .ref (p0a 0)), (1, .ref (p1a 0)), (2, .ref (p1a 3))]) hx hb dX2_weigh_245 hl (k := 3) rfl rfl (by decide) rfl (fun ls hl => ?_)
          refine lv_goto (tgt := 33) hx hb dX2_weigh_248 (by decide) ?_
          exact IH33 (v3_33 + 1) (o65.1) p0l_245 o33 _ _ _ hrun hP hD hK hS (lv_sub hl [1, 2, 3, 0] rfl) hk33
        rcases br9 hrun with ⟨hc41, hrun⟩ | ⟨hc41, hrun⟩
        · refine lv_if_lt (tgt := 245) hx hb dX2_weigh_226 (by decide) (fun _ => ?_) (fun c => absurd hc41 c)
          exact J245 (o65.2) _ _ _ hrun hP hD hK hS (lv_sub hl [0, 1, 2, 3] rfl)
        · refine lv_if_lt (tgt := 245) hx hb dX2_weigh_226 (by decide) (fun c => absurd c hc41) (fun _ => ?_)
          refine lv_aload_n hx hb dX2_weigh_229 rfl (lv_at hl 0 rfl) ?_
          refine va_get (D := (dC, dI)) (ci := 9) (v := .ref (p0a 14)) (C := RX2) (T := TX2) (N := 19) hx hb hts i_X2 hown hK hP 0 rfl rfl 13 (by decide) (hts _ qw684) (fun _ h9 => h9) rfl dX2_weigh_230 ?_
          refine lv_aload_n hx hb dX2_weigh_233 rfl (lv_at hl 1 rfl) ?_
          refine va_get (D := (dC, dI)) (ci := 4) (v := .ref (p1a 9)) (C := RX1) (T := TX1) (N := 21) hx hb hts i_X1 hown hK hP 16 rfl rfl 8 (by decide) (hts _ qw717) (fun _ h9 => h9) rfl dX2_weigh_234 ?_
          refine lv_iload_n hx hb dX2_weigh_237 rfl (lv_at hl 3 rfl) ?_
          obtain ⟨hq42, hrun⟩ := chk9 hrun
          refine va_iald hx hb hK hP 22 20 rfl rfl (ixb_in hq42) dX2_weigh_238 ?_
          refine lv_dup2_11 hx hb dX2_weigh_239 rfl rfl ?_
          obtain ⟨hq43, hrun⟩ := chk9 hrun
          refine va_lald hx hb hK hP 10 9 rfl rfl (ixb_in hq43) dX2_weigh_240 ?_
          refine lv_lload hx hb dX2_weigh_241 (lv_at hl 4 rfl) ?_
          refine lv_ladd hx hb dX2_weigh_243 ?_
          obtain ⟨hq44, hrun⟩ := chk9 hrun
          refine va_last hx hb hK hP hD hS 10 9 rfl rfl (ixb_in hq44) dX2_weigh_244 (fun H locs hP hD hS => ?_)
          have hP : va_P (dC, dI) cls (List.flatten ([(oX2 (p0a 0) p0a p0k p0n (o65.1) (upl (o65.2) 14 (nn (p1w 9 (nn v3_33))) ((((o65.2) 14) (nn (p1w 9 (nn v3_33)))) + (((1 : Int64) <<< (((3 * (if (4 : Int32) < (p1w 13 (nn v3_33)) then 4 else (p1w 13 (nn v3_33)))) : Int32).toInt64 &&& 63)))))), (oX1 (p1a 0) p1a p1k p1n p1w p1l), (oX9 (p1a 3) p1_2a p1_2k p1_2n p1_2w)] : List va_W)) H := hP
          have hD : va_D A (List.flatten ([(oX2 (p0a 0) p0a p0k p0n (o65.1) (upl (o65.2) 14 (nn (p1w 9 (nn v3_33))) ((((o65.2) 14) (nn (p1w 9 (nn v3_33)))) + (((1 : Int64) <<< (((3 * (if (4 : Int32) < (p1w 13 (nn v3_33)) then 4 else (p1w 13 (nn v3_33)))) : Int32).toInt64 &&& 63)))))), (oX1 (p1a 0) p1a p1k p1n p1w p1l), (oX9 (p1a 3) p1_2a p1_2k p1_2n p1_2w)] : List va_W)) := hD
          obtain ⟨l45, el45, hrun⟩ := let9 hrun
          rw [← el45] at hP hD
          exact J245 l45 _ _ _ hrun hP hD hK hS (lv_sub hl [0, 1, 2, 3] rfl)
  obtain ⟨o33, hc33, hrun⟩ := bnd9 hrun
  refine L33 NF 0 (srw p0w 15 o_2) (srl p0l 14 o_1) o33 _ _ _ hc33 hP hD hK hS (lv_sub hl [2, 3, 1, 0] rfl) ?_
  intro H locs ls hP hD hK hS hl
  have hl := hl
  have ho9 : ((o33.1), (o33.2)) = o := Option.some.inj hrun
  have hP9 : va_P (dC, dI) cls (List.flatten ([(oX2 (p0a 0) p0a p0k p0n (o.1) (o.2)), (oX1 (p1a 0) p1a p1k p1n p1w p1l), (oX9 (p1a 3) p1_2a p1_2k p1_2n p1_2w)] : List va_W)) H := by first | exact hP | (rw [← ho9]; exact hP)
  have hD9 : va_D A (List.flatten ([(oX2 (p0a 0) p0a p0k p0n (o.1) (o.2)), (oX1 (p1a 0) p1a p1k p1n p1w p1l), (oX9 (p1a 3) p1_2a p1_2k p1_2n p1_2w)] : List va_W)) := by first | exact hD | (rw [← ho9]; exact hD)
  subst hQ
  exact W.vret hx hb hr (fun t ht hW => ⟨⟨(), rfl, trivial, ⟨by rw [ht]; exact hP9, va_K.moved hW.alike hK, hD9⟩⟩, hS.F ht⟩) hS.2.2 dX2_weigh_251
