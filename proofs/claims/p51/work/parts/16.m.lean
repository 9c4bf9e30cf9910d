abbrev cX5_joinBlock : ByteArray := prog_7_method_19_code
def yX5_joinBlock : MethodName := ⟨RX5, "joinBlock", "(LGearbox$Flow;I)V"⟩
abbrev cX5_joinOperator : ByteArray := prog_7_method_23_code
def yX5_joinOperator : MethodName := ⟨RX5, "joinOperator", "(LGearbox$Flow;I)V"⟩
abbrev cX5_joinEquals : ByteArray := prog_7_method_16_code
def yX5_joinEquals : MethodName := ⟨RX5, "joinEquals", "(LGearbox$Flow;)I"⟩
abbrev cX5_useStandIns : ByteArray := prog_7_method_18_code
def yX5_useStandIns : MethodName := ⟨RX5, "useStandIns", "(LGearbox$Flow;)V"⟩
abbrev cX5_mayLift : ByteArray := prog_7_method_37_code
def yX5_mayLift : MethodName := ⟨RX5, "mayLift", "(LGearbox$Flow;IJ)Z"⟩
theorem dX5_joinBlock_0 : decode cX5_joinBlock 0 = .ok (.aload_n 1, 1) := by decide +kernel
theorem dX5_joinBlock_1 : decode cX5_joinBlock 1 = .ok (.getfield 55, 3) := by decide +kernel
theorem dX5_joinBlock_4 : decode cX5_joinBlock 4 = .ok (.iload_n 2, 1) := by decide +kernel
theorem dX5_joinBlock_5 : decode cX5_joinBlock 5 = .ok (.iaload, 1) := by decide +kernel
theorem dX5_joinBlock_6 : decode cX5_joinBlock 6 = .ok (.istore_n 3, 1) := by decide +kernel
theorem dX5_joinBlock_7 : decode cX5_joinBlock 7 = .ok (.iload_n 3, 1) := by decide +kernel
theorem dX5_joinBlock_8 : decode cX5_joinBlock 8 = .ok (.ifCond .lt 20, 3) := by decide +kernel
theorem dX5_joinBlock_11 : decode cX5_joinBlock 11 = .ok (.aload_n 0, 1) := by decide +kernel
theorem dX5_joinBlock_12 : decode cX5_joinBlock 12 = .ok (.aload_n 1, 1) := by decide +kernel
theorem dX5_joinBlock_13 : decode cX5_joinBlock 13 = .ok (.iload_n 2, 1) := by decide +kernel
theorem dX5_joinBlock_14 : decode cX5_joinBlock 14 = .ok (.iload_n 3, 1) := by decide +kernel
theorem dX5_joinBlock_15 : decode cX5_joinBlock 15 = .ok (.invokevirtual 227, 3) := by decide +kernel
theorem dX5_joinBlock_18 : decode cX5_joinBlock 18 = .ok (.aload_n 1, 1) := by decide +kernel
theorem dX5_joinBlock_19 : decode cX5_joinBlock 19 = .ok (.getfield 61, 3) := by decide +kernel
theorem dX5_joinBlock_22 : decode cX5_joinBlock 22 = .ok (.iload_n 3, 1) := by decide +kernel
theorem dX5_joinBlock_23 : decode cX5_joinBlock 23 = .ok (.iaload, 1) := by decide +kernel
theorem dX5_joinBlock_24 : decode cX5_joinBlock 24 = .ok (.istore_n 3, 1) := by decide +kernel
theorem dX5_joinBlock_25 : decode cX5_joinBlock 25 = .ok (.goto (-18), 3) := by decide +kernel
theorem dX5_joinBlock_28 : decode cX5_joinBlock 28 = .ok (.aload_n 1, 1) := by decide +kernel
theorem dX5_joinBlock_29 : decode cX5_joinBlock 29 = .ok (.getfield 64, 3) := by decide +kernel
theorem dX5_joinBlock_32 : decode cX5_joinBlock 32 = .ok (.iload_n 2, 1) := by decide +kernel
theorem dX5_joinBlock_33 : decode cX5_joinBlock 33 = .ok (.iaload, 1) := by decide +kernel
theorem dX5_joinBlock_34 : decode cX5_joinBlock 34 = .ok (.istore_n 3, 1) := by decide +kernel
theorem dX5_joinBlock_35 : decode cX5_joinBlock 35 = .ok (.iload_n 3, 1) := by decide +kernel
theorem dX5_joinBlock_36 : decode cX5_joinBlock 36 = .ok (.ifCond .lt 84, 3) := by decide +kernel
theorem dX5_joinBlock_39 : decode cX5_joinBlock 39 = .ok (.aload_n 1, 1) := by decide +kernel
theorem dX5_joinBlock_40 : decode cX5_joinBlock 40 = .ok (.getfield 67, 3) := by decide +kernel
theorem dX5_joinBlock_43 : decode cX5_joinBlock 43 = .ok (.getfield 71, 3) := by decide +kernel
theorem dX5_joinBlock_46 : decode cX5_joinBlock 46 = .ok (.iload_n 3, 1) := by decide +kernel
theorem dX5_joinBlock_47 : decode cX5_joinBlock 47 = .ok (.iaload, 1) := by decide +kernel
theorem dX5_joinBlock_48 : decode cX5_joinBlock 48 = .ok (.istore 4, 2) := by decide +kernel
theorem dX5_joinBlock_50 : decode cX5_joinBlock 50 = .ok (.aload_n 1, 1) := by decide +kernel
theorem dX5_joinBlock_51 : decode cX5_joinBlock 51 = .ok (.getfield 67, 3) := by decide +kernel
theorem dX5_joinBlock_54 : decode cX5_joinBlock 54 = .ok (.getfield 79, 3) := by decide +kernel
theorem dX5_joinBlock_57 : decode cX5_joinBlock 57 = .ok (.iload_n 3, 1) := by decide +kernel
theorem dX5_joinBlock_58 : decode cX5_joinBlock 58 = .ok (.iaload, 1) := by decide +kernel
theorem dX5_joinBlock_59 : decode cX5_joinBlock 59 = .ok (.invokestatic 149, 3) := by decide +kernel
theorem dX5_joinBlock_62 : decode cX5_joinBlock 62 = .ok (.ifCond .eq 9, 3) := by decide +kernel
theorem dX5_joinBlock_65 : decode cX5_joinBlock 65 = .ok (.aload_n 0, 1) := by decide +kernel
theorem dX5_joinBlock_66 : decode cX5_joinBlock 66 = .ok (.aload_n 1, 1) := by decide +kernel
theorem dX5_joinBlock_67 : decode cX5_joinBlock 67 = .ok (.iload_n 3, 1) := by decide +kernel
theorem dX5_joinBlock_68 : decode cX5_joinBlock 68 = .ok (.invokevirtual 231, 3) := by decide +kernel
theorem dX5_joinBlock_71 : decode cX5_joinBlock 71 = .ok (.iload 4, 2) := by decide +kernel
theorem dX5_joinBlock_73 : decode cX5_joinBlock 73 = .ok (.ifCond .lt 34, 3) := by decide +kernel
theorem dX5_joinBlock_76 : decode cX5_joinBlock 76 = .ok (.aload_n 1, 1) := by decide +kernel
theorem dX5_joinBlock_77 : decode cX5_joinBlock 77 = .ok (.getfield 67, 3) := by decide +kernel
theorem dX5_joinBlock_80 : decode cX5_joinBlock 80 = .ok (.getfield 79, 3) := by decide +kernel
theorem dX5_joinBlock_83 : decode cX5_joinBlock 83 = .ok (.iload_n 3, 1) := by decide +kernel
theorem dX5_joinBlock_84 : decode cX5_joinBlock 84 = .ok (.iaload, 1) := by decide +kernel
theorem dX5_joinBlock_85 : decode cX5_joinBlock 85 = .ok (.bipush 16, 2) := by decide +kernel
theorem dX5_joinBlock_87 : decode cX5_joinBlock 87 = .ok (.if_icmp .gt 20, 3) := by decide +kernel
theorem dX5_joinBlock_90 : decode cX5_joinBlock 90 = .ok (.aload_n 0, 1) := by decide +kernel
theorem dX5_joinBlock_91 : decode cX5_joinBlock 91 = .ok (.getfield 24, 3) := by decide +kernel
theorem dX5_joinBlock_94 : decode cX5_joinBlock 94 = .ok (.iload 4, 2) := by decide +kernel
theorem dX5_joinBlock_96 : decode cX5_joinBlock 96 = .ok (.iaload, 1) := by decide +kernel
theorem dX5_joinBlock_97 : decode cX5_joinBlock 97 = .ok (.ifCond .ge 10, 3) := by decide +kernel
theorem dX5_joinBlock_100 : decode cX5_joinBlock 100 = .ok (.aload_n 0, 1) := by decide +kernel
theorem dX5_joinBlock_101 : decode cX5_joinBlock 101 = .ok (.aload_n 1, 1) := by decide +kernel
theorem dX5_joinBlock_102 : decode cX5_joinBlock 102 = .ok (.iload_n 2, 1) := by decide +kernel
theorem dX5_joinBlock_103 : decode cX5_joinBlock 103 = .ok (.iload_n 3, 1) := by decide +kernel
theorem dX5_joinBlock_104 : decode cX5_joinBlock 104 = .ok (.invokevirtual 234, 3) := by decide +kernel
theorem dX5_joinBlock_107 : decode cX5_joinBlock 107 = .ok (.aload_n 1, 1) := by decide +kernel
theorem dX5_joinBlock_108 : decode cX5_joinBlock 108 = .ok (.getfield 67, 3) := by decide +kernel
theorem dX5_joinBlock_111 : decode cX5_joinBlock 111 = .ok (.getfield 76, 3) := by decide +kernel
theorem dX5_joinBlock_114 : decode cX5_joinBlock 114 = .ok (.iload_n 3, 1) := by decide +kernel
theorem dX5_joinBlock_115 : decode cX5_joinBlock 115 = .ok (.iaload, 1) := by decide +kernel
theorem dX5_joinBlock_116 : decode cX5_joinBlock 116 = .ok (.istore_n 3, 1) := by decide +kernel
theorem dX5_joinBlock_117 : decode cX5_joinBlock 117 = .ok (.goto (-82), 3) := by decide +kernel
theorem dX5_joinBlock_120 : decode cX5_joinBlock 120 = .ok (.return_, 1) := by decide +kernel
theorem dX5_joinEquals_0 : decode cX5_joinEquals 0 = .ok (.aload_n 0, 1) := by decide +kernel
theorem dX5_joinEquals_1 : decode cX5_joinEquals 1 = .ok (.aload_n 1, 1) := by decide +kernel
theorem dX5_joinEquals_2 : decode cX5_joinEquals 2 = .ok (.invokevirtual 191, 3) := by decide +kernel
theorem dX5_joinEquals_5 : decode cX5_joinEquals 5 = .ok (.aload_n 0, 1) := by decide +kernel
theorem dX5_joinEquals_6 : decode cX5_joinEquals 6 = .ok (.getfield 24, 3) := by decide +kernel
theorem dX5_joinEquals_9 : decode cX5_joinEquals 9 = .ok (.iconst (-1), 1) := by decide +kernel
theorem dX5_joinEquals_10 : decode cX5_joinEquals 10 = .ok (.invokestatic 43, 3) := by decide +kernel
theorem dX5_joinEquals_13 : decode cX5_joinEquals 13 = .ok (.aload_n 0, 1) := by decide +kernel
theorem dX5_joinEquals_14 : decode cX5_joinEquals 14 = .ok (.getfield 27, 3) := by decide +kernel
theorem dX5_joinEquals_17 : decode cX5_joinEquals 17 = .ok (.iconst 0, 1) := by decide +kernel
theorem dX5_joinEquals_18 : decode cX5_joinEquals 18 = .ok (.invokestatic 43, 3) := by decide +kernel
theorem dX5_joinEquals_21 : decode cX5_joinEquals 21 = .ok (.aload_n 0, 1) := by decide +kernel
theorem dX5_joinEquals_22 : decode cX5_joinEquals 22 = .ok (.iconst 0, 1) := by decide +kernel
theorem dX5_joinEquals_23 : decode cX5_joinEquals 23 = .ok (.putfield 194, 3) := by decide +kernel
theorem dX5_joinEquals_26 : decode cX5_joinEquals 26 = .ok (.iconst 1, 1) := by decide +kernel
theorem dX5_joinEquals_27 : decode cX5_joinEquals 27 = .ok (.istore_n 2, 1) := by decide +kernel
theorem dX5_joinEquals_28 : decode cX5_joinEquals 28 = .ok (.aload_n 0, 1) := by decide +kernel
theorem dX5_joinEquals_29 : decode cX5_joinEquals 29 = .ok (.getfield 36, 3) := by decide +kernel
theorem dX5_joinEquals_32 : decode cX5_joinEquals 32 = .ok (.iconst 0, 1) := by decide +kernel
theorem dX5_joinEquals_33 : decode cX5_joinEquals 33 = .ok (.iconst 0, 1) := by decide +kernel
theorem dX5_joinEquals_34 : decode cX5_joinEquals 34 = .ok (.iastore, 1) := by decide +kernel
theorem dX5_joinEquals_35 : decode cX5_joinEquals 35 = .ok (.iconst 0, 1) := by decide +kernel
theorem dX5_joinEquals_36 : decode cX5_joinEquals 36 = .ok (.istore_n 3, 1) := by decide +kernel
theorem dX5_joinEquals_37 : decode cX5_joinEquals 37 = .ok (.iload_n 2, 1) := by decide +kernel
theorem dX5_joinEquals_38 : decode cX5_joinEquals 38 = .ok (.ifCond .le 75, 3) := by decide +kernel
theorem dX5_joinEquals_41 : decode cX5_joinEquals 41 = .ok (.iload_n 3, 1) := by decide +kernel
theorem dX5_joinEquals_42 : decode cX5_joinEquals 42 = .ok (.bipush 60, 2) := by decide +kernel
theorem dX5_joinEquals_44 : decode cX5_joinEquals 44 = .ok (.if_icmp .ge 69, 3) := by decide +kernel
theorem dX5_joinEquals_47 : decode cX5_joinEquals 47 = .ok (.iinc 2 (-1), 3) := by decide +kernel
theorem dX5_joinEquals_50 : decode cX5_joinEquals 50 = .ok (.aload_n 0, 1) := by decide +kernel
theorem dX5_joinEquals_51 : decode cX5_joinEquals 51 = .ok (.getfield 36, 3) := by decide +kernel
theorem dX5_joinEquals_54 : decode cX5_joinEquals 54 = .ok (.iload_n 2, 1) := by decide +kernel
theorem dX5_joinEquals_55 : decode cX5_joinEquals 55 = .ok (.iaload, 1) := by decide +kernel
theorem dX5_joinEquals_56 : decode cX5_joinEquals 56 = .ok (.istore 4, 2) := by decide +kernel
theorem dX5_joinEquals_58 : decode cX5_joinEquals 58 = .ok (.aload_n 0, 1) := by decide +kernel
theorem dX5_joinEquals_59 : decode cX5_joinEquals 59 = .ok (.aload_n 1, 1) := by decide +kernel
theorem dX5_joinEquals_60 : decode cX5_joinEquals 60 = .ok (.iload 4, 2) := by decide +kernel
theorem dX5_joinEquals_62 : decode cX5_joinEquals 62 = .ok (.invokevirtual 197, 3) := by decide +kernel
theorem dX5_joinEquals_65 : decode cX5_joinEquals 65 = .ok (.aload_n 1, 1) := by decide +kernel
theorem dX5_joinEquals_66 : decode cX5_joinEquals 66 = .ok (.getfield 49, 3) := by decide +kernel
theorem dX5_joinEquals_69 : decode cX5_joinEquals 69 = .ok (.iconst 1, 1) := by decide +kernel
theorem dX5_joinEquals_70 : decode cX5_joinEquals 70 = .ok (.isub, 1) := by decide +kernel
theorem dX5_joinEquals_71 : decode cX5_joinEquals 71 = .ok (.istore 5, 2) := by decide +kernel
theorem dX5_joinEquals_73 : decode cX5_joinEquals 73 = .ok (.iload 5, 2) := by decide +kernel
theorem dX5_joinEquals_75 : decode cX5_joinEquals 75 = .ok (.ifCond .le 32, 3) := by decide +kernel
theorem dX5_joinEquals_78 : decode cX5_joinEquals 78 = .ok (.aload_n 1, 1) := by decide +kernel
theorem dX5_joinEquals_79 : decode cX5_joinEquals 79 = .ok (.getfield 201, 3) := by decide +kernel
theorem dX5_joinEquals_82 : decode cX5_joinEquals 82 = .ok (.iload 5, 2) := by decide +kernel
theorem dX5_joinEquals_84 : decode cX5_joinEquals 84 = .ok (.iaload, 1) := by decide +kernel
theorem dX5_joinEquals_85 : decode cX5_joinEquals 85 = .ok (.iload 4, 2) := by decide +kernel
theorem dX5_joinEquals_87 : decode cX5_joinEquals 87 = .ok (.if_icmp .ne 14, 3) := by decide +kernel
theorem dX5_joinEquals_90 : decode cX5_joinEquals 90 = .ok (.aload_n 0, 1) := by decide +kernel
theorem dX5_joinEquals_91 : decode cX5_joinEquals 91 = .ok (.getfield 36, 3) := by decide +kernel
theorem dX5_joinEquals_94 : decode cX5_joinEquals 94 = .ok (.iload_n 2, 1) := by decide +kernel
theorem dX5_joinEquals_95 : decode cX5_joinEquals 95 = .ok (.iload 5, 2) := by decide +kernel
theorem dX5_joinEquals_97 : decode cX5_joinEquals 97 = .ok (.iastore, 1) := by decide +kernel
theorem dX5_joinEquals_98 : decode cX5_joinEquals 98 = .ok (.iinc 2 1, 3) := by decide +kernel
theorem dX5_joinEquals_101 : decode cX5_joinEquals 101 = .ok (.iinc 5 (-1), 3) := by decide +kernel
theorem dX5_joinEquals_104 : decode cX5_joinEquals 104 = .ok (.goto (-31), 3) := by decide +kernel
theorem dX5_joinEquals_107 : decode cX5_joinEquals 107 = .ok (.iinc 3 1, 3) := by decide +kernel
theorem dX5_joinEquals_110 : decode cX5_joinEquals 110 = .ok (.goto (-73), 3) := by decide +kernel
theorem dX5_joinEquals_113 : decode cX5_joinEquals 113 = .ok (.iconst 0, 1) := by decide +kernel
theorem dX5_joinEquals_114 : decode cX5_joinEquals 114 = .ok (.istore_n 3, 1) := by decide +kernel
theorem dX5_joinEquals_115 : decode cX5_joinEquals 115 = .ok (.iconst 0, 1) := by decide +kernel
theorem dX5_joinEquals_116 : decode cX5_joinEquals 116 = .ok (.istore 4, 2) := by decide +kernel
theorem dX5_joinEquals_118 : decode cX5_joinEquals 118 = .ok (.iload 4, 2) := by decide +kernel
theorem dX5_joinEquals_120 : decode cX5_joinEquals 120 = .ok (.aload_n 1, 1) := by decide +kernel
theorem dX5_joinEquals_121 : decode cX5_joinEquals 121 = .ok (.getfield 204, 3) := by decide +kernel
theorem dX5_joinEquals_124 : decode cX5_joinEquals 124 = .ok (.if_icmp .ge 59, 3) := by decide +kernel
theorem dX5_joinEquals_127 : decode cX5_joinEquals 127 = .ok (.iload_n 3, 1) := by decide +kernel
theorem dX5_joinEquals_128 : decode cX5_joinEquals 128 = .ok (.aload_n 0, 1) := by decide +kernel
theorem dX5_joinEquals_129 : decode cX5_joinEquals 129 = .ok (.getfield 24, 3) := by decide +kernel
theorem dX5_joinEquals_132 : decode cX5_joinEquals 132 = .ok (.iload 4, 2) := by decide +kernel
theorem dX5_joinEquals_134 : decode cX5_joinEquals 134 = .ok (.iaload, 1) := by decide +kernel
theorem dX5_joinEquals_135 : decode cX5_joinEquals 135 = .ok (.ifCond .ge 13, 3) := by decide +kernel
theorem dX5_joinEquals_138 : decode cX5_joinEquals 138 = .ok (.aload_n 0, 1) := by decide +kernel
theorem dX5_joinEquals_139 : decode cX5_joinEquals 139 = .ok (.getfield 27, 3) := by decide +kernel
theorem dX5_joinEquals_142 : decode cX5_joinEquals 142 = .ok (.iload 4, 2) := by decide +kernel
theorem dX5_joinEquals_144 : decode cX5_joinEquals 144 = .ok (.iaload, 1) := by decide +kernel
theorem dX5_joinEquals_145 : decode cX5_joinEquals 145 = .ok (.ifCond .eq 7, 3) := by decide +kernel
theorem dX5_joinEquals_148 : decode cX5_joinEquals 148 = .ok (.iconst 1, 1) := by decide +kernel
theorem dX5_joinEquals_149 : decode cX5_joinEquals 149 = .ok (.goto 4, 3) := by decide +kernel
theorem dX5_joinEquals_152 : decode cX5_joinEquals 152 = .ok (.iconst 0, 1) := by decide +kernel
theorem dX5_joinEquals_153 : decode cX5_joinEquals 153 = .ok (.iadd, 1) := by decide +kernel
theorem dX5_joinEquals_154 : decode cX5_joinEquals 154 = .ok (.istore_n 3, 1) := by decide +kernel
theorem dX5_joinEquals_155 : decode cX5_joinEquals 155 = .ok (.aload_n 0, 1) := by decide +kernel
theorem dX5_joinEquals_156 : decode cX5_joinEquals 156 = .ok (.getfield 27, 3) := by decide +kernel
theorem dX5_joinEquals_159 : decode cX5_joinEquals 159 = .ok (.iload 4, 2) := by decide +kernel
theorem dX5_joinEquals_161 : decode cX5_joinEquals 161 = .ok (.aload_n 0, 1) := by decide +kernel
theorem dX5_joinEquals_162 : decode cX5_joinEquals 162 = .ok (.getfield 24, 3) := by decide +kernel
theorem dX5_joinEquals_165 : decode cX5_joinEquals 165 = .ok (.iload 4, 2) := by decide +kernel
theorem dX5_joinEquals_167 : decode cX5_joinEquals 167 = .ok (.iaload, 1) := by decide +kernel
theorem dX5_joinEquals_168 : decode cX5_joinEquals 168 = .ok (.ifCond .lt 7, 3) := by decide +kernel
theorem dX5_joinEquals_171 : decode cX5_joinEquals 171 = .ok (.iconst 1, 1) := by decide +kernel
theorem dX5_joinEquals_172 : decode cX5_joinEquals 172 = .ok (.goto 4, 3) := by decide +kernel
theorem dX5_joinEquals_175 : decode cX5_joinEquals 175 = .ok (.iconst 0, 1) := by decide +kernel
theorem dX5_joinEquals_176 : decode cX5_joinEquals 176 = .ok (.iastore, 1) := by decide +kernel
theorem dX5_joinEquals_177 : decode cX5_joinEquals 177 = .ok (.iinc 4 1, 3) := by decide +kernel
theorem dX5_joinEquals_180 : decode cX5_joinEquals 180 = .ok (.goto (-62), 3) := by decide +kernel
theorem dX5_joinEquals_183 : decode cX5_joinEquals 183 = .ok (.aload_n 1, 1) := by decide +kernel
theorem dX5_joinEquals_184 : decode cX5_joinEquals 184 = .ok (.aload_n 0, 1) := by decide +kernel
theorem dX5_joinEquals_185 : decode cX5_joinEquals 185 = .ok (.getfield 27, 3) := by decide +kernel
theorem dX5_joinEquals_188 : decode cX5_joinEquals 188 = .ok (.invokevirtual 207, 3) := by decide +kernel
theorem dX5_joinEquals_191 : decode cX5_joinEquals 191 = .ok (.aload_n 0, 1) := by decide +kernel
theorem dX5_joinEquals_192 : decode cX5_joinEquals 192 = .ok (.aload_n 1, 1) := by decide +kernel
theorem dX5_joinEquals_193 : decode cX5_joinEquals 193 = .ok (.invokevirtual 211, 3) := by decide +kernel
theorem dX5_joinEquals_196 : decode cX5_joinEquals 196 = .ok (.iload_n 3, 1) := by decide +kernel
theorem dX5_joinEquals_197 : decode cX5_joinEquals 197 = .ok (.ireturn, 1) := by decide +kernel
theorem dX5_joinOperator_0 : decode cX5_joinOperator 0 = .ok (.aload_n 1, 1) := by decide +kernel
theorem dX5_joinOperator_1 : decode cX5_joinOperator 1 = .ok (.getfield 67, 3) := by decide +kernel
theorem dX5_joinOperator_4 : decode cX5_joinOperator 4 = .ok (.astore_n 3, 1) := by decide +kernel
theorem dX5_joinOperator_5 : decode cX5_joinOperator 5 = .ok (.aload_n 3, 1) := by decide +kernel
theorem dX5_joinOperator_6 : decode cX5_joinOperator 6 = .ok (.getfield 79, 3) := by decide +kernel
theorem dX5_joinOperator_9 : decode cX5_joinOperator 9 = .ok (.iload_n 2, 1) := by decide +kernel
theorem dX5_joinOperator_10 : decode cX5_joinOperator 10 = .ok (.iaload, 1) := by decide +kernel
theorem dX5_joinOperator_11 : decode cX5_joinOperator 11 = .ok (.istore 4, 2) := by decide +kernel
theorem dX5_joinOperator_13 : decode cX5_joinOperator 13 = .ok (.aload_n 3, 1) := by decide +kernel
theorem dX5_joinOperator_14 : decode cX5_joinOperator 14 = .ok (.getfield 71, 3) := by decide +kernel
theorem dX5_joinOperator_17 : decode cX5_joinOperator 17 = .ok (.iload_n 2, 1) := by decide +kernel
theorem dX5_joinOperator_18 : decode cX5_joinOperator 18 = .ok (.iaload, 1) := by decide +kernel
theorem dX5_joinOperator_19 : decode cX5_joinOperator 19 = .ok (.istore 5, 2) := by decide +kernel
theorem dX5_joinOperator_21 : decode cX5_joinOperator 21 = .ok (.aload_n 0, 1) := by decide +kernel
theorem dX5_joinOperator_22 : decode cX5_joinOperator 22 = .ok (.aload_n 3, 1) := by decide +kernel
theorem dX5_joinOperator_23 : decode cX5_joinOperator 23 = .ok (.getfield 82, 3) := by decide +kernel
theorem dX5_joinOperator_26 : decode cX5_joinOperator 26 = .ok (.iload_n 2, 1) := by decide +kernel
theorem dX5_joinOperator_27 : decode cX5_joinOperator 27 = .ok (.iaload, 1) := by decide +kernel
theorem dX5_joinOperator_28 : decode cX5_joinOperator 28 = .ok (.invokevirtual 214, 3) := by decide +kernel
theorem dX5_joinOperator_31 : decode cX5_joinOperator 31 = .ok (.istore 6, 2) := by decide +kernel
theorem dX5_joinOperator_33 : decode cX5_joinOperator 33 = .ok (.aload_n 0, 1) := by decide +kernel
theorem dX5_joinOperator_34 : decode cX5_joinOperator 34 = .ok (.aload_n 3, 1) := by decide +kernel
theorem dX5_joinOperator_35 : decode cX5_joinOperator 35 = .ok (.getfield 93, 3) := by decide +kernel
theorem dX5_joinOperator_38 : decode cX5_joinOperator 38 = .ok (.iload_n 2, 1) := by decide +kernel
theorem dX5_joinOperator_39 : decode cX5_joinOperator 39 = .ok (.iaload, 1) := by decide +kernel
theorem dX5_joinOperator_40 : decode cX5_joinOperator 40 = .ok (.invokevirtual 214, 3) := by decide +kernel
theorem dX5_joinOperator_43 : decode cX5_joinOperator 43 = .ok (.istore 7, 2) := by decide +kernel
theorem dX5_joinOperator_45 : decode cX5_joinOperator 45 = .ok (.aload_n 3, 1) := by decide +kernel
theorem dX5_joinOperator_46 : decode cX5_joinOperator 46 = .ok (.getfield 82, 3) := by decide +kernel
theorem dX5_joinOperator_49 : decode cX5_joinOperator 49 = .ok (.iload_n 2, 1) := by decide +kernel
theorem dX5_joinOperator_50 : decode cX5_joinOperator 50 = .ok (.iload 6, 2) := by decide +kernel
theorem dX5_joinOperator_52 : decode cX5_joinOperator 52 = .ok (.iastore, 1) := by decide +kernel
theorem dX5_joinOperator_53 : decode cX5_joinOperator 53 = .ok (.aload_n 3, 1) := by decide +kernel
theorem dX5_joinOperator_54 : decode cX5_joinOperator 54 = .ok (.getfield 93, 3) := by decide +kernel
theorem dX5_joinOperator_57 : decode cX5_joinOperator 57 = .ok (.iload_n 2, 1) := by decide +kernel
theorem dX5_joinOperator_58 : decode cX5_joinOperator 58 = .ok (.iload 7, 2) := by decide +kernel
theorem dX5_joinOperator_60 : decode cX5_joinOperator 60 = .ok (.iastore, 1) := by decide +kernel
theorem dX5_joinOperator_61 : decode cX5_joinOperator 61 = .ok (.aload_n 0, 1) := by decide +kernel
theorem dX5_joinOperator_62 : decode cX5_joinOperator 62 = .ok (.aload_n 1, 1) := by decide +kernel
theorem dX5_joinOperator_63 : decode cX5_joinOperator 63 = .ok (.iload 6, 2) := by decide +kernel
theorem dX5_joinOperator_65 : decode cX5_joinOperator 65 = .ok (.invokevirtual 85, 3) := by decide +kernel
theorem dX5_joinOperator_68 : decode cX5_joinOperator 68 = .ok (.ifCond .eq 63, 3) := by decide +kernel
theorem dX5_joinOperator_71 : decode cX5_joinOperator 71 = .ok (.aload_n 0, 1) := by decide +kernel
theorem dX5_joinOperator_72 : decode cX5_joinOperator 72 = .ok (.aload_n 1, 1) := by decide +kernel
theorem dX5_joinOperator_73 : decode cX5_joinOperator 73 = .ok (.iload 7, 2) := by decide +kernel
theorem dX5_joinOperator_75 : decode cX5_joinOperator 75 = .ok (.invokevirtual 85, 3) := by decide +kernel
theorem dX5_joinOperator_78 : decode cX5_joinOperator 78 = .ok (.ifCond .eq 53, 3) := by decide +kernel
theorem dX5_joinOperator_81 : decode cX5_joinOperator 81 = .ok (.iload 4, 2) := by decide +kernel
theorem dX5_joinOperator_83 : decode cX5_joinOperator 83 = .ok (.aload_n 0, 1) := by decide +kernel
theorem dX5_joinOperator_84 : decode cX5_joinOperator 84 = .ok (.aload_n 1, 1) := by decide +kernel
theorem dX5_joinOperator_85 : decode cX5_joinOperator 85 = .ok (.iload 7, 2) := by decide +kernel
theorem dX5_joinOperator_87 : decode cX5_joinOperator 87 = .ok (.invokevirtual 89, 3) := by decide +kernel
theorem dX5_joinOperator_90 : decode cX5_joinOperator 90 = .ok (.invokestatic 153, 3) := by decide +kernel
theorem dX5_joinOperator_93 : decode cX5_joinOperator 93 = .ok (.ifCond .ne 38, 3) := by decide +kernel
theorem dX5_joinOperator_96 : decode cX5_joinOperator 96 = .ok (.aload_n 0, 1) := by decide +kernel
theorem dX5_joinOperator_97 : decode cX5_joinOperator 97 = .ok (.getfield 27, 3) := by decide +kernel
theorem dX5_joinOperator_100 : decode cX5_joinOperator 100 = .ok (.iload 5, 2) := by decide +kernel
theorem dX5_joinOperator_102 : decode cX5_joinOperator 102 = .ok (.iconst 1, 1) := by decide +kernel
theorem dX5_joinOperator_103 : decode cX5_joinOperator 103 = .ok (.iastore, 1) := by decide +kernel
theorem dX5_joinOperator_104 : decode cX5_joinOperator 104 = .ok (.aload_n 3, 1) := by decide +kernel
theorem dX5_joinOperator_105 : decode cX5_joinOperator 105 = .ok (.iload_n 2, 1) := by decide +kernel
theorem dX5_joinOperator_106 : decode cX5_joinOperator 106 = .ok (.iload 4, 2) := by decide +kernel
theorem dX5_joinOperator_108 : decode cX5_joinOperator 108 = .ok (.aload_n 0, 1) := by decide +kernel
theorem dX5_joinOperator_109 : decode cX5_joinOperator 109 = .ok (.aload_n 1, 1) := by decide +kernel
theorem dX5_joinOperator_110 : decode cX5_joinOperator 110 = .ok (.iload 6, 2) := by decide +kernel
theorem dX5_joinOperator_112 : decode cX5_joinOperator 112 = .ok (.invokevirtual 89, 3) := by decide +kernel
theorem dX5_joinOperator_115 : decode cX5_joinOperator 115 = .ok (.aload_n 0, 1) := by decide +kernel
theorem dX5_joinOperator_116 : decode cX5_joinOperator 116 = .ok (.aload_n 1, 1) := by decide +kernel
theorem dX5_joinOperator_117 : decode cX5_joinOperator 117 = .ok (.iload 7, 2) := by decide +kernel
theorem dX5_joinOperator_119 : decode cX5_joinOperator 119 = .ok (.invokevirtual 89, 3) := by decide +kernel
theorem dX5_joinOperator_122 : decode cX5_joinOperator 122 = .ok (.invokestatic 157, 3) := by decide +kernel
theorem dX5_joinOperator_125 : decode cX5_joinOperator 125 = .ok (.invokestatic 181, 3) := by decide +kernel
theorem dX5_joinOperator_128 : decode cX5_joinOperator 128 = .ok (.goto 162, 3) := by decide +kernel
theorem dX5_joinOperator_131 : decode cX5_joinOperator 131 = .ok (.aload_n 0, 1) := by decide +kernel
theorem dX5_joinOperator_132 : decode cX5_joinOperator 132 = .ok (.aload_n 1, 1) := by decide +kernel
theorem dX5_joinOperator_133 : decode cX5_joinOperator 133 = .ok (.iload 4, 2) := by decide +kernel
theorem dX5_joinOperator_135 : decode cX5_joinOperator 135 = .ok (.iload 6, 2) := by decide +kernel
theorem dX5_joinOperator_137 : decode cX5_joinOperator 137 = .ok (.iload 7, 2) := by decide +kernel
theorem dX5_joinOperator_139 : decode cX5_joinOperator 139 = .ok (.invokevirtual 245, 3) := by decide +kernel
theorem dX5_joinOperator_142 : decode cX5_joinOperator 142 = .ok (.ifCond .eq 15, 3) := by decide +kernel
theorem dX5_joinOperator_145 : decode cX5_joinOperator 145 = .ok (.aload_n 0, 1) := by decide +kernel
theorem dX5_joinOperator_146 : decode cX5_joinOperator 146 = .ok (.getfield 24, 3) := by decide +kernel
theorem dX5_joinOperator_149 : decode cX5_joinOperator 149 = .ok (.iload 5, 2) := by decide +kernel
theorem dX5_joinOperator_151 : decode cX5_joinOperator 151 = .ok (.iload 6, 2) := by decide +kernel
theorem dX5_joinOperator_153 : decode cX5_joinOperator 153 = .ok (.iastore, 1) := by decide +kernel
theorem dX5_joinOperator_154 : decode cX5_joinOperator 154 = .ok (.goto 136, 3) := by decide +kernel
theorem dX5_joinOperator_157 : decode cX5_joinOperator 157 = .ok (.aload_n 0, 1) := by decide +kernel
theorem dX5_joinOperator_158 : decode cX5_joinOperator 158 = .ok (.aload_n 1, 1) := by decide +kernel
theorem dX5_joinOperator_159 : decode cX5_joinOperator 159 = .ok (.iload 4, 2) := by decide +kernel
theorem dX5_joinOperator_161 : decode cX5_joinOperator 161 = .ok (.iload 6, 2) := by decide +kernel
theorem dX5_joinOperator_163 : decode cX5_joinOperator 163 = .ok (.iload 7, 2) := by decide +kernel
theorem dX5_joinOperator_165 : decode cX5_joinOperator 165 = .ok (.invokevirtual 248, 3) := by decide +kernel
theorem dX5_joinOperator_168 : decode cX5_joinOperator 168 = .ok (.ifCond .eq 15, 3) := by decide +kernel
theorem dX5_joinOperator_171 : decode cX5_joinOperator 171 = .ok (.aload_n 0, 1) := by decide +kernel
theorem dX5_joinOperator_172 : decode cX5_joinOperator 172 = .ok (.getfield 24, 3) := by decide +kernel
theorem dX5_joinOperator_175 : decode cX5_joinOperator 175 = .ok (.iload 5, 2) := by decide +kernel
theorem dX5_joinOperator_177 : decode cX5_joinOperator 177 = .ok (.iload 7, 2) := by decide +kernel
theorem dX5_joinOperator_179 : decode cX5_joinOperator 179 = .ok (.iastore, 1) := by decide +kernel
theorem dX5_joinOperator_180 : decode cX5_joinOperator 180 = .ok (.goto 110, 3) := by decide +kernel
theorem dX5_joinOperator_183 : decode cX5_joinOperator 183 = .ok (.aload_n 0, 1) := by decide +kernel
theorem dX5_joinOperator_184 : decode cX5_joinOperator 184 = .ok (.aload_n 1, 1) := by decide +kernel
theorem dX5_joinOperator_185 : decode cX5_joinOperator 185 = .ok (.iload 4, 2) := by decide +kernel
theorem dX5_joinOperator_187 : decode cX5_joinOperator 187 = .ok (.iload 6, 2) := by decide +kernel
theorem dX5_joinOperator_189 : decode cX5_joinOperator 189 = .ok (.iload 7, 2) := by decide +kernel
theorem dX5_joinOperator_191 : decode cX5_joinOperator 191 = .ok (.invokevirtual 251, 3) := by decide +kernel
theorem dX5_joinOperator_194 : decode cX5_joinOperator 194 = .ok (.ifCond .eq 20, 3) := by decide +kernel
theorem dX5_joinOperator_197 : decode cX5_joinOperator 197 = .ok (.aload_n 0, 1) := by decide +kernel
theorem dX5_joinOperator_198 : decode cX5_joinOperator 198 = .ok (.getfield 27, 3) := by decide +kernel
theorem dX5_joinOperator_201 : decode cX5_joinOperator 201 = .ok (.iload 5, 2) := by decide +kernel
theorem dX5_joinOperator_203 : decode cX5_joinOperator 203 = .ok (.iconst 1, 1) := by decide +kernel
theorem dX5_joinOperator_204 : decode cX5_joinOperator 204 = .ok (.iastore, 1) := by decide +kernel
theorem dX5_joinOperator_205 : decode cX5_joinOperator 205 = .ok (.aload_n 3, 1) := by decide +kernel
theorem dX5_joinOperator_206 : decode cX5_joinOperator 206 = .ok (.iload_n 2, 1) := by decide +kernel
theorem dX5_joinOperator_207 : decode cX5_joinOperator 207 = .ok (.iconst 0, 1) := by decide +kernel
theorem dX5_joinOperator_208 : decode cX5_joinOperator 208 = .ok (.invokestatic 181, 3) := by decide +kernel
theorem dX5_joinOperator_211 : decode cX5_joinOperator 211 = .ok (.goto 79, 3) := by decide +kernel
theorem dX5_joinOperator_214 : decode cX5_joinOperator 214 = .ok (.iload 6, 2) := by decide +kernel
theorem dX5_joinOperator_216 : decode cX5_joinOperator 216 = .ok (.iload 7, 2) := by decide +kernel
theorem dX5_joinOperator_218 : decode cX5_joinOperator 218 = .ok (.if_icmp .ne 41, 3) := by decide +kernel
theorem dX5_joinOperator_221 : decode cX5_joinOperator 221 = .ok (.iload 4, 2) := by decide +kernel
theorem dX5_joinOperator_223 : decode cX5_joinOperator 223 = .ok (.bipush 15, 2) := by decide +kernel
theorem dX5_joinOperator_225 : decode cX5_joinOperator 225 = .ok (.if_icmp .eq 17, 3) := by decide +kernel
theorem dX5_joinOperator_228 : decode cX5_joinOperator 228 = .ok (.iload 4, 2) := by decide +kernel
theorem dX5_joinOperator_230 : decode cX5_joinOperator 230 = .ok (.bipush 12, 2) := by decide +kernel
theorem dX5_joinOperator_232 : decode cX5_joinOperator 232 = .ok (.if_icmp .eq 10, 3) := by decide +kernel
theorem dX5_joinOperator_235 : decode cX5_joinOperator 235 = .ok (.iload 4, 2) := by decide +kernel
theorem dX5_joinOperator_237 : decode cX5_joinOperator 237 = .ok (.bipush 14, 2) := by decide +kernel
theorem dX5_joinOperator_239 : decode cX5_joinOperator 239 = .ok (.if_icmp .ne 20, 3) := by decide +kernel
theorem dX5_joinOperator_242 : decode cX5_joinOperator 242 = .ok (.aload_n 0, 1) := by decide +kernel
theorem dX5_joinOperator_243 : decode cX5_joinOperator 243 = .ok (.getfield 27, 3) := by decide +kernel
theorem dX5_joinOperator_246 : decode cX5_joinOperator 246 = .ok (.iload 5, 2) := by decide +kernel
theorem dX5_joinOperator_248 : decode cX5_joinOperator 248 = .ok (.iconst 1, 1) := by decide +kernel
theorem dX5_joinOperator_249 : decode cX5_joinOperator 249 = .ok (.iastore, 1) := by decide +kernel
theorem dX5_joinOperator_250 : decode cX5_joinOperator 250 = .ok (.aload_n 3, 1) := by decide +kernel
theorem dX5_joinOperator_251 : decode cX5_joinOperator 251 = .ok (.iload_n 2, 1) := by decide +kernel
theorem dX5_joinOperator_252 : decode cX5_joinOperator 252 = .ok (.iconst 1, 1) := by decide +kernel
theorem dX5_joinOperator_253 : decode cX5_joinOperator 253 = .ok (.invokestatic 181, 3) := by decide +kernel
theorem dX5_joinOperator_256 : decode cX5_joinOperator 256 = .ok (.goto 34, 3) := by decide +kernel
theorem dX5_joinOperator_259 : decode cX5_joinOperator 259 = .ok (.iload 6, 2) := by decide +kernel
theorem dX5_joinOperator_261 : decode cX5_joinOperator 261 = .ok (.iload 7, 2) := by decide +kernel
theorem dX5_joinOperator_263 : decode cX5_joinOperator 263 = .ok (.if_icmp .le 27, 3) := by decide +kernel
theorem dX5_joinOperator_266 : decode cX5_joinOperator 266 = .ok (.iload 4, 2) := by decide +kernel
theorem dX5_joinOperator_268 : decode cX5_joinOperator 268 = .ok (.invokestatic 254, 3) := by decide +kernel
theorem dX5_joinOperator_271 : decode cX5_joinOperator 271 = .ok (.ifCond .eq 19, 3) := by decide +kernel
theorem dX5_joinOperator_274 : decode cX5_joinOperator 274 = .ok (.aload_n 3, 1) := by decide +kernel
theorem dX5_joinOperator_275 : decode cX5_joinOperator 275 = .ok (.getfield 82, 3) := by decide +kernel
theorem dX5_joinOperator_278 : decode cX5_joinOperator 278 = .ok (.iload_n 2, 1) := by decide +kernel
theorem dX5_joinOperator_279 : decode cX5_joinOperator 279 = .ok (.iload 7, 2) := by decide +kernel
theorem dX5_joinOperator_281 : decode cX5_joinOperator 281 = .ok (.iastore, 1) := by decide +kernel
theorem dX5_joinOperator_282 : decode cX5_joinOperator 282 = .ok (.aload_n 3, 1) := by decide +kernel
theorem dX5_joinOperator_283 : decode cX5_joinOperator 283 = .ok (.getfield 93, 3) := by decide +kernel
theorem dX5_joinOperator_286 : decode cX5_joinOperator 286 = .ok (.iload_n 2, 1) := by decide +kernel
theorem dX5_joinOperator_287 : decode cX5_joinOperator 287 = .ok (.iload 6, 2) := by decide +kernel
theorem dX5_joinOperator_289 : decode cX5_joinOperator 289 = .ok (.iastore, 1) := by decide +kernel
theorem dX5_joinOperator_290 : decode cX5_joinOperator 290 = .ok (.return_, 1) := by decide +kernel
theorem dX5_mayLift_0 : decode cX5_mayLift 0 = .ok (.aload_n 1, 1) := by decide +kernel
theorem dX5_mayLift_1 : decode cX5_mayLift 1 = .ok (.getfield 67, 3) := by decide +kernel
theorem dX5_mayLift_4 : decode cX5_mayLift 4 = .ok (.getfield 79, 3) := by decide +kernel
theorem dX5_mayLift_7 : decode cX5_mayLift 7 = .ok (.iload_n 2, 1) := by decide +kernel
theorem dX5_mayLift_8 : decode cX5_mayLift 8 = .ok (.iaload, 1) := by decide +kernel
theorem dX5_mayLift_9 : decode cX5_mayLift 9 = .ok (.istore 5, 2) := by decide +kernel
theorem dX5_mayLift_11 : decode cX5_mayLift 11 = .ok (.iload 5, 2) := by decide +kernel
theorem dX5_mayLift_13 : decode cX5_mayLift 13 = .ok (.ifCond .ne 5, 3) := by decide +kernel
theorem dX5_mayLift_16 : decode cX5_mayLift 16 = .ok (.iconst 1, 1) := by decide +kernel
theorem dX5_mayLift_17 : decode cX5_mayLift 17 = .ok (.ireturn, 1) := by decide +kernel
theorem dX5_mayLift_18 : decode cX5_mayLift 18 = .ok (.iload 5, 2) := by decide +kernel
theorem dX5_mayLift_20 : decode cX5_mayLift 20 = .ok (.invokestatic 149, 3) := by decide +kernel
theorem dX5_mayLift_23 : decode cX5_mayLift 23 = .ok (.ifCond .eq 58, 3) := by decide +kernel
theorem dX5_mayLift_26 : decode cX5_mayLift 26 = .ok (.aload_n 0, 1) := by decide +kernel
theorem dX5_mayLift_27 : decode cX5_mayLift 27 = .ok (.aload_n 1, 1) := by decide +kernel
theorem dX5_mayLift_28 : decode cX5_mayLift 28 = .ok (.iload_n 2, 1) := by decide +kernel
theorem dX5_mayLift_29 : decode cX5_mayLift 29 = .ok (.invokevirtual 276, 3) := by decide +kernel
theorem dX5_mayLift_32 : decode cX5_mayLift 32 = .ok (.ifCond .ne 49, 3) := by decide +kernel
theorem dX5_mayLift_35 : decode cX5_mayLift 35 = .ok (.lload_n 3, 1) := by decide +kernel
theorem dX5_mayLift_36 : decode cX5_mayLift 36 = .ok (.aload_n 0, 1) := by decide +kernel
theorem dX5_mayLift_37 : decode cX5_mayLift 37 = .ok (.getfield 15, 3) := by decide +kernel
theorem dX5_mayLift_40 : decode cX5_mayLift 40 = .ok (.aload_n 1, 1) := by decide +kernel
theorem dX5_mayLift_41 : decode cX5_mayLift 41 = .ok (.getfield 67, 3) := by decide +kernel
theorem dX5_mayLift_44 : decode cX5_mayLift 44 = .ok (.getfield 82, 3) := by decide +kernel
theorem dX5_mayLift_47 : decode cX5_mayLift 47 = .ok (.iload_n 2, 1) := by decide +kernel
theorem dX5_mayLift_48 : decode cX5_mayLift 48 = .ok (.iaload, 1) := by decide +kernel
theorem dX5_mayLift_49 : decode cX5_mayLift 49 = .ok (.iaload, 1) := by decide +kernel
theorem dX5_mayLift_50 : decode cX5_mayLift 50 = .ok (.invokestatic 101, 3) := by decide +kernel
theorem dX5_mayLift_53 : decode cX5_mayLift 53 = .ok (.ifCond .ne 28, 3) := by decide +kernel
theorem dX5_mayLift_56 : decode cX5_mayLift 56 = .ok (.lload_n 3, 1) := by decide +kernel
theorem dX5_mayLift_57 : decode cX5_mayLift 57 = .ok (.aload_n 0, 1) := by decide +kernel
theorem dX5_mayLift_58 : decode cX5_mayLift 58 = .ok (.getfield 15, 3) := by decide +kernel
theorem dX5_mayLift_61 : decode cX5_mayLift 61 = .ok (.aload_n 1, 1) := by decide +kernel
theorem dX5_mayLift_62 : decode cX5_mayLift 62 = .ok (.getfield 67, 3) := by decide +kernel
theorem dX5_mayLift_65 : decode cX5_mayLift 65 = .ok (.getfield 93, 3) := by decide +kernel
theorem dX5_mayLift_68 : decode cX5_mayLift 68 = .ok (.iload_n 2, 1) := by decide +kernel
theorem dX5_mayLift_69 : decode cX5_mayLift 69 = .ok (.iaload, 1) := by decide +kernel
theorem dX5_mayLift_70 : decode cX5_mayLift 70 = .ok (.iaload, 1) := by decide +kernel
theorem dX5_mayLift_71 : decode cX5_mayLift 71 = .ok (.invokestatic 101, 3) := by decide +kernel
theorem dX5_mayLift_74 : decode cX5_mayLift 74 = .ok (.ifCond .ne 7, 3) := by decide +kernel
theorem dX5_mayLift_77 : decode cX5_mayLift 77 = .ok (.iconst 1, 1) := by decide +kernel
theorem dX5_mayLift_78 : decode cX5_mayLift 78 = .ok (.goto 4, 3) := by decide +kernel
theorem dX5_mayLift_81 : decode cX5_mayLift 81 = .ok (.iconst 0, 1) := by decide +kernel
theorem dX5_mayLift_82 : decode cX5_mayLift 82 = .ok (.ireturn, 1) := by decide +kernel
theorem dX5_useStandIns_0 : decode cX5_useStandIns 0 = .ok (.aload_n 1, 1) := by decide +kernel
theorem dX5_useStandIns_1 : decode cX5_useStandIns 1 = .ok (.getfield 67, 3) := by decide +kernel
theorem dX5_useStandIns_4 : decode cX5_useStandIns 4 = .ok (.astore_n 2, 1) := by decide +kernel
theorem dX5_useStandIns_5 : decode cX5_useStandIns 5 = .ok (.iconst 0, 1) := by decide +kernel
theorem dX5_useStandIns_6 : decode cX5_useStandIns 6 = .ok (.istore_n 3, 1) := by decide +kernel
theorem dX5_useStandIns_7 : decode cX5_useStandIns 7 = .ok (.iload_n 3, 1) := by decide +kernel
theorem dX5_useStandIns_8 : decode cX5_useStandIns 8 = .ok (.aload_n 1, 1) := by decide +kernel
theorem dX5_useStandIns_9 : decode cX5_useStandIns 9 = .ok (.getfield 49, 3) := by decide +kernel
theorem dX5_useStandIns_12 : decode cX5_useStandIns 12 = .ok (.if_icmp .ge 194, 3) := by decide +kernel
theorem dX5_useStandIns_15 : decode cX5_useStandIns 15 = .ok (.aload_n 1, 1) := by decide +kernel
theorem dX5_useStandIns_16 : decode cX5_useStandIns 16 = .ok (.getfield 55, 3) := by decide +kernel
theorem dX5_useStandIns_19 : decode cX5_useStandIns 19 = .ok (.iload_n 3, 1) := by decide +kernel
theorem dX5_useStandIns_20 : decode cX5_useStandIns 20 = .ok (.iaload, 1) := by decide +kernel
theorem dX5_useStandIns_21 : decode cX5_useStandIns 21 = .ok (.istore 4, 2) := by decide +kernel
theorem dX5_useStandIns_23 : decode cX5_useStandIns 23 = .ok (.iload 4, 2) := by decide +kernel
theorem dX5_useStandIns_25 : decode cX5_useStandIns 25 = .ok (.ifCond .lt 63, 3) := by decide +kernel
theorem dX5_useStandIns_28 : decode cX5_useStandIns 28 = .ok (.iconst 0, 1) := by decide +kernel
theorem dX5_useStandIns_29 : decode cX5_useStandIns 29 = .ok (.istore 5, 2) := by decide +kernel
theorem dX5_useStandIns_31 : decode cX5_useStandIns 31 = .ok (.iload 5, 2) := by decide +kernel
theorem dX5_useStandIns_33 : decode cX5_useStandIns 33 = .ok (.aload_n 1, 1) := by decide +kernel
theorem dX5_useStandIns_34 : decode cX5_useStandIns 34 = .ok (.iload_n 3, 1) := by decide +kernel
theorem dX5_useStandIns_35 : decode cX5_useStandIns 35 = .ok (.invokevirtual 134, 3) := by decide +kernel
theorem dX5_useStandIns_38 : decode cX5_useStandIns 38 = .ok (.if_icmp .ge 38, 3) := by decide +kernel
theorem dX5_useStandIns_41 : decode cX5_useStandIns 41 = .ok (.aload_n 1, 1) := by decide +kernel
theorem dX5_useStandIns_42 : decode cX5_useStandIns 42 = .ok (.iload_n 3, 1) := by decide +kernel
theorem dX5_useStandIns_43 : decode cX5_useStandIns 43 = .ok (.iload 5, 2) := by decide +kernel
theorem dX5_useStandIns_45 : decode cX5_useStandIns 45 = .ok (.invokevirtual 138, 3) := by decide +kernel
theorem dX5_useStandIns_48 : decode cX5_useStandIns 48 = .ok (.istore 6, 2) := by decide +kernel
theorem dX5_useStandIns_50 : decode cX5_useStandIns 50 = .ok (.aload_n 1, 1) := by decide +kernel
theorem dX5_useStandIns_51 : decode cX5_useStandIns 51 = .ok (.iload 4, 2) := by decide +kernel
theorem dX5_useStandIns_53 : decode cX5_useStandIns 53 = .ok (.iload 6, 2) := by decide +kernel
theorem dX5_useStandIns_55 : decode cX5_useStandIns 55 = .ok (.aload_n 0, 1) := by decide +kernel
theorem dX5_useStandIns_56 : decode cX5_useStandIns 56 = .ok (.aload_n 1, 1) := by decide +kernel
theorem dX5_useStandIns_57 : decode cX5_useStandIns 57 = .ok (.iload 4, 2) := by decide +kernel
theorem dX5_useStandIns_59 : decode cX5_useStandIns 59 = .ok (.iload 6, 2) := by decide +kernel
theorem dX5_useStandIns_61 : decode cX5_useStandIns 61 = .ok (.invokevirtual 142, 3) := by decide +kernel
theorem dX5_useStandIns_64 : decode cX5_useStandIns 64 = .ok (.invokevirtual 214, 3) := by decide +kernel
theorem dX5_useStandIns_67 : decode cX5_useStandIns 67 = .ok (.invokevirtual 217, 3) := by decide +kernel
theorem dX5_useStandIns_70 : decode cX5_useStandIns 70 = .ok (.iinc 5 1, 3) := by decide +kernel
theorem dX5_useStandIns_73 : decode cX5_useStandIns 73 = .ok (.goto (-42), 3) := by decide +kernel
theorem dX5_useStandIns_76 : decode cX5_useStandIns 76 = .ok (.aload_n 1, 1) := by decide +kernel
theorem dX5_useStandIns_77 : decode cX5_useStandIns 77 = .ok (.getfield 61, 3) := by decide +kernel
theorem dX5_useStandIns_80 : decode cX5_useStandIns 80 = .ok (.iload 4, 2) := by decide +kernel
theorem dX5_useStandIns_82 : decode cX5_useStandIns 82 = .ok (.iaload, 1) := by decide +kernel
theorem dX5_useStandIns_83 : decode cX5_useStandIns 83 = .ok (.istore 4, 2) := by decide +kernel
theorem dX5_useStandIns_85 : decode cX5_useStandIns 85 = .ok (.goto (-62), 3) := by decide +kernel
theorem dX5_useStandIns_88 : decode cX5_useStandIns 88 = .ok (.aload_n 1, 1) := by decide +kernel
theorem dX5_useStandIns_89 : decode cX5_useStandIns 89 = .ok (.getfield 64, 3) := by decide +kernel
theorem dX5_useStandIns_92 : decode cX5_useStandIns 92 = .ok (.iload_n 3, 1) := by decide +kernel
theorem dX5_useStandIns_93 : decode cX5_useStandIns 93 = .ok (.iaload, 1) := by decide +kernel
theorem dX5_useStandIns_94 : decode cX5_useStandIns 94 = .ok (.istore 4, 2) := by decide +kernel
theorem dX5_useStandIns_96 : decode cX5_useStandIns 96 = .ok (.iload 4, 2) := by decide +kernel
theorem dX5_useStandIns_98 : decode cX5_useStandIns 98 = .ok (.ifCond .lt 77, 3) := by decide +kernel
theorem dX5_useStandIns_101 : decode cX5_useStandIns 101 = .ok (.aload_n 2, 1) := by decide +kernel
theorem dX5_useStandIns_102 : decode cX5_useStandIns 102 = .ok (.getfield 79, 3) := by decide +kernel
theorem dX5_useStandIns_105 : decode cX5_useStandIns 105 = .ok (.iload 4, 2) := by decide +kernel
theorem dX5_useStandIns_107 : decode cX5_useStandIns 107 = .ok (.iaload, 1) := by decide +kernel
theorem dX5_useStandIns_108 : decode cX5_useStandIns 108 = .ok (.invokestatic 221, 3) := by decide +kernel
theorem dX5_useStandIns_111 : decode cX5_useStandIns 111 = .ok (.ifCond .eq 21, 3) := by decide +kernel
theorem dX5_useStandIns_114 : decode cX5_useStandIns 114 = .ok (.aload_n 2, 1) := by decide +kernel
theorem dX5_useStandIns_115 : decode cX5_useStandIns 115 = .ok (.getfield 82, 3) := by decide +kernel
theorem dX5_useStandIns_118 : decode cX5_useStandIns 118 = .ok (.iload 4, 2) := by decide +kernel
theorem dX5_useStandIns_120 : decode cX5_useStandIns 120 = .ok (.aload_n 0, 1) := by decide +kernel
theorem dX5_useStandIns_121 : decode cX5_useStandIns 121 = .ok (.aload_n 2, 1) := by decide +kernel
theorem dX5_useStandIns_122 : decode cX5_useStandIns 122 = .ok (.getfield 82, 3) := by decide +kernel
theorem dX5_useStandIns_125 : decode cX5_useStandIns 125 = .ok (.iload 4, 2) := by decide +kernel
theorem dX5_useStandIns_127 : decode cX5_useStandIns 127 = .ok (.iaload, 1) := by decide +kernel
theorem dX5_useStandIns_128 : decode cX5_useStandIns 128 = .ok (.invokevirtual 214, 3) := by decide +kernel
theorem dX5_useStandIns_131 : decode cX5_useStandIns 131 = .ok (.iastore, 1) := by decide +kernel
theorem dX5_useStandIns_132 : decode cX5_useStandIns 132 = .ok (.aload_n 2, 1) := by decide +kernel
theorem dX5_useStandIns_133 : decode cX5_useStandIns 133 = .ok (.getfield 79, 3) := by decide +kernel
theorem dX5_useStandIns_136 : decode cX5_useStandIns 136 = .ok (.iload 4, 2) := by decide +kernel
theorem dX5_useStandIns_138 : decode cX5_useStandIns 138 = .ok (.iaload, 1) := by decide +kernel
theorem dX5_useStandIns_139 : decode cX5_useStandIns 139 = .ok (.invokestatic 224, 3) := by decide +kernel
theorem dX5_useStandIns_142 : decode cX5_useStandIns 142 = .ok (.ifCond .eq 21, 3) := by decide +kernel
theorem dX5_useStandIns_145 : decode cX5_useStandIns 145 = .ok (.aload_n 2, 1) := by decide +kernel
theorem dX5_useStandIns_146 : decode cX5_useStandIns 146 = .ok (.getfield 93, 3) := by decide +kernel
theorem dX5_useStandIns_149 : decode cX5_useStandIns 149 = .ok (.iload 4, 2) := by decide +kernel
theorem dX5_useStandIns_151 : decode cX5_useStandIns 151 = .ok (.aload_n 0, 1) := by decide +kernel
theorem dX5_useStandIns_152 : decode cX5_useStandIns 152 = .ok (.aload_n 2, 1) := by decide +kernel
theorem dX5_useStandIns_153 : decode cX5_useStandIns 153 = .ok (.getfield 93, 3) := by decide +kernel
theorem dX5_useStandIns_156 : decode cX5_useStandIns 156 = .ok (.iload 4, 2) := by decide +kernel
theorem dX5_useStandIns_158 : decode cX5_useStandIns 158 = .ok (.iaload, 1) := by decide +kernel
theorem dX5_useStandIns_159 : decode cX5_useStandIns 159 = .ok (.invokevirtual 214, 3) := by decide +kernel
theorem dX5_useStandIns_162 : decode cX5_useStandIns 162 = .ok (.iastore, 1) := by decide +kernel
theorem dX5_useStandIns_163 : decode cX5_useStandIns 163 = .ok (.aload_n 2, 1) := by decide +kernel
theorem dX5_useStandIns_164 : decode cX5_useStandIns 164 = .ok (.getfield 76, 3) := by decide +kernel
theorem dX5_useStandIns_167 : decode cX5_useStandIns 167 = .ok (.iload 4, 2) := by decide +kernel
theorem dX5_useStandIns_169 : decode cX5_useStandIns 169 = .ok (.iaload, 1) := by decide +kernel
theorem dX5_useStandIns_170 : decode cX5_useStandIns 170 = .ok (.istore 4, 2) := by decide +kernel
theorem dX5_useStandIns_172 : decode cX5_useStandIns 172 = .ok (.goto (-76), 3) := by decide +kernel
theorem dX5_useStandIns_175 : decode cX5_useStandIns 175 = .ok (.aload_n 1, 1) := by decide +kernel
theorem dX5_useStandIns_176 : decode cX5_useStandIns 176 = .ok (.getfield 164, 3) := by decide +kernel
theorem dX5_useStandIns_179 : decode cX5_useStandIns 179 = .ok (.iload_n 3, 1) := by decide +kernel
theorem dX5_useStandIns_180 : decode cX5_useStandIns 180 = .ok (.iaload, 1) := by decide +kernel
theorem dX5_useStandIns_181 : decode cX5_useStandIns 181 = .ok (.ifCond .lt 19, 3) := by decide +kernel
theorem dX5_useStandIns_184 : decode cX5_useStandIns 184 = .ok (.aload_n 1, 1) := by decide +kernel
theorem dX5_useStandIns_185 : decode cX5_useStandIns 185 = .ok (.getfield 164, 3) := by decide +kernel
theorem dX5_useStandIns_188 : decode cX5_useStandIns 188 = .ok (.iload_n 3, 1) := by decide +kernel
theorem dX5_useStandIns_189 : decode cX5_useStandIns 189 = .ok (.aload_n 0, 1) := by decide +kernel
theorem dX5_useStandIns_190 : decode cX5_useStandIns 190 = .ok (.aload_n 1, 1) := by decide +kernel
theorem dX5_useStandIns_191 : decode cX5_useStandIns 191 = .ok (.getfield 164, 3) := by decide +kernel
theorem dX5_useStandIns_194 : decode cX5_useStandIns 194 = .ok (.iload_n 3, 1) := by decide +kernel
theorem dX5_useStandIns_195 : decode cX5_useStandIns 195 = .ok (.iaload, 1) := by decide +kernel
theorem dX5_useStandIns_196 : decode cX5_useStandIns 196 = .ok (.invokevirtual 214, 3) := by decide +kernel
theorem dX5_useStandIns_199 : decode cX5_useStandIns 199 = .ok (.iastore, 1) := by decide +kernel
theorem dX5_useStandIns_200 : decode cX5_useStandIns 200 = .ok (.iinc 3 1, 3) := by decide +kernel
theorem dX5_useStandIns_203 : decode cX5_useStandIns 203 = .ok (.goto (-196), 3) := by decide +kernel
theorem dX5_useStandIns_206 : decode cX5_useStandIns 206 = .ok (.return_, 1) := by decide +kernel
theorem qw552 : Cond.code yX5_joinPhi cX5_joinPhi 7 (Option.none : Option Jvm.ClassFile.FieldType) ∈ gw := mq_7 (i := 222) rfl rfl
theorem qw553 : Cond.methodLink RX5 227 yX5_joinPhi ∈ gw := mq_7 (i := 219) rfl rfl
theorem qw554 : Cond.instanceMethod yX5_joinPhi ∈ gw := mq_7 (i := 221) rfl rfl
theorem qw555 : Cond.selects RX5 yX5_joinPhi yX5_joinPhi ∈ gw := mk_s (i := 48) rfl rfl
theorem qw560 : Cond.code yX5_joinSeen cX5_joinSeen 8 (Option.none : Option Jvm.ClassFile.FieldType) ∈ gw := mq_8 (i := 29) rfl rfl
theorem qw561 : Cond.methodLink RX5 234 yX5_joinSeen ∈ gw := mq_8 (i := 26) rfl rfl
theorem qw562 : Cond.instanceMethod yX5_joinSeen ∈ gw := mq_8 (i := 28) rfl rfl
theorem qw563 : Cond.selects RX5 yX5_joinSeen yX5_joinSeen ∈ gw := mk_s (i := 49) rfl rfl
theorem qw564 : Cond.code yX5_isLeftAlone cX5_isLeftAlone 5 (Option.some Jvm.ClassFile.FieldType.boolean) ∈ gw := mq_8 (i := 10) rfl rfl
theorem qw565 : Cond.methodLink RX5 245 yX5_isLeftAlone ∈ gw := mq_8 (i := 7) rfl rfl
theorem qw566 : Cond.instanceMethod yX5_isLeftAlone ∈ gw := mq_8 (i := 9) rfl rfl
theorem qw567 : Cond.selects RX5 yX5_isLeftAlone yX5_isLeftAlone ∈ gw := mk_s (i := 50) rfl rfl
theorem qw568 : Cond.code yX5_isRightAlone cX5_isRightAlone 5 (Option.some Jvm.ClassFile.FieldType.boolean) ∈ gw := mq_8 (i := 18) rfl rfl
theorem qw569 : Cond.methodLink RX5 248 yX5_isRightAlone ∈ gw := mq_8 (i := 15) rfl rfl
theorem qw570 : Cond.instanceMethod yX5_isRightAlone ∈ gw := mq_8 (i := 17) rfl rfl
theorem qw571 : Cond.selects RX5 yX5_isRightAlone yX5_isRightAlone ∈ gw := mk_s (i := 51) rfl rfl
theorem qw572 : Cond.code yX5_isAlwaysZero cX5_isAlwaysZero 5 (Option.some Jvm.ClassFile.FieldType.boolean) ∈ gw := mq_8 (i := 22) rfl rfl
theorem qw573 : Cond.methodLink RX5 251 yX5_isAlwaysZero ∈ gw := mq_8 (i := 19) rfl rfl
theorem qw574 : Cond.instanceMethod yX5_isAlwaysZero ∈ gw := mq_8 (i := 21) rfl rfl
theorem qw575 : Cond.selects RX5 yX5_isAlwaysZero yX5_isAlwaysZero ∈ gw := mk_s (i := 52) rfl rfl
theorem qw576 : Cond.code yX5_isEitherWay cX5_isEitherWay 1 (Option.some Jvm.ClassFile.FieldType.boolean) ∈ gw := mq_8 (i := 25) rfl rfl
theorem qw577 : Cond.methodLink RX5 254 yX5_isEitherWay ∈ gw := mq_8 (i := 23) rfl rfl
theorem qw578 : Cond.static yX5_isEitherWay ∈ gw := mq_8 (i := 24) rfl rfl
theorem qw579 : Cond.code yX5_joinOperator cX5_joinOperator 8 (Option.none : Option Jvm.ClassFile.FieldType) ∈ gw := mq_7 (i := 238) rfl rfl
theorem qw580 : Cond.methodLink RX5 231 yX5_joinOperator ∈ gw := mq_7 (i := 235) rfl rfl
theorem qw581 : Cond.instanceMethod yX5_joinOperator ∈ gw := mq_7 (i := 237) rfl rfl
theorem qw582 : Cond.selects RX5 yX5_joinOperator yX5_joinOperator ∈ gw := mk_s (i := 53) rfl rfl
theorem qw583 : Cond.fieldLink RX5 36 "Gearbox$Passes" "path" "[I" ∈ gw := mq_2 (i := 221) rfl rfl
theorem qw584 : Cond.code yX5_joinBlock cX5_joinBlock 5 (Option.none : Option Jvm.ClassFile.FieldType) ∈ gw := mq_7 (i := 218) rfl rfl
theorem qw585 : Cond.methodLink RX5 197 yX5_joinBlock ∈ gw := mq_7 (i := 215) rfl rfl
theorem qw586 : Cond.instanceMethod yX5_joinBlock ∈ gw := mq_7 (i := 217) rfl rfl
theorem qw587 : Cond.selects RX5 yX5_joinBlock yX5_joinBlock ∈ gw := mk_s (i := 54) rfl rfl
theorem qw588 : Cond.fieldLink RX5 201 "Gearbox$Flow" "dominator" "[I" ∈ gw := mq_2 (i := 37) rfl rfl
theorem qw589 : Cond.fieldLink RX5 204 "Gearbox$Flow" "limit" "I" ∈ gw := mq_1 (i := 218) rfl rfl
theorem qw590 : Cond.methodLink RX5 217 yX1_setTake ∈ gw := mq_8 (i := 40) rfl rfl
theorem qw591 : Cond.code yX5_useStandIns cX5_useStandIns 7 (Option.none : Option Jvm.ClassFile.FieldType) ∈ gw := mq_8 (i := 39) rfl rfl
theorem qw592 : Cond.methodLink RX5 211 yX5_useStandIns ∈ gw := mq_8 (i := 36) rfl rfl
theorem qw593 : Cond.instanceMethod yX5_useStandIns ∈ gw := mq_8 (i := 38) rfl rfl
theorem qw594 : Cond.selects RX5 yX5_useStandIns yX5_useStandIns ∈ gw := mk_s (i := 55) rfl rfl
def fX5_joinOperator_J290 (p0w_290 : ST) (p1_2w_290 : ST) : Option (ST × ST) := some (p0w_290, p1_2w_290)
def fX5_joinOperator_J259 (p0w : ST) (p2 : Int32) (p1_2n : Nat → Nat) (p1_2w : ST) (o_4 : Int32) (o_7 : Int32) (w12 : ST) : Option (ST × ST) := (if o_4 ≤ o_7 then (fX5_joinOperator_J290 p0w w12) else ((fX5_isEitherWay (p1_2w 2 (nn p2))).bind fun (o_25 : Int32) => (if o_25 = 0 then (fX5_joinOperator_J290 p0w w12) else (if ixb p2 (p1_2n 4) = true then (lt9 (upw w12 4 (nn p2) o_7) fun (w29 : ST) => (if ixb p2 (p1_2n 5) = true then (lt9 (upw w29 5 (nn p2) o_4) fun (w31 : ST) => (fX5_joinOperator_J290 p0w w31)) else none)) else none))))
def fX5_joinOperator_J242 (p0w : ST) (p2 : Int32) (p1_2n : Nat → Nat) (p1_2w : ST) (w12 : ST) : Option (ST × ST) := (if ixb (p1_2w 3 (nn p2)) 250 = true then (lt9 (upw p0w 7 (nn (p1_2w 3 (nn p2))) 1) fun (w34 : ST) => ((fX5_becomeNumber p1_2n w12 p2 1).bind fun (o_35 : ST) => (fX5_joinOperator_J290 w34 o_35))) else none)
def fX5_joinOperator_J131 (p0w : ST) (p2 : Int32) (p1_2n : Nat → Nat) (p1_2w : ST) (o_4 : Int32) (o_7 : Int32) (w12 : ST) : Option (ST × ST) := ((fX5_isLeftAlone p0w (p1_2w 2 (nn p2)) o_4 o_7 p1_2n w12).bind fun (o_15 : Int32) => (if o_15 = 0 then ((fX5_isRightAlone p0w (p1_2w 2 (nn p2)) o_4 p1_2n w12).bind fun (o_18 : Int32) => (if o_18 = 0 then ((fX5_isAlwaysZero p0w (p1_2w 2 (nn p2)) o_4 o_7 p1_2n w12).bind fun (o_21 : Int32) => (if o_21 = 0 then (if o_4 = o_7 then (if (p1_2w 2 (nn p2)) = 15 then (fX5_joinOperator_J242 p0w p2 p1_2n p1_2w w12) else (if (p1_2w 2 (nn p2)) = 12 then (fX5_joinOperator_J242 p0w p2 p1_2n p1_2w w12) else (if (p1_2w 2 (nn p2)) = 14 then (fX5_joinOperator_J242 p0w p2 p1_2n p1_2w w12) else (fX5_joinOperator_J259 p0w p2 p1_2n p1_2w o_4 o_7 w12)))) else (fX5_joinOperator_J259 p0w p2 p1_2n p1_2w o_4 o_7 w12)) else (if ixb (p1_2w 3 (nn p2)) 250 = true then (lt9 (upw p0w 7 (nn (p1_2w 3 (nn p2))) 1) fun (w40 : ST) => ((fX5_becomeNumber p1_2n w12 p2 0).bind fun (o_41 : ST) => (fX5_joinOperator_J290 w40 o_41))) else none))) else (if ixb (p1_2w 3 (nn p2)) 250 = true then (lt9 (upw p0w 6 (nn (p1_2w 3 (nn p2))) o_7) fun (w43 : ST) => (fX5_joinOperator_J290 w43 w12)) else none))) else (if ixb (p1_2w 3 (nn p2)) 250 = true then (lt9 (upw p0w 6 (nn (p1_2w 3 (nn p2))) o_4) fun (w45 : ST) => (fX5_joinOperator_J290 w45 w12)) else none)))
def fX5_joinOperator (p0w : ST) (p2 : Int32) (p1_2n : Nat → Nat) (p1_2w : ST) : Option (ST × ST) := (if ixb p2 (p1_2n 2) = true then (if ixb p2 (p1_2n 3) = true then (if ixb p2 (p1_2n 4) = true then ((fX5_standInOf p0w (p1_2w 4 (nn p2))).bind fun (o_4 : Int32) => (if ixb p2 (p1_2n 5) = true then ((fX5_standInOf p0w (p1_2w 5 (nn p2))).bind fun (o_7 : Int32) => (if ixb p2 (p1_2n 4) = true then (lt9 (upw p1_2w 4 (nn p2) o_4) fun (w10 : ST) => (if ixb p2 (p1_2n 5) = true then (lt9 (upw w10 5 (nn p2) o_7) fun (w12 : ST) => ((fX5_isNumber p0w o_4 p1_2n w12).bind fun (o_13 : Int32) => (if o_13 = 0 then (fX5_joinOperator_J131 p0w p2 p1_2n p1_2w o_4 o_7 w12) else ((fX5_isNumber p0w o_7 p1_2n w12).bind fun (o_47 : Int32) => (if o_47 = 0 then (fX5_joinOperator_J131 p0w p2 p1_2n p1_2w o_4 o_7 w12) else ((fX5_numberOf p0w o_7 p1_2n w12).bind fun (o_50 : Int32) => ((fX11_isFailing (p1_2w 2 (nn p2)) o_50).bind fun (o_52 : Int32) => (if o_52 = 0 then (if ixb (p1_2w 3 (nn p2)) 250 = true then (lt9 (upw p0w 7 (nn (p1_2w 3 (nn p2))) 1) fun (w56 : ST) => ((fX5_numberOf w56 o_4 p1_2n w12).bind fun (o_57 : Int32) => ((fX5_numberOf w56 o_7 p1_2n w12).bind fun (o_59 : Int32) => ((fX11_compute (p1_2w 2 (nn p2)) o_57 o_59).bind fun (o_61 : Int32) => ((fX5_becomeNumber p1_2n w12 p2 o_61).bind fun (o_63 : ST) => (fX5_joinOperator_J290 w56 o_63)))))) else none) else (fX5_joinOperator_J131 p0w p2 p1_2n p1_2w o_4 o_7 w12))))))))) else none)) else none)) else none)) else none) else none) else none)
set_option maxHeartbeats 16000000 in
set_option maxRecDepth 100000 in
theorem kX5_joinOperator {zs : ZS} (l : Launch) (dC : Nat → ClassId) (dI : Nat → Nat → Nat) (p0a : Nat → Nat) (p0k : Nat → ClassId) (p0w : ST) (p0l : SL) (p1a : Nat → Nat) (p1k : Nat → ClassId) (p1n : Nat → Nat) (p1w : ST) (p1l : SL) (p2 : Int32) (p1_2a : Nat → Nat) (p1_2k : Nat → ClassId) (p1_2n : Nat → Nat) (p1_2w : ST) (sz : Nat) (o : ST × ST) (hrun : fX5_joinOperator p0w p2 p1_2n p1_2w = some o) : Met l yX5_joinOperator (wz yX5_joinOperator cX5_joinOperator 8 (Option.none : Option Jvm.ClassFile.FieldType)) ({ frames := 3, cells := 0, slots := 0, locals := 69 } : Room) (va_Pc [.ref (p0a 0), .ref (p1a 0), .int p2] (PRE zs dC dI (List.flatten ([(oX5 (p0a 0) p0a p0k p0w p0l), (oX1 (p1a 0) p1a p1k p1n p1w p1l), (oX9 (p1a 3) p1_2a p1_2k p1_2n p1_2w)] : List va_W)) (List.flatten ([(tX5 p0k), (tX1 p1k), (tX9 p1_2k)] : List (List (ClassId × FieldType)))) sz)) (va_Qv (fun (_ : Unit) => True) (fun _ t => POST dC dI (List.flatten ([(oX5 (p0a 0) p0a p0k (o.1) p0l), (oX1 (p1a 0) p1a p1k p1n p1w p1l), (oX9 (p1a 3) p1_2a p1_2k p1_2n (o.2))] : List va_W)) (List.flatten ([(tX5 p0k), (tX1 p1k), (tX9 p1_2k)] : List (List (ClassId × FieldType)))) (va_A (List.flatten ([(oX5 (p0a 0) p0a p0k p0w p0l), (oX1 (p1a 0) p1a p1k p1n p1w p1l), (oX9 (p1a 3) p1_2a p1_2k p1_2n p1_2w)] : List va_W)) sz) t) (va_A (List.flatten ([(oX5 (p0a 0) p0a p0k p0w p0l), (oX1 (p1a 0) p1a p1k p1n p1w p1l), (oX9 (p1a 3) p1_2a p1_2k p1_2n p1_2w)] : List va_W)) sz)) 0 0 (va_A (List.flatten ([(oX5 (p0a 0) p0a p0k p0w p0l), (oX1 (p1a 0) p1a p1k p1n p1w p1l), (oX9 (p1a 3) p1_2a p1_2k p1_2n p1_2w)] : List va_W)) sz) := by
  refine Met.ofW (cc := cX5_joinOperator) (maxL := 8) (ret := (Option.none : Option Jvm.ClassFile.FieldType)) (by decide) rfl ?_
  intro p e s m args below meth c s₁ B hml hv
  obtain ⟨rfl, hsz, hP, hK, hD0, hE⟩ := hv
  have hx := B.exec
  have hb := B.bytes
  have hr := B.returns
  have hts0 := atoms_spec (ws := wz yX5_joinOperator cX5_joinOperator 8 (Option.none : Option Jvm.ClassFile.FieldType)) B.pre
  have hts : ∀ w ∈ gw, w.before _ s = true := fun w h => hts0 w (List.mem_cons_of_mem _ h)
  have hown : s.vm.findClass RX5 = some m.cls := findClass_of_methodNamed B.named
  have hlocks := B.notSynchronized
  subst hsz
  have hD := hD0.self (sz := s.heap.size)
  refine gQ9 ?_
  intro Q hQ
  generalize hAe : va_A (List.flatten ([(oX5 (p0a 0) p0a p0k p0w p0l), (oX1 (p1a 0) p1a p1k p1n p1w p1l), (oX9 (p1a 3) p1_2a p1_2k p1_2n p1_2w)] : List va_W)) s.heap.size = A at hD hE hQ
  have hA : ∀ q : Nat, s.heap.size ≤ q → A q := fun q h => by rw [← hAe]; exact Or.inr h
  have hS : va_S A s.heap s.heap [] := va_S.rf
  have hP : va_P (dC, dI) cls (List.flatten ([(oX5 (p0a 0) p0a p0k p0w p0l), (oX1 (p1a 0) p1a p1k p1n p1w p1l), (oX9 (p1a 3) p1_2a p1_2k p1_2n p1_2w)] : List va_W)) s.heap := hP
  have hl := lv_entry ([.ref (p0a 0), .ref (p1a 0), .int p2]) (n := 8) (Nat.le_of_ble_eq_true rfl)
  rw [lg_entry_eq]
  generalize (lg_sl ([.ref (p0a 0), .ref (p1a 0), .int p2]) ++ List.replicate (8 - (lg_sl ([.ref (p0a 0), .ref (p1a 0), .int p2])).length) Slot.unset).toArray = ls at hl ⊢
  have hl : lv_has ls 8 [(0, .ref (p0a 0)), (1, .ref (p1a 0)), (2, .int p2)] := hl
  obtain ⟨H, hHe⟩ : ∃ H, H = s.heap := ⟨_, rfl⟩
  obtain ⟨locs, hle⟩ : ∃ locs : List Loc, locs = [] := ⟨_, rfl⟩
  rw [← hHe] at hP
  have hS : va_S A s.heap H locs := by rw [hHe, hle]; exact hS
  show W p l e ({ frames := 3, cells := 0, slots := 0, locals := 69 } : Room) s m ([.ref (p0a 0), .ref (p1a 0), .int p2] : List Value).toArray below meth c s.heap [] 0 0 Q (F0 m 0 ls [])
  rw [← hle]
  refine wH9 hHe ?_
  unfold fX5_joinOperator at hrun
  refine lv_aload_n hx hb dX5_joinOperator_0 rfl (lv_at hl 1 rfl) ?_
  refine va_get (D := (dC, dI)) (ci := 4) (v := .ref (p1a 3)) (C := RX1) (T := TX1) (N := 21) hx hb hts i_X1 hown hK hP 10 rfl rfl 2 (by decide) (hts _ qw435) (fun _ h9 => h9) rfl dX5_joinOperator_1 ?_
  refine lv_astore_n (lv' := [(3, .ref (p1a 3)), (0, .ref (p0a 0)), (1, .ref (p1a 0)), (2, .int p2)]) hx hb dX5_joinOperator_4 rfl hl (by decide) rfl (fun ls hl => ?_)
  refine lv_aload_n hx hb dX5_joinOperator_5 rfl (lv_at hl 0 rfl) ?_
  refine va_get (D := (dC, dI)) (ci := 3) (v := .ref (p1_2a 2)) (C := RX9) (T := TX9) (N := 6) hx hb hts i_X9 hown hK hP 28 rfl rfl 1 (by decide) (hts _ qw420) (fun _ h9 => h9) rfl dX5_joinOperator_6 ?_
  refine lv_iload_n hx hb dX5_joinOperator_9 rfl (lv_at hl 3 rfl) ?_
  obtain ⟨hq1, hrun⟩ := chk9 hrun
  refine va_iald hx hb hK hP 29 26 rfl rfl (ixb_in hq1) dX5_joinOperator_10 ?_
  refine lv_istore (lv' := [(4, .int (p1_2w 2 (nn p2))), (3, .ref (p1a 3)), (0, .ref (p0a 0)), (1, .ref (p1a 0)), (2, .int p2)]) hx hb dX5_joinOperator_11 hl (by decide) rfl (fun ls hl => ?_)
  refine lv_aload_n hx hb dX5_joinOperator_13 rfl (lv_at hl 1 rfl) ?_
  refine va_get (D := (dC, dI)) (ci := 3) (v := .ref (p1_2a 3)) (C := RX9) (T := TX9) (N := 6) hx hb hts i_X9 hown hK hP 28 rfl rfl 2 (by decide) (hts _ qw436) (fun _ h9 => h9) rfl dX5_joinOperator_14 ?_
  refine lv_iload_n hx hb dX5_joinOperator_17 rfl (lv_at hl 4 rfl) ?_
  obtain ⟨hq2, hrun⟩ := chk9 hrun
  refine va_iald hx hb hK hP 30 27 rfl rfl (ixb_in hq2) dX5_joinOperator_18 ?_
  refine lv_istore (lv' := [(5, .int (p1_2w 3 (nn p2))), (4, .int (p1_2w 2 (nn p2))), (3, .ref (p1a 3)), (0, .ref (p0a 0)), (1, .ref (p1a 0)), (2, .int p2)]) hx hb dX5_joinOperator_19 hl (by decide) rfl (fun ls hl => ?_)
  refine lv_aload_n hx hb dX5_joinOperator_21 rfl (lv_at hl 3 rfl) ?_
  refine lv_aload_n hx hb dX5_joinOperator_22 rfl (lv_at hl 2 rfl) ?_
  refine va_get (D := (dC, dI)) (ci := 3) (v := .ref (p1_2a 4)) (C := RX9) (T := TX9) (N := 6) hx hb hts i_X9 hown hK hP 28 rfl rfl 3 (by decide) (hts _ qw421) (fun _ h9 => h9) rfl dX5_joinOperator_23 ?_
  refine lv_iload_n hx hb dX5_joinOperator_26 rfl (lv_at hl 5 rfl) ?_
  obtain ⟨hq3, hrun⟩ := chk9 hrun
  refine va_iald hx hb hK hP 31 28 rfl rfl (ixb_in hq3) dX5_joinOperator_27 ?_
  obtain ⟨o_4, hc_4, hrun⟩ := bnd9 hrun
  have hPx : va_P (dC, dI) cls ((List.flatten ([(oX5 (p0a 0) p0a p0k p0w p0l)] : List va_W)) ++ (List.flatten ([(oX1 (p1a 0) p1a p1k p1n p1w p1l), (oX9 (p1a 3) p1_2a p1_2k p1_2n p1_2w)] : List va_W))) H := vP_fa (vP_perm hP (bP (List.Perm.refl _)))
  have hDx : va_D A ((List.flatten ([(oX5 (p0a 0) p0a p0k p0w p0l)] : List va_W)) ++ (List.flatten ([(oX1 (p1a 0) p1a p1k p1n p1w p1l), (oX9 (p1a 3) p1_2a p1_2k p1_2n p1_2w)] : List va_W))) := vD_fa (vD_perm hD (bP (List.Perm.refl _)))
  have hKx : va_K (dC, dI) cls ((List.flatten ([(tX5 p0k)] : List (List (ClassId × FieldType)))) ++ (List.flatten ([(tX1 p1k), (tX9 p1_2k)] : List (List (ClassId × FieldType))))) s := vK_fa (vK_perm hK (bP (List.Perm.refl _)))
  have hPc := vP_l hPx
  have hDc := vD_l hDx
  have hKc := vK_l hKx
  have hFc := vfree hDx hS hA
  refine va_calli (va_runV (As := [.int (p1_2w 4 (nn p2))]) (rest := []) ⟨hx, hb, hml, hown, hts⟩ (kX5_standInOf l dC dI (p0a := p0a) (p0k := p0k) (p0w := p0w) (p0l := p0l) (p1 := (p1_2w 4 (nn p2))) (sz := _) (o := o_4) (hrun := hc_4)) (cwV 1 hts (gi_V qw541 qw542 qw543 qw442 (gi_z qw540)) rfl rfl rfl (by decide +kernel) ⟨Nat.le_of_ble_eq_true rfl, Nat.le_of_ble_eq_true rfl⟩) ⟨PRE.blind, va_recv hKc hPc (ci := 7) (q0 := 0) rfl rfl, PRE.of hE hS hFc hPc hKc hDc⟩ rfl rfl hl.1 rfl (lv_room (Nat.le_of_ble_eq_true rfl)) dX5_joinOperator_28 ⟨(Nat.le_of_ble_eq_true rfl), (Nat.le_of_ble_eq_true rfl)⟩) hS (fun q _ h => hFc q h) hFc (fun r5 u t H locs ht hvm hw hB hz1 hk1 hS => ?_)
  obtain ⟨b1, b2, b3⟩ := hB
  rw [ht] at b1
  obtain ⟨hP, hD, hK⟩ := JOINC (wc := (List.flatten ([(oX5 (p0a 0) p0a p0k p0w p0l)] : List va_W))) (wr := (List.flatten ([(oX1 (p1a 0) p1a p1k p1n p1w p1l), (oX9 (p1a 3) p1_2a p1_2k p1_2n p1_2w)] : List va_W))) (w1 := (List.flatten ([(oX5 (p0a 0) p0a p0k p0w p0l)] : List va_W))) (t1 := (List.flatten ([(tX5 p0k)] : List (List (ClassId × FieldType))))) hPx hDx hKx hk1 hFc b1 (va_K.moved hvm.symm b2) b3
  have hP : va_P (dC, dI) cls (List.flatten ([(oX5 (p0a 0) p0a p0k p0w p0l), (oX1 (p1a 0) p1a p1k p1n p1w p1l), (oX9 (p1a 3) p1_2a p1_2k p1_2n p1_2w)] : List va_W)) H := vP_perm (vP_fb hP) (bP (List.Perm.refl _))
  have hD : va_D A (List.flatten ([(oX5 (p0a 0) p0a p0k p0w p0l), (oX1 (p1a 0) p1a p1k p1n p1w p1l), (oX9 (p1a 3) p1_2a p1_2k p1_2n p1_2w)] : List va_W)) := vD_perm (vD_fb hD) (bP (List.Perm.refl _))
  have hK : va_K (dC, dI) cls (List.flatten ([(tX5 p0k), (tX1 p1k), (tX9 p1_2k)] : List (List (ClassId × FieldType)))) s := vK_perm (vK_fb hK) (bP (List.Perm.refl _))
  obtain rfl : o_4 = r5 := hw.symm
  refine lv_istore (lv' := [(6, .int o_4), (5, .int (p1_2w 3 (nn p2))), (4, .int (p1_2w 2 (nn p2))), (3, .ref (p1a 3)), (0, .ref (p0a 0)), (1, .ref (p1a 0)), (2, .int p2)]) hx hb dX5_joinOperator_31 hl (by decide) rfl (fun ls hl => ?_)
  refine lv_aload_n hx hb dX5_joinOperator_33 rfl (lv_at hl 4 rfl) ?_
  refine lv_aload_n hx hb dX5_joinOperator_34 rfl (lv_at hl 3 rfl) ?_
  refine va_get (D := (dC, dI)) (ci := 3) (v := .ref (p1_2a 5)) (C := RX9) (T := TX9) (N := 6) hx hb hts i_X9 hown hK hP 28 rfl rfl 4 (by decide) (hts _ qw422) (fun _ h9 => h9) rfl dX5_joinOperator_35 ?_
  refine lv_iload_n hx hb dX5_joinOperator_38 rfl (lv_at hl 6 rfl) ?_
  obtain ⟨hq6, hrun⟩ := chk9 hrun
  refine va_iald hx hb hK hP 32 29 rfl rfl (ixb_in hq6) dX5_joinOperator_39 ?_
  obtain ⟨o_7, hc_7, hrun⟩ := bnd9 hrun
  have hPx : va_P (dC, dI) cls ((List.flatten ([(oX5 (p0a 0) p0a p0k p0w p0l)] : List va_W)) ++ (List.flatten ([(oX1 (p1a 0) p1a p1k p1n p1w p1l), (oX9 (p1a 3) p1_2a p1_2k p1_2n p1_2w)] : List va_W))) H := vP_fa (vP_perm hP (bP (List.Perm.refl _)))
  have hDx : va_D A ((List.flatten ([(oX5 (p0a 0) p0a p0k p0w p0l)] : List va_W)) ++ (List.flatten ([(oX1 (p1a 0) p1a p1k p1n p1w p1l), (oX9 (p1a 3) p1_2a p1_2k p1_2n p1_2w)] : List va_W))) := vD_fa (vD_perm hD (bP (List.Perm.refl _)))
  have hKx : va_K (dC, dI) cls ((List.flatten ([(tX5 p0k)] : List (List (ClassId × FieldType)))) ++ (List.flatten ([(tX1 p1k), (tX9 p1_2k)] : List (List (ClassId × FieldType))))) s := vK_fa (vK_perm hK (bP (List.Perm.refl _)))
  have hPc := vP_l hPx
  have hDc := vD_l hDx
  have hKc := vK_l hKx
  have hFc := vfree hDx hS hA
  refine va_calli (va_runV (As := [.int (p1_2w 5 (nn p2))]) (rest := []) ⟨hx, hb, hml, hown, hts⟩ (kX5_standInOf l dC dI (p0a := p0a) (p0k := p0k) (p0w := p0w) (p0l := p0l) (p1 := (p1_2w 5 (nn p2))) (sz := _) (o := o_7) (hrun := hc_7)) (cwV 1 hts (gi_V qw541 qw542 qw543 qw442 (gi_z qw540)) rfl rfl rfl (by decide +kernel) ⟨Nat.le_of_ble_eq_true rfl, Nat.le_of_ble_eq_true rfl⟩) ⟨PRE.blind, va_recv hKc hPc (ci := 7) (q0 := 0) rfl rfl, PRE.of hE hS hFc hPc hKc hDc⟩ rfl rfl hl.1 rfl (lv_room (Nat.le_of_ble_eq_true rfl)) dX5_joinOperator_40 ⟨(Nat.le_of_ble_eq_true rfl), (Nat.le_of_ble_eq_true rfl)⟩) hS (fun q _ h => hFc q h) hFc (fun r8 u t H locs ht hvm hw hB hz1 hk1 hS => ?_)
  obtain ⟨b1, b2, b3⟩ := hB
  rw [ht] at b1
  obtain ⟨hP, hD, hK⟩ := JOINC (wc := (List.flatten ([(oX5 (p0a 0) p0a p0k p0w p0l)] : List va_W))) (wr := (List.flatten ([(oX1 (p1a 0) p1a p1k p1n p1w p1l), (oX9 (p1a 3) p1_2a p1_2k p1_2n p1_2w)] : List va_W))) (w1 := (List.flatten ([(oX5 (p0a 0) p0a p0k p0w p0l)] : List va_W))) (t1 := (List.flatten ([(tX5 p0k)] : List (List (ClassId × FieldType))))) hPx hDx hKx hk1 hFc b1 (va_K.moved hvm.symm b2) b3
  have hP : va_P (dC, dI) cls (List.flatten ([(oX5 (p0a 0) p0a p0k p0w p0l), (oX1 (p1a 0) p1a p1k p1n p1w p1l), (oX9 (p1a 3) p1_2a p1_2k p1_2n p1_2w)] : List va_W)) H := vP_perm (vP_fb hP) (bP (List.Perm.refl _))
  have hD : va_D A (List.flatten ([(oX5 (p0a 0) p0a p0k p0w p0l), (oX1 (p1a 0) p1a p1k p1n p1w p1l), (oX9 (p1a 3) p1_2a p1_2k p1_2n p1_2w)] : List va_W)) := vD_perm (vD_fb hD) (bP (List.Perm.refl _))
  have hK : va_K (dC, dI) cls (List.flatten ([(tX5 p0k), (tX1 p1k), (tX9 p1_2k)] : List (List (ClassId × FieldType)))) s := vK_perm (vK_fb hK) (bP (List.Perm.refl _))
  obtain rfl : o_7 = r8 := hw.symm
  refine lv_istore (lv' := [(7, .int o_7), (6, .int o_4), (5, .int (p1_2w 3 (nn p2))), (4, .int (p1_2w 2 (nn p2))), (3, .ref (p1a 3)), (0, .ref (p0a 0)), (1, .ref (p1a 0)), (2, .int p2)]) hx hb dX5_joinOperator_43 hl (by decide) rfl (fun ls hl => ?_)
  refine lv_aload_n hx hb dX5_joinOperator_45 rfl (lv_at hl 4 rfl) ?_
  refine va_get (D := (dC, dI)) (ci := 3) (v := .ref (p1_2a 4)) (C := RX9) (T := TX9) (N := 6) hx hb hts i_X9 hown hK hP 28 rfl rfl 3 (by decide) (hts _ qw421) (fun _ h9 => h9) rfl dX5_joinOperator_46 ?_
  refine lv_iload_n hx hb dX5_joinOperator_49 rfl (lv_at hl 7 rfl) ?_
  refine lv_iload hx hb dX5_joinOperator_50 (lv_at hl 1 rfl) ?_
  obtain ⟨hq9, hrun⟩ := chk9 hrun
  refine va_iast hx hb hK hP hD hS 31 28 rfl rfl (ixb_in hq9) dX5_joinOperator_52 (fun H locs hP hD hS => ?_)
  have hP : va_P (dC, dI) cls (List.flatten ([(oX5 (p0a 0) p0a p0k p0w p0l), (oX1 (p1a 0) p1a p1k p1n p1w p1l), (oX9 (p1a 3) p1_2a p1_2k p1_2n (upw p1_2w 4 (nn p2) o_4))] : List va_W)) H := hP
  have hD : va_D A (List.flatten ([(oX5 (p0a 0) p0a p0k p0w p0l), (oX1 (p1a 0) p1a p1k p1n p1w p1l), (oX9 (p1a 3) p1_2a p1_2k p1_2n (upw p1_2w 4 (nn p2) o_4))] : List va_W)) := hD
  obtain ⟨w10, ew10, hrun⟩ := let9 hrun
  rw [← ew10] at hP hD
  refine lv_aload_n hx hb dX5_joinOperator_53 rfl (lv_at hl 4 rfl) ?_
  refine va_get (D := (dC, dI)) (ci := 3) (v := .ref (p1_2a 5)) (C := RX9) (T := TX9) (N := 6) hx hb hts i_X9 hown hK hP 28 rfl rfl 4 (by decide) (hts _ qw422) (fun _ h9 => h9) rfl dX5_joinOperator_54 ?_
  refine lv_iload_n hx hb dX5_joinOperator_57 rfl (lv_at hl 7 rfl) ?_
  refine lv_iload hx hb dX5_joinOperator_58 (lv_at hl 0 rfl) ?_
  obtain ⟨hq11, hrun⟩ := chk9 hrun
  refine va_iast hx hb hK hP hD hS 32 29 rfl rfl (ixb_in hq11) dX5_joinOperator_60 (fun H locs hP hD hS => ?_)
  have hP : va_P (dC, dI) cls (List.flatten ([(oX5 (p0a 0) p0a p0k p0w p0l), (oX1 (p1a 0) p1a p1k p1n p1w p1l), (oX9 (p1a 3) p1_2a p1_2k p1_2n (upw w10 5 (nn p2) o_7))] : List va_W)) H := hP
  have hD : va_D A (List.flatten ([(oX5 (p0a 0) p0a p0k p0w p0l), (oX1 (p1a 0) p1a p1k p1n p1w p1l), (oX9 (p1a 3) p1_2a p1_2k p1_2n (upw w10 5 (nn p2) o_7))] : List va_W)) := hD
  obtain ⟨w12, ew12, hrun⟩ := let9 hrun
  rw [← ew12] at hP hD
  refine lv_aload_n hx hb dX5_joinOperator_61 rfl (lv_at hl 5 rfl) ?_
  refine lv_aload_n hx hb dX5_joinOperator_62 rfl (lv_at hl 6 rfl) ?_
  refine lv_iload hx hb dX5_joinOperator_63 (lv_at hl 1 rfl) ?_
  obtain ⟨o_13, hc_13, hrun⟩ := bnd9 hrun
  have hPx : va_P (dC, dI) cls ((List.flatten ([(oX5 (p0a 0) p0a p0k p0w p0l), (oX1 (p1a 0) p1a p1k p1n p1w p1l), (oX9 (p1a 3) p1_2a p1_2k p1_2n w12)] : List va_W)) ++ (List.flatten ([] : List va_W))) H := vP_fa (vP_perm hP (bP (List.Perm.refl _)))
  have hDx : va_D A ((List.flatten ([(oX5 (p0a 0) p0a p0k p0w p0l), (oX1 (p1a 0) p1a p1k p1n p1w p1l), (oX9 (p1a 3) p1_2a p1_2k p1_2n w12)] : List va_W)) ++ (List.flatten ([] : List va_W))) := vD_fa (vD_perm hD (bP (List.Perm.refl _)))
  have hKx : va_K (dC, dI) cls ((List.flatten ([(tX5 p0k), (tX1 p1k), (tX9 p1_2k)] : List (List (ClassId × FieldType)))) ++ (List.flatten ([] : List (List (ClassId × FieldType))))) s := vK_fa (vK_perm hK (bP (List.Perm.refl _)))
  have hPc := vP_l hPx
  have hDc := vD_l hDx
  have hKc := vK_l hKx
  have hFc := vfree hDx hS hA
  refine va_calli (va_runV (As := [.ref (p1a 0), .int o_4]) (rest := []) ⟨hx, hb, hml, hown, hts⟩ (kX5_isNumber l dC dI (p0a := p0a) (p0k := p0k) (p0w := p0w) (p0l := p0l) (p1a := p1a) (p1k := p1k) (p1n := p1n) (p1w := p1w) (p1l := p1l) (p2 := o_4) (p1_2a := p1_2a) (p1_2k := p1_2k) (p1_2n := p1_2n) (p1_2w := w12) (sz := _) (o := o_13) (hrun := hc_13)) (cwV 2 hts (gi_V qw457 qw458 qw459 qw442 (gi_z qw456)) rfl rfl rfl (by decide +kernel) ⟨Nat.le_of_ble_eq_true rfl, Nat.le_of_ble_eq_true rfl⟩) ⟨PRE.blind, va_recv hKc hPc (ci := 7) (q0 := 0) rfl rfl, PRE.of hE hS hFc hPc hKc hDc⟩ rfl rfl hl.1 rfl (lv_room (Nat.le_of_ble_eq_true rfl)) dX5_joinOperator_65 ⟨(Nat.le_of_ble_eq_true rfl), (Nat.le_of_ble_eq_true rfl)⟩) hS (fun q _ h => hFc q h) hFc (fun r14 u t H locs ht hvm hw hB hz1 hk1 hS => ?_)
  obtain ⟨b1, b2, b3⟩ := hB
  rw [ht] at b1
  obtain ⟨hP, hD, hK⟩ := JOINC (wc := (List.flatten ([(oX5 (p0a 0) p0a p0k p0w p0l), (oX1 (p1a 0) p1a p1k p1n p1w p1l), (oX9 (p1a 3) p1_2a p1_2k p1_2n w12)] : List va_W))) (wr := (List.flatten ([] : List va_W))) (w1 := (List.flatten ([(oX5 (p0a 0) p0a p0k p0w p0l), (oX1 (p1a 0) p1a p1k p1n p1w p1l), (oX9 (p1a 3) p1_2a p1_2k p1_2n w12)] : List va_W))) (t1 := (List.flatten ([(tX5 p0k), (tX1 p1k), (tX9 p1_2k)] : List (List (ClassId × FieldType))))) hPx hDx hKx hk1 hFc b1 (va_K.moved hvm.symm b2) b3
  have hP : va_P (dC, dI) cls (List.flatten ([(oX5 (p0a 0) p0a p0k p0w p0l), (oX1 (p1a 0) p1a p1k p1n p1w p1l), (oX9 (p1a 3) p1_2a p1_2k p1_2n w12)] : List va_W)) H := vP_perm (vP_fb hP) (bP (List.Perm.refl _))
  have hD : va_D A (List.flatten ([(oX5 (p0a 0) p0a p0k p0w p0l), (oX1 (p1a 0) p1a p1k p1n p1w p1l), (oX9 (p1a 3) p1_2a p1_2k p1_2n w12)] : List va_W)) := vD_perm (vD_fb hD) (bP (List.Perm.refl _))
  have hK : va_K (dC, dI) cls (List.flatten ([(tX5 p0k), (tX1 p1k), (tX9 p1_2k)] : List (List (ClassId × FieldType)))) s := vK_perm (vK_fb hK) (bP (List.Perm.refl _))
  obtain rfl : o_13 = r14 := hw.symm
  have J290 : ∀ (p0w_290 : ST) (p1_2w_290 : ST) (H : Heap) (locs : List Loc) (ls : Array Slot), (fX5_joinOperator_J290 p0w_290 p1_2w_290) = some o → va_P (dC, dI) cls (List.flatten ([(oX5 (p0a 0) p0a p0k p0w_290 p0l), (oX1 (p1a 0) p1a p1k p1n p1w p1l), (oX9 (p1a 3) p1_2a p1_2k p1_2n p1_2w_290)] : List va_W)) H → va_D A (List.flatten ([(oX5 (p0a 0) p0a p0k p0w_290 p0l), (oX1 (p1a 0) p1a p1k p1n p1w p1l), (oX9 (p1a 3) p1_2a p1_2k p1_2n p1_2w_290)] : List va_W)) → va_K (dC, dI) cls (List.flatten ([(tX5 p0k), (tX1 p1k), (tX9 p1_2k)] : List (List (ClassId × FieldType)))) s → va_S A s.heap H locs → lv_has ls 8 [] → W p l e ({ frames := 3, cells := 0, slots := 0, locals := 69 } : Room) s m ([.ref (p0a 0), .ref (p1a 0), .int p2] : List Value).toArray below meth c H locs 0 0 Q (F0 m 290 ls []) := by
    intro p0w_290 p1_2w_290 H locs ls hrun hP hD hK hS hl 
    unfold fX5_joinOperator_J290 at hrun
    have ho9 : (p0w_290, p1_2w_290) = o := Option.some.inj hrun
    have hP9 : va_P (dC, dI) cls (List.flatten ([(oX5 (p0a 0) p0a p0k (o.1) p0l), (oX1 (p1a 0) p1a p1k p1n p1w p1l), (oX9 (p1a 3) p1_2a p1_2k p1_2n (o.2))] : List va_W)) H := by first | exact hP | (rw [← ho9]; exact hP)
    have hD9 : va_D A (List.flatten ([(oX5 (p0a 0) p0a p0k (o.1) p0l), (oX1 (p1a 0) p1a p1k p1n p1w p1l), (oX9 (p1a 3) p1_2a p1_2k p1_2n (o.2))] : List va_W)) := by first | exact hD | (rw [← ho9]; exact hD)
    subst hQ
    exact W.vret hx hb hr (fun t ht hW => ⟨⟨(), rfl, trivial, ⟨by rw [ht]; exact hP9, va_K.moved hW.alike hK, hD9⟩⟩, hS.F ht⟩) hS.2.2 dX5_joinOperator_290
  have J131 : ∀ (H : Heap) (locs : List Loc) (ls : Array Slot), (fX5_joinOperator_J131 p0w p2 p1_2n p1_2w o_4 o_7 w12) = some o → va_P (dC, dI) cls (List.flatten ([(oX5 (p0a 0) p0a p0k p0w p0l), (oX1 (p1a 0) p1a p1k p1n p1w p1l), (oX9 (p1a 3) p1_2a p1_2k p1_2n w12)] : List va_W)) H → va_D A (List.flatten ([(oX5 (p0a 0) p0a p0k p0w p0l), (oX1 (p1a 0) p1a p1k p1n p1w p1l), (oX9 (p1a 3) p1_2a p1_2k p1_2n w12)] : List va_W)) → va_K (dC, dI) cls (List.flatten ([(tX5 p0k), (tX1 p1k), (tX9 p1_2k)] : List (List (ClassId × FieldType)))) s → va_S A s.heap H locs → lv_has ls 8 [(0, .ref (p0a 0)), (1, .ref (p1a 0)), (2, .int p2), (3, .ref (p1a 3)), (4, .int (p1_2w 2 (nn p2))), (5, .int (p1_2w 3 (nn p2))), (6, .int o_4), (7, .int o_7)] → W p l e ({ frames := 3, cells := 0, slots := 0, locals := 69 } : Room) s m ([.ref (p0a 0), .ref (p1a 0), .int p2] : List Value).toArray below meth c H locs 0 0 Q (F0 m 131 ls []) := by
    intro  H locs ls hrun hP hD hK hS hl 
    unfold fX5_joinOperator_J131 at hrun
    refine lv_aload_n hx hb dX5_joinOperator_131 rfl (lv_at hl 0 rfl) ?_
    refine lv_aload_n hx hb dX5_joinOperator_132 rfl (lv_at hl 1 rfl) ?_
    refine lv_iload hx hb dX5_joinOperator_133 (lv_at hl 4 rfl) ?_
    refine lv_iload hx hb dX5_joinOperator_135 (lv_at hl 6 rfl) ?_
    refine lv_iload hx hb dX5_joinOperator_137 (lv_at hl 7 rfl) ?_
    obtain ⟨o_15, hc_15, hrun⟩ := bnd9 hrun
    have hPx : va_P (dC, dI) cls ((List.flatten ([(oX5 (p0a 0) p0a p0k p0w p0l), (oX1 (p1a 0) p1a p1k p1n p1w p1l), (oX9 (p1a 3) p1_2a p1_2k p1_2n w12)] : List va_W)) ++ (List.flatten ([] : List va_W))) H := vP_fa (vP_perm hP (bP (List.Perm.refl _)))
    have hDx : va_D A ((List.flatten ([(oX5 (p0a 0) p0a p0k p0w p0l), (oX1 (p1a 0) p1a p1k p1n p1w p1l), (oX9 (p1a 3) p1_2a p1_2k p1_2n w12)] : List va_W)) ++ (List.flatten ([] : List va_W))) := vD_fa (vD_perm hD (bP (List.Perm.refl _)))
    have hKx : va_K (dC, dI) cls ((List.flatten ([(tX5 p0k), (tX1 p1k), (tX9 p1_2k)] : List (List (ClassId × FieldType)))) ++ (List.flatten ([] : List (List (ClassId × FieldType))))) s := vK_fa (vK_perm hK (bP (List.Perm.refl _)))
    have hPc := vP_l hPx
    have hDc := vD_l hDx
    have hKc := vK_l hKx
    have hFc := vfree hDx hS hA
    refine va_calli (va_runV (As := [.ref (p1a 0), .int (p1_2w 2 (nn p2)), .int o_4, .int o_7]) (rest := []) ⟨hx, hb, hml, hown, hts⟩ (kX5_isLeftAlone l dC dI (p0a := p0a) (p0k := p0k) (p0w := p0w) (p0l := p0l) (p1a := p1a) (p1k := p1k) (p1n := p1n) (p1w := p1w) (p1l := p1l) (p2 := (p1_2w 2 (nn p2))) (p3 := o_4) (p4 := o_7) (p1_2a := p1_2a) (p1_2k := p1_2k) (p1_2n := p1_2n) (p1_2w := w12) (sz := _) (o := o_15) (hrun := hc_15)) (cwV 4 hts (gi_V qw565 qw566 qw567 qw442 (gi_z qw564)) rfl rfl rfl (by decide +kernel) ⟨Nat.le_of_ble_eq_true rfl, Nat.le_of_ble_eq_true rfl⟩) ⟨PRE.blind, va_recv hKc hPc (ci := 7) (q0 := 0) rfl rfl, PRE.of hE hS hFc hPc hKc hDc⟩ rfl rfl hl.1 rfl (lv_room (Nat.le_of_ble_eq_true rfl)) dX5_joinOperator_139 ⟨(Nat.le_of_ble_eq_true rfl), (Nat.le_of_ble_eq_true rfl)⟩) hS (fun q _ h => hFc q h) hFc (fun r16 u t H locs ht hvm hw hB hz1 hk1 hS => ?_)
    obtain ⟨b1, b2, b3⟩ := hB
    rw [ht] at b1
    obtain ⟨hP, hD, hK⟩ := JOINC (wc := (List.flatten ([(oX5 (p0a 0) p0a p0k p0w p0l), (oX1 (p1a 0) p1a p1k p1n p1w p1l), (oX9 (p1a 3) p1_2a p1_2k p1_2n w12)] : List va_W))) (wr := (List.flatten ([] : List va_W))) (w1 := (List.flatten ([(oX5 (p0a 0) p0a p0k p0w p0l), (oX1 (p1a 0) p1a p1k p1n p1w p1l), (oX9 (p1a 3) p1_2a p1_2k p1_2n w12)] : List va_W))) (t1 := (List.flatten ([(tX5 p0k), (tX1 p1k), (tX9 p1_2k)] : List (List (ClassId × FieldType))))) hPx hDx hKx hk1 hFc b1 (va_K.moved hvm.symm b2) b3
    have hP : va_P (dC, dI) cls (List.flatten ([(oX5 (p0a 0) p0a p0k p0w p0l), (oX1 (p1a 0) p1a p1k p1n p1w p1l), (oX9 (p1a 3) p1_2a p1_2k p1_2n w12)] : List va_W)) H := vP_perm (vP_fb hP) (bP (List.Perm.refl _))
    have hD : va_D A (List.flatten ([(oX5 (p0a 0) p0a p0k p0w p0l), (oX1 (p1a 0) p1a p1k p1n p1w p1l), (oX9 (p1a 3) p1_2a p1_2k p1_2n w12)] : List va_W)) := vD_perm (vD_fb hD) (bP (List.Perm.refl _))
    have hK : va_K (dC, dI) cls (List.flatten ([(tX5 p0k), (tX1 p1k), (tX9 p1_2k)] : List (List (ClassId × FieldType)))) s := vK_perm (vK_fb hK) (bP (List.Perm.refl _))
    obtain rfl : o_15 = r16 := hw.symm
    rcases br9 hrun with ⟨hc17, hrun⟩ | ⟨hc17, hrun⟩
    · refine lv_if_eq (tgt := 157) hx hb dX5_joinOperator_142 (by decide) (fun _ => ?_) (fun c => absurd hc17 c)
      refine lv_aload_n hx hb dX5_joinOperator_157 rfl (lv_at hl 0 rfl) ?_
      refine lv_aload_n hx hb dX5_joinOperator_158 rfl (lv_at hl 1 rfl) ?_
      refine lv_iload hx hb dX5_joinOperator_159 (lv_at hl 4 rfl) ?_
      refine lv_iload hx hb dX5_joinOperator_161 (lv_at hl 6 rfl) ?_
      refine lv_iload hx hb dX5_joinOperator_163 (lv_at hl 7 rfl) ?_
      obtain ⟨o_18, hc_18, hrun⟩ := bnd9 hrun
      have hPx : va_P (dC, dI) cls ((List.flatten ([(oX5 (p0a 0) p0a p0k p0w p0l), (oX1 (p1a 0) p1a p1k p1n p1w p1l), (oX9 (p1a 3) p1_2a p1_2k p1_2n w12)] : List va_W)) ++ (List.flatten ([] : List va_W))) H := vP_fa (vP_perm hP (bP (List.Perm.refl _)))
      have hDx : va_D A ((List.flatten ([(oX5 (p0a 0) p0a p0k p0w p0l), (oX1 (p1a 0) p1a p1k p1n p1w p1l), (oX9 (p1a 3) p1_2a p1_2k p1_2n w12)] : List va_W)) ++ (List.flatten ([] : List va_W))) := vD_fa (vD_perm hD (bP (List.Perm.refl _)))
      have hKx : va_K (dC, dI) cls ((List.flatten ([(tX5 p0k), (tX1 p1k), (tX9 p1_2k)] : List (List (ClassId × FieldType)))) ++ (List.flatten ([] : List (List (ClassId × FieldType))))) s := vK_fa (vK_perm hK (bP (List.Perm.refl _)))
      have hPc := vP_l hPx
      have hDc := vD_l hDx
      have hKc := vK_l hKx
      have hFc := vfree hDx hS hA
      refine va_calli (va_runV (As := [.ref (p1a 0), .int (p1_2w 2 (nn p2)), .int o_4, .int o_7]) (rest := []) ⟨hx, hb, hml, hown, hts⟩ (kX5_isRightAlone l dC dI (p0a := p0a) (p0k := p0k) (p0w := p0w) (p0l := p0l) (p1a := p1a) (p1k := p1k) (p1n := p1n) (p1w := p1w) (p1l := p1l) (p2 := (p1_2w 2 (nn p2))) (p3 := o_4) (p4 := o_7) (p1_2a := p1_2a) (p1_2k := p1_2k) (p1_2n := p1_2n) (p1_2w := w12) (sz := _) (o := o_18) (hrun := hc_18)) (cwV 4 hts (gi_V qw569 qw570 qw571 qw442 (gi_z qw568)) rfl rfl rfl (by decide +kernel) ⟨Nat.le_of_ble_eq_true rfl, Nat.le_of_ble_eq_true rfl⟩) ⟨PRE.blind, va_recv hKc hPc (ci := 7) (q0 := 0) rfl rfl, PRE.of hE hS hFc hPc hKc hDc⟩ rfl rfl hl.1 rfl (lv_room (Nat.le_of_ble_eq_true rfl)) dX5_joinOperator_165 ⟨(Nat.le_of_ble_eq_true rfl), (Nat.le_of_ble_eq_true rfl)⟩) hS (fun q _ h => hFc q h) hFc (fun r19 u t H locs ht hvm hw hB hz1 hk1 hS => ?_)
      obtain ⟨b1, b2, b3⟩ := hB
      rw [ht] at b1
      obtain ⟨hP, hD, hK⟩ := JOINC (wc := (List.flatten ([(oX5 (p0a 0) p0a p0k p0w p0l), (oX1 (p1a 0) p1a p1k p1n p1w p1l), (oX9 (p1a 3) p1_2a p1_2k p1_2n w12)] : List va_W))) (wr := (List.flatten ([] : List va_W))) (w1 := (List.flatten ([(oX5 (p0a 0) p0a p0k p0w p0l), (oX1 (p1a 0) p1a p1k p1n p1w p1l), (oX9 (p1a 3) p1_2a p1_2k p1_2n w12)] : List va_W))) (t1 := (List.flatten ([(tX5 p0k), (tX1 p1k), (tX9 p1_2k)] : List (List (ClassId × FieldType))))) hPx hDx hKx hk1 hFc b1 (va_K.moved hvm.symm b2) b3
      have hP : va_P (dC, dI) cls (List.flatten ([(oX5 (p0a 0) p0a p0k p0w p0l), (oX1 (p1a 0) p1a p1k p1n p1w p1l), (oX9 (p1a 3) p1_2a p1_2k p1_2n w12)] : List va_W)) H := vP_perm (vP_fb hP) (bP (List.Perm.refl _))
      have hD : va_D A (List.flatten ([(oX5 (p0a 0) p0a p0k p0w p0l), (oX1 (p1a 0) p1a p1k p1n p1w p1l), (oX9 (p1a 3) p1_2a p1_2k p1_2n w12)] : List va_W)) := vD_perm (vD_fb hD) (bP (List.Perm.refl _))
      have hK : va_K (dC, dI) cls (List.flatten ([(tX5 p0k), (tX1 p1k), (tX9 p1_2k)] : List (List (ClassId × FieldType)))) s := vK_perm (vK_fb hK) (bP (List.Perm.refl _))
      obtain rfl : o_18 = r19 := hw.symm
      rcases br9 hrun with ⟨hc20, hrun⟩ | ⟨hc20, hrun⟩
      · refine lv_if_eq (tgt := 183) hx hb dX5_joinOperator_168 (by decide) (fun _ => ?_) (fun c => absurd hc20 c)
        refine lv_aload_n hx hb dX5_joinOperator_183 rfl (lv_at hl 0 rfl) ?_
        refine lv_aload_n hx hb dX5_joinOperator_184 rfl (lv_at hl 1 rfl) ?_
        refine lv_iload hx hb dX5_joinOperator_185 (lv_at hl 4 rfl) ?_
        refine lv_iload hx hb dX5_joinOperator_187 (lv_at hl 6 rfl) ?_
        refine lv_iload hx hb dX5_joinOperator_189 (lv_at hl 7 rfl) ?_
        obtain ⟨o_21, hc_21, hrun⟩ := bnd9 hrun
        have hPx : va_P (dC, dI) cls ((List.flatten ([(oX5 (p0a 0) p0a p0k p0w p0l), (oX1 (p1a 0) p1a p1k p1n p1w p1l), (oX9 (p1a 3) p1_2a p1_2k p1_2n w12)] : List va_W)) ++ (List.flatten ([] : List va_W))) H := vP_fa (vP_perm hP (bP (List.Perm.refl _)))
        have hDx : va_D A ((List.flatten ([(oX5 (p0a 0) p0a p0k p0w p0l), (oX1 (p1a 0) p1a p1k p1n p1w p1l), (oX9 (p1a 3) p1_2a p1_2k p1_2n w12)] : List va_W)) ++ (List.flatten ([] : List va_W))) := vD_fa (vD_perm hD (bP (List.Perm.refl _)))
        have hKx : va_K (dC, dI) cls ((List.flatten ([(tX5 p0k), (tX1 p1k), (tX9 p1_2k)] : List (List (ClassId × FieldType)))) ++ (List.flatten ([] : List (List (ClassId × FieldType))))) s := vK_fa (vK_perm hK (bP (List.Perm.refl _)))
        have hPc := vP_l hPx
        have hDc := vD_l hDx
        have hKc := vK_l hKx
        have hFc := vfree hDx hS hA
        refine va_calli (va_runV (As := [.ref (p1a 0), .int (p1_2w 2 (nn p2)), .int o_4, .int o_7]) (rest := []) ⟨hx, hb, hml, hown, hts⟩ (kX5_isAlwaysZero l dC dI (p0a := p0a) (p0k := p0k) (p0w := p0w) (p0l := p0l) (p1a := p1a) (p1k := p1k) (p1n := p1n) (p1w := p1w) (p1l := p1l) (p2 := (p1_2w 2 (nn p2))) (p3 := o_4) (p4 := o_7) (p1_2a := p1_2a) (p1_2k := p1_2k) (p1_2n := p1_2n) (p1_2w := w12) (sz := _) (o := o_21) (hrun := hc_21)) (cwV 4 hts (gi_V qw573 qw574 qw575 qw442 (gi_z qw572)) rfl rfl rfl (by decide +kernel) ⟨Nat.le_of_ble_eq_true rfl, Nat.le_of_ble_eq_true rfl⟩) ⟨PRE.blind, va_recv hKc hPc (ci := 7) (q0 := 0) rfl rfl, PRE.of hE hS hFc hPc hKc hDc⟩ rfl rfl hl.1 rfl (lv_room (Nat.le_of_ble_eq_true rfl)) dX5_joinOperator_191 ⟨(Nat.le_of_ble_eq_true rfl), (Nat.le_of_ble_eq_true rfl)⟩) hS (fun q _ h => hFc q h) hFc (fun r22 u t H locs ht hvm hw hB hz1 hk1 hS => ?_)
        obtain ⟨b1, b2, b3⟩ := hB
        rw [ht] at b1
        obtain ⟨hP, hD, hK⟩ := JOINC (wc := (List.flatten ([(oX5 (p0a 0) p0a p0k p0w p0l), (oX1 (p1a 0) p1a p1k p1n p1w p1l), (oX9 (p1a 3) p1_2a p1_2k p1_2n w12)] : List va_W))) (wr := (List.flatten ([] : List va_W))) (w1 := (List.flatten ([(oX5 (p0a 0) p0a p0k p0w p0l), (oX1 (p1a 0) p1a p1k p1n p1w p1l), (oX9 (p1a 3) p1_2a p1_2k p1_2n w12)] : List va_W))) (t1 := (List.flatten ([(tX5 p0k), (tX1 p1k), (tX9 p1_2k)] : List (List (ClassId × FieldType))))) hPx hDx hKx hk1 hFc b1 (va_K.moved hvm.symm b2) b3
        have hP : va_P (dC, dI) cls (List.flatten ([(oX5 (p0a 0) p0a p0k p0w p0l), (oX1 (p1a 0) p1a p1k p1n p1w p1l), (oX9 (p1a 3) p1_2a p1_2k p1_2n w12)] : List va_W)) H := vP_perm (vP_fb hP) (bP (List.Perm.refl _))
        have hD : va_D A (List.flatten ([(oX5 (p0a 0) p0a p0k p0w p0l), (oX1 (p1a 0) p1a p1k p1n p1w p1l), (oX9 (p1a 3) p1_2a p1_2k p1_2n w12)] : List va_W)) := vD_perm (vD_fb hD) (bP (List.Perm.refl _))
        have hK : va_K (dC, dI) cls (List.flatten ([(tX5 p0k), (tX1 p1k), (tX9 p1_2k)] : List (List (ClassId × FieldType)))) s := vK_perm (vK_fb hK) (bP (List.Perm.refl _))
        obtain rfl : o_21 = r22 := hw.symm
        rcases br9 hrun with ⟨hc23, hrun⟩ | ⟨hc23, hrun⟩
        · refine lv_if_eq (tgt := 214) hx hb dX5_joinOperator_194 (by decide) (fun _ => ?_) (fun c => absurd hc23 c)
          refine lv_iload hx hb dX5_joinOperator_214 (lv_at hl 6 rfl) ?_
          refine lv_iload hx hb dX5_joinOperator_216 (lv_at hl 7 rfl) ?_
          have J259 : ∀ (H : Heap) (locs : List Loc) (ls : Array Slot), (fX5_joinOperator_J259 p0w p2 p1_2n p1_2w o_4 o_7 w12) = some o → va_P (dC, dI) cls (List.flatten ([(oX5 (p0a 0) p0a p0k p0w p0l), (oX1 (p1a 0) p1a p1k p1n p1w p1l), (oX9 (p1a 3) p1_2a p1_2k p1_2n w12)] : List va_W)) H → va_D A (List.flatten ([(oX5 (p0a 0) p0a p0k p0w p0l), (oX1 (p1a 0) p1a p1k p1n p1w p1l), (oX9 (p1a 3) p1_2a p1_2k p1_2n w12)] : List va_W)) → va_K (dC, dI) cls (List.flatten ([(tX5 p0k), (tX1 p1k), (tX9 p1_2k)] : List (List (ClassId × FieldType)))) s → va_S A s.heap H locs → lv_has ls 8 [(2, .int p2), (3, .ref (p1a 3)), (4, .int (p1_2w 2 (nn p2))), (6, .int o_4), (7, .int o_7)] → W p l e ({ frames := 3, cells := 0, slots := 0, locals := 69 } : Room) s m ([.ref (p0a 0), .ref (p1a 0), .int p2] : List Value).toArray below meth c H locs 0 0 Q (F0 m 259 ls []) := by
            intro  H locs ls hrun hP hD hK hS hl 
            unfold fX5_joinOperator_J259 at hrun
            refine lv_iload hx hb dX5_joinOperator_259 (lv_at hl 3 rfl) ?_
            refine lv_iload hx hb dX5_joinOperator_261 (lv_at hl 4 rfl) ?_
            rcases br9 hrun with ⟨hc24, hrun⟩ | ⟨hc24, hrun⟩
            · refine lv_icmp_le (tgt := 290) hx hb dX5_joinOperator_263 (by decide) (fun _ => ?_) (fun c => absurd hc24 c)
              exact J290 p0w w12 _ _ _ hrun hP hD hK hS (lv_sub hl [] rfl)
            · refine lv_icmp_le (tgt := 290) hx hb dX5_joinOperator_263 (by decide) (fun c => absurd c hc24) (fun _ => ?_)
              refine lv_iload hx hb dX5_joinOperator_266 (lv_at hl 2 rfl) ?_
              obtain ⟨o_25, hc_25, hrun⟩ := bnd9 hrun
              have hPx : va_P (dC, dI) cls ((List.flatten ([] : List va_W)) ++ (List.flatten ([(oX5 (p0a 0) p0a p0k p0w p0l), (oX1 (p1a 0) p1a p1k p1n p1w p1l), (oX9 (p1a 3) p1_2a p1_2k p1_2n w12)] : List va_W))) H := vP_fa (vP_perm hP (bP (List.Perm.refl _)))
              have hDx : va_D A ((List.flatten ([] : List va_W)) ++ (List.flatten ([(oX5 (p0a 0) p0a p0k p0w p0l), (oX1 (p1a 0) p1a p1k p1n p1w p1l), (oX9 (p1a 3) p1_2a p1_2k p1_2n w12)] : List va_W))) := vD_fa (vD_perm hD (bP (List.Perm.refl _)))
              have hKx : va_K (dC, dI) cls ((List.flatten ([] : List (List (ClassId × FieldType)))) ++ (List.flatten ([(tX5 p0k), (tX1 p1k), (tX9 p1_2k)] : List (List (ClassId × FieldType))))) s := vK_fa (vK_perm hK (bP (List.Perm.refl _)))
              have hPc := vP_l hPx
              have hDc := vD_l hDx
              have hKc := vK_l hKx
              have hFc := vfree hDx hS hA
              refine va_calli (va_runS (As := [.int (p1_2w 2 (nn p2))]) (rest := []) ⟨hx, hb, hml, hown, hts⟩ (kX5_isEitherWay l dC dI (p0 := (p1_2w 2 (nn p2))) (sz := _) (o := o_25) (hrun := hc_25)) (va_cwS 1 hts (gi_S qw577 qw578 qw442 (gi_z qw576)) rfl rfl rfl (by decide +kernel) ⟨Nat.le_of_ble_eq_true rfl, Nat.le_of_ble_eq_true rfl⟩) ⟨PRE.blind, PRE.of hE hS hFc hPc hKc hDc⟩ rfl rfl hl.1 rfl (lv_room (Nat.le_of_ble_eq_true rfl)) dX5_joinOperator_268 ⟨(Nat.le_of_ble_eq_true rfl), (Nat.le_of_ble_eq_true rfl)⟩) hS (fun q _ h => hFc q h) hFc (fun r26 u t H locs ht hvm hw hB hz1 hk1 hS => ?_)
              obtain ⟨b1, b2, b3⟩ := hB
              rw [ht] at b1
              obtain ⟨hP, hD, hK⟩ := JOINC (wc := (List.flatten ([] : List va_W))) (wr := (List.flatten ([(oX5 (p0a 0) p0a p0k p0w p0l), (oX1 (p1a 0) p1a p1k p1n p1w p1l), (oX9 (p1a 3) p1_2a p1_2k p1_2n w12)] : List va_W))) (w1 := (List.flatten ([] : List va_W))) (t1 := (List.flatten ([] : List (List (ClassId × FieldType))))) hPx hDx hKx hk1 hFc b1 (va_K.moved hvm.symm b2) b3
              have hP : va_P (dC, dI) cls (List.flatten ([(oX5 (p0a 0) p0a p0k p0w p0l), (oX1 (p1a 0) p1a p1k p1n p1w p1l), (oX9 (p1a 3) p1_2a p1_2k p1_2n w12)] : List va_W)) H := vP_perm (vP_fb hP) (bP (List.Perm.refl _))
              have hD : va_D A (List.flatten ([(oX5 (p0a 0) p0a p0k p0w p0l), (oX1 (p1a 0) p1a p1k p1n p1w p1l), (oX9 (p1a 3) p1_2a p1_2k p1_2n w12)] : List va_W)) := vD_perm (vD_fb hD) (bP (List.Perm.refl _))
              have hK : va_K (dC, dI) cls (List.flatten ([(tX5 p0k), (tX1 p1k), (tX9 p1_2k)] : List (List (ClassId × FieldType)))) s := vK_perm (vK_fb hK) (bP (List.Perm.refl _))
              obtain rfl : o_25 = r26 := hw.symm
              rcases br9 hrun with ⟨hc27, hrun⟩ | ⟨hc27, hrun⟩
              · refine lv_if_eq (tgt := 290) hx hb dX5_joinOperator_271 (by decide) (fun _ => ?_) (fun c => absurd hc27 c)
                exact J290 p0w w12 _ _ _ hrun hP hD hK hS (lv_sub hl [] rfl)
              · refine lv_if_eq (tgt := 290) hx hb dX5_joinOperator_271 (by decide) (fun c => absurd c hc27) (fun _ => ?_)
                refine lv_aload_n hx hb dX5_joinOperator_274 rfl (lv_at hl 1 rfl) ?_
                refine va_get (D := (dC, dI)) (ci := 3) (v := .ref (p1_2a 4)) (C := RX9) (T := TX9) (N := 6) hx hb hts i_X9 hown hK hP 28 rfl rfl 3 (by decide) (hts _ qw421) (fun _ h9 => h9) rfl dX5_joinOperator_275 ?_
                refine lv_iload_n hx hb dX5_joinOperator_278 rfl (lv_at hl 0 rfl) ?_
                refine lv_iload hx hb dX5_joinOperator_279 (lv_at hl 4 rfl) ?_
                obtain ⟨hq28, hrun⟩ := chk9 hrun
                refine va_iast hx hb hK hP hD hS 31 28 rfl rfl (ixb_in hq28) dX5_joinOperator_281 (fun H locs hP hD hS => ?_)
                have hP : va_P (dC, dI) cls (List.flatten ([(oX5 (p0a 0) p0a p0k p0w p0l), (oX1 (p1a 0) p1a p1k p1n p1w p1l), (oX9 (p1a 3) p1_2a p1_2k p1_2n (upw w12 4 (nn p2) o_7))] : List va_W)) H := hP
                have hD : va_D A (List.flatten ([(oX5 (p0a 0) p0a p0k p0w p0l), (oX1 (p1a 0) p1a p1k p1n p1w p1l), (oX9 (p1a 3) p1_2a p1_2k p1_2n (upw w12 4 (nn p2) o_7))] : List va_W)) := hD
                obtain ⟨w29, ew29, hrun⟩ := let9 hrun
                rw [← ew29] at hP hD
                refine lv_aload_n hx hb dX5_joinOperator_282 rfl (lv_at hl 1 rfl) ?_
                refine va_get (D := (dC, dI)) (ci := 3) (v := .ref (p1_2a 5)) (C := RX9) (T := TX9) (N := 6) hx hb hts i_X9 hown hK hP 28 rfl rfl 4 (by decide) (hts _ qw422) (fun _ h9 => h9) rfl dX5_joinOperator_283 ?_
                refine lv_iload_n hx hb dX5_joinOperator_286 rfl (lv_at hl 0 rfl) ?_
                refine lv_iload hx hb dX5_joinOperator_287 (lv_at hl 3 rfl) ?_
                obtain ⟨hq30, hrun⟩ := chk9 hrun
                refine va_iast hx hb hK hP hD hS 32 29 rfl rfl (ixb_in hq30) dX5_joinOperator_289 (fun H locs hP hD hS => ?_)
                have hP : va_P (dC, dI) cls (List.flatten ([(oX5 (p0a 0) p0a p0k p0w p0l), (oX1 (p1a 0) p1a p1k p1n p1w p1l), (oX9 (p1a 3) p1_2a p1_2k p1_2n (upw w29 5 (nn p2) o_4))] : List va_W)) H := hP
                have hD : va_D A (List.flatten ([(oX5 (p0a 0) p0a p0k p0w p0l), (oX1 (p1a 0) p1a p1k p1n p1w p1l), (oX9 (p1a 3) p1_2a p1_2k p1_2n (upw w29 5 (nn p2) o_4))] : List va_W)) := hD
                obtain ⟨w31, ew31, hrun⟩ := let9 hrun
                rw [← ew31] at hP hD
                exact J290 p0w w31 _ _ _ hrun hP hD hK hS (lv_sub hl [] rfl)
          rcases br9 hrun with ⟨hc32, hrun⟩ | ⟨hc32, hrun⟩
          · refine lv_icmp_ne (tgt := 259) hx hb dX5_joinOperator_218 (by decide) (fun c => absurd hc32 c) (fun _ => ?_)
            refine lv_iload hx hb dX5_joinOperator_221 (lv_at hl 4 rfl) ?_
            refine lv_bipush (v := 15) hx hb dX5_joinOperator_223 (by decide) ?_
            have J242 : ∀ (H : Heap) (locs : List Loc) (ls : Array Slot), (fX5_joinOperator_J242 p0w p2 p1_2n p1_2w w12) = some o → va_P (dC, dI) cls (List.flatten ([(oX5 (p0a 0) p0a p0k p0w p0l), (oX1 (p1a 0) p1a p1k p1n p1w p1l), (oX9 (p1a 3) p1_2a p1_2k p1_2n w12)] : List va_W)) H → va_D A (List.flatten ([(oX5 (p0a 0) p0a p0k p0w p0l), (oX1 (p1a 0) p1a p1k p1n p1w p1l), (oX9 (p1a 3) p1_2a p1_2k p1_2n w12)] : List va_W)) → va_K (dC, dI) cls (List.flatten ([(tX5 p0k), (tX1 p1k), (tX9 p1_2k)] : List (List (ClassId × FieldType)))) s → va_S A s.heap H locs → lv_has ls 8 [(0, .ref (p0a 0)), (2, .int p2), (3, .ref (p1a 3)), (5, .int (p1_2w 3 (nn p2)))] → W p l e ({ frames := 3, cells := 0, slots := 0, locals := 69 } : Room) s m ([.ref (p0a 0), .ref (p1a 0), .int p2] : List Value).toArray below meth c H locs 0 0 Q (F0 m 242 ls []) := by
              intro  H locs ls hrun hP hD hK hS hl 
              unfold fX5_joinOperator_J242 at hrun
              refine lv_aload_n hx hb dX5_joinOperator_242 rfl (lv_at hl 0 rfl) ?_
              refine va_get (D := (dC, dI)) (ci := 7) (v := .ref (p0a 7)) (C := RX5) (T := TX5) (N := 12) hx hb hts i_X5 hown hK hP 0 rfl rfl 6 (by decide) (hts _ qw443) (fun _ h9 => h9) rfl dX5_joinOperator_243 ?_
              refine lv_iload hx hb dX5_joinOperator_246 (lv_at hl 3 rfl) ?_
              refine lv_iconst (v := 1) hx hb dX5_joinOperator_248 (by decide) ?_
              obtain ⟨hq33, hrun⟩ := chk9 hrun
              refine va_iast hx hb hK hP hD hS 6 5 rfl rfl (ixb_in hq33) dX5_joinOperator_249 (fun H locs hP hD hS => ?_)
              have hP : va_P (dC, dI) cls (List.flatten ([(oX5 (p0a 0) p0a p0k (upw p0w 7 (nn (p1_2w 3 (nn p2))) 1) p0l), (oX1 (p1a 0) p1a p1k p1n p1w p1l), (oX9 (p1a 3) p1_2a p1_2k p1_2n w12)] : List va_W)) H := hP
              have hD : va_D A (List.flatten ([(oX5 (p0a 0) p0a p0k (upw p0w 7 (nn (p1_2w 3 (nn p2))) 1) p0l), (oX1 (p1a 0) p1a p1k p1n p1w p1l), (oX9 (p1a 3) p1_2a p1_2k p1_2n w12)] : List va_W)) := hD
              obtain ⟨w34, ew34, hrun⟩ := let9 hrun
              rw [← ew34] at hP hD
              refine lv_aload_n hx hb dX5_joinOperator_250 rfl (lv_at hl 2 rfl) ?_
              refine lv_iload_n hx hb dX5_joinOperator_251 rfl (lv_at hl 1 rfl) ?_
              refine lv_iconst (v := 1) hx hb dX5_joinOperator_252 (by decide) ?_
              obtain ⟨o_35, hc_35, hrun⟩ := bnd9 hrun
              have hPx : va_P (dC, dI) cls ((List.flatten ([(oX9 (p1a 3) p1_2a p1_2k p1_2n w12)] : List va_W)) ++ (List.flatten ([(oX5 (p0a 0) p0a p0k w34 p0l), (oX1 (p1a 0) p1a p1k p1n p1w p1l)] : List va_W))) H := vP_fa (vP_perm hP (bP (((((((List.Perm.refl _)).cons _).trans (List.Perm.swap _ _ _))).cons _).trans (List.Perm.swap _ _ _))))
              have hDx : va_D A ((List.flatten ([(oX9 (p1a 3) p1_2a p1_2k p1_2n w12)] : List va_W)) ++ (List.flatten ([(oX5 (p0a 0) p0a p0k w34 p0l), (oX1 (p1a 0) p1a p1k p1n p1w p1l)] : List va_W))) := vD_fa (vD_perm hD (bP (((((((List.Perm.refl _)).cons _).trans (List.Perm.swap _ _ _))).cons _).trans (List.Perm.swap _ _ _))))
              have hKx : va_K (dC, dI) cls ((List.flatten ([(tX9 p1_2k)] : List (List (ClassId × FieldType)))) ++ (List.flatten ([(tX5 p0k), (tX1 p1k)] : List (List (ClassId × FieldType))))) s := vK_fa (vK_perm hK (bP (((((((List.Perm.refl _)).cons _).trans (List.Perm.swap _ _ _))).cons _).trans (List.Perm.swap _ _ _))))
              have hPc := vP_l hPx
              have hDc := vD_l hDx
              have hKc := vK_l hKx
              have hFc := vfree hDx hS hA
              refine va_callv (va_runS (As := [.ref (p1a 3), .int p2, .int 1]) (rest := []) ⟨hx, hb, hml, hown, hts⟩ (kX5_becomeNumber l dC dI (p0a := (st0 (p1a 3) p1_2a)) (p0k := p1_2k) (p0n := p1_2n) (p0w := w12) (p1 := p2) (p2 := 1) (sz := _) (o := o_35) (hrun := hc_35)) (va_cwS 3 hts (gi_S qw496 qw497 qw442 (gi_z qw495)) rfl rfl rfl (by decide +kernel) ⟨Nat.le_of_ble_eq_true rfl, Nat.le_of_ble_eq_true rfl⟩) ⟨PRE.blind, PRE.of hE hS hFc hPc hKc hDc⟩ rfl rfl hl.1 rfl (lv_room (Nat.le_of_ble_eq_true rfl)) dX5_joinOperator_253 ⟨(Nat.le_of_ble_eq_true rfl), (Nat.le_of_ble_eq_true rfl)⟩) hS (fun q _ h => hFc q h) hFc (fun u t H locs ht hvm hw hB hz1 hk1 hS => ?_)
              obtain ⟨b1, b2, b3⟩ := hB
              rw [ht] at b1
              obtain ⟨hP, hD, hK⟩ := JOINC (wc := (List.flatten ([(oX9 (p1a 3) p1_2a p1_2k p1_2n w12)] : List va_W))) (wr := (List.flatten ([(oX5 (p0a 0) p0a p0k w34 p0l), (oX1 (p1a 0) p1a p1k p1n p1w p1l)] : List va_W))) (w1 := (List.flatten ([(oX9 (p1a 3) p1_2a p1_2k p1_2n o_35)] : List va_W))) (t1 := (List.flatten ([(tX9 p1_2k)] : List (List (ClassId × FieldType))))) hPx hDx hKx hk1 hFc b1 (va_K.moved hvm.symm b2) b3
              have hP : va_P (dC, dI) cls (List.flatten ([(oX5 (p0a 0) p0a p0k w34 p0l), (oX1 (p1a 0) p1a p1k p1n p1w p1l), (oX9 (p1a 3) p1_2a p1_2k p1_2n o_35)] : List va_W)) H := vP_perm (vP_fb hP) (bP ((((((List.Perm.refl _)).cons _).trans (List.Perm.swap _ _ _))).trans ((((((List.Perm.refl _)).cons _).trans (List.Perm.swap _ _ _))).cons _)))
              have hD : va_D A (List.flatten ([(oX5 (p0a 0) p0a p0k w34 p0l), (oX1 (p1a 0) p1a p1k p1n p1w p1l), (oX9 (p1a 3) p1_2a p1_2k p1_2n o_35)] : List va_W)) := vD_perm (vD_fb hD) (bP ((((((List.Perm.refl _)).cons _).trans (List.Perm.swap _ _ _))).trans ((((((List.Perm.refl _)).cons _).trans (List.Perm.swap _ _ _))).cons _)))
              have hK : va_K (dC, dI) cls (List.flatten ([(tX5 p0k), (tX1 p1k), (tX9 p1_2k)] : List (List (ClassId × FieldType)))) s := vK_perm (vK_fb hK) (bP ((((((List.Perm.refl _)).cons _).trans (List.Perm.swap _ _ _))).trans ((((((List.Perm.refl _)).cons _).trans (List.Perm.swap _ _ _))).cons _)))
              refine lv_goto (tgt := 290) hx hb dX5_joinOperator_256 (by decide) ?_
              exact J290 w34 o_35 _ _ _ hrun hP hD hK hS (lv_sub hl [] rfl)
            rcases br9 hrun with ⟨hc36, hrun⟩ | ⟨hc36, hrun⟩
            · refine lv_icmp_eq (tgt := 242) hx hb dX5_joinOperator_225 (by decide) (fun _ => ?_) (fun c => absurd hc36 c)
              exact J242 _ _ _ hrun hP hD hK hS (lv_sub hl [0, 2, 3, 5] rfl)
            · refine lv_icmp_eq (tgt := 242) hx hb dX5_joinOperator_225 (by decide) (fun c => absurd c hc36) (fun _ => ?_)
              refine lv_iload hx hb dX5_joinOperator_228 (lv_at hl 4 rfl) ?_
              refine lv_bipush (v := 12) hx hb dX5_joinOperator_230 (by decide) ?_
              rcases br9 hrun with ⟨hc37, hrun⟩ | ⟨hc37, hrun⟩
              · refine lv_icmp_eq (tgt := 242) hx hb dX5_joinOperator_232 (by decide) (fun _ => ?_) (fun c => absurd hc37 c)
                exact J242 _ _ _ hrun hP hD hK hS (lv_sub hl [0, 2, 3, 5] rfl)
              · refine lv_icmp_eq (tgt := 242) hx hb dX5_joinOperator_232 (by decide) (fun c => absurd c hc37) (fun _ => ?_)
                refine lv_iload hx hb dX5_joinOperator_235 (lv_at hl 4 rfl) ?_
                refine lv_bipush (v := 14) hx hb dX5_joinOperator_237 (by decide) ?_
                rcases br9 hrun with ⟨hc38, hrun⟩ | ⟨hc38, hrun⟩
                · refine lv_icmp_ne (tgt := 259) hx hb dX5_joinOperator_239 (by decide) (fun c => absurd hc38 c) (fun _ => ?_)
                  exact J242 _ _ _ hrun hP hD hK hS (lv_sub hl [0, 2, 3, 5] rfl)
                · refine lv_icmp_ne (tgt := 259) hx hb dX5_joinOperator_239 (by decide) (fun _ => ?_) (fun c => absurd c hc38)
                  exact J259 _ _ _ hrun hP hD hK hS (lv_sub hl [2, 3, 4, 6, 7] rfl)
          · refine lv_icmp_ne (tgt := 259) hx hb dX5_joinOperator_218 (by decide) (fun _ => ?_) (fun c => absurd c hc32)
            exact J259 _ _ _ hrun hP hD hK hS (lv_sub hl [2, 3, 4, 6, 7] rfl)
        · refine lv_if_eq (tgt := 214) hx hb dX5_joinOperator_194 (by decide) (fun c => absurd c hc23) (fun _ => ?_)
          refine lv_aload_n hx hb dX5_joinOperator_197 rfl (lv_at hl 0 rfl) ?_
          refine va_get (D := (dC, dI)) (ci := 7) (v := .ref (p0a 7)) (C := RX5) (T := TX5) (N := 12) hx hb hts i_X5 hown hK hP 0 rfl rfl 6 (by decide) (hts _ qw443) (fun _ h9 => h9) rfl dX5_joinOperator_198 ?_
          refine lv_iload hx hb dX5_joinOperator_201 (lv_at hl 5 rfl) ?_
          refine lv_iconst (v := 1) hx hb dX5_joinOperator_203 (by decide) ?_
          obtain ⟨hq39, hrun⟩ := chk9 hrun
          refine va_iast hx hb hK hP hD hS 6 5 rfl rfl (ixb_in hq39) dX5_joinOperator_204 (fun H locs hP hD hS => ?_)
          have hP : va_P (dC, dI) cls (List.flatten ([(oX5 (p0a 0) p0a p0k (upw p0w 7 (nn (p1_2w 3 (nn p2))) 1) p0l), (oX1 (p1a 0) p1a p1k p1n p1w p1l), (oX9 (p1a 3) p1_2a p1_2k p1_2n w12)] : List va_W)) H := hP
          have hD : va_D A (List.flatten ([(oX5 (p0a 0) p0a p0k (upw p0w 7 (nn (p1_2w 3 (nn p2))) 1) p0l), (oX1 (p1a 0) p1a p1k p1n p1w p1l), (oX9 (p1a 3) p1_2a p1_2k p1_2n w12)] : List va_W)) := hD
          obtain ⟨w40, ew40, hrun⟩ := let9 hrun
          rw [← ew40] at hP hD
          refine lv_aload_n hx hb dX5_joinOperator_205 rfl (lv_at hl 3 rfl) ?_
          refine lv_iload_n hx hb dX5_joinOperator_206 rfl (lv_at hl 2 rfl) ?_
          refine lv_iconst (v := 0) hx hb dX5_joinOperator_207 (by decide) ?_
          obtain ⟨o_41, hc_41, hrun⟩ := bnd9 hrun
          have hPx : va_P (dC, dI) cls ((List.flatten ([(oX9 (p1a 3) p1_2a p1_2k p1_2n w12)] : List va_W)) ++ (List.flatten ([(oX5 (p0a 0) p0a p0k w40 p0l), (oX1 (p1a 0) p1a p1k p1n p1w p1l)] : List va_W))) H := vP_fa (vP_perm hP (bP (((((((List.Perm.refl _)).cons _).trans (List.Perm.swap _ _ _))).cons _).trans (List.Perm.swap _ _ _))))
          have hDx : va_D A ((List.flatten ([(oX9 (p1a 3) p1_2a p1_2k p1_2n w12)] : List va_W)) ++ (List.flatten ([(oX5 (p0a 0) p0a p0k w40 p0l), (oX1 (p1a 0) p1a p1k p1n p1w p1l)] : List va_W))) := vD_fa (vD_perm hD (bP (((((((List.Perm.refl _)).cons _).trans (List.Perm.swap _ _ _))).cons _).trans (List.Perm.swap _ _ _))))
          have hKx : va_K (dC, dI) cls ((List.flatten ([(tX9 p1_2k)] : List (List (ClassId × FieldType)))) ++ (List.flatten ([(tX5 p0k), (tX1 p1k)] : List (List (ClassId × FieldType))))) s := vK_fa (vK_perm hK (bP (((((((List.Perm.refl _)).cons _).trans (List.Perm.swap _ _ _))).cons _).trans (List.Perm.swap _ _ _))))
          have hPc := vP_l hPx
          have hDc := vD_l hDx
          have hKc := vK_l hKx
          have hFc := vfree hDx hS hA
          refine va_callv (va_runS (As := [.ref (p1a 3), .int p2, .int 0]) (rest := []) ⟨hx, hb, hml, hown, hts⟩ (kX5_becomeNumber l dC dI (p0a := (st0 (p1a 3) p1_2a)) (p0k := p1_2k) (p0n := p1_2n) (p0w := w12) (p1 := p2) (p2 := 0) (sz := _) (o := o_41) (hrun := hc_41)) (va_cwS 3 hts (gi_S qw496 qw497 qw442 (gi_z qw495)) rfl rfl rfl (by decide +kernel) ⟨Nat.le_of_ble_eq_true rfl, Nat.le_of_ble_eq_true rfl⟩) ⟨PRE.blind, PRE.of hE hS hFc hPc hKc hDc⟩ rfl rfl hl.1 rfl (lv_room (Nat.le_of_ble_eq_true rfl)) dX5_joinOperator_208 ⟨(Nat.le_of_ble_eq_true rfl), (Nat.le_of_ble_eq_true rfl)⟩) hS (fun q _ h => hFc q h) hFc (fun u t H locs ht hvm hw hB hz1 hk1 hS => ?_)
          obtain ⟨b1, b2, b3⟩ := hB
          rw [ht] at b1
          obtain ⟨hP, hD, hK⟩ := JOINC (wc := (List.flatten ([(oX9 (p1a 3) p1_2a p1_2k p1_2n w12)] : List va_W))) (wr := (List.flatten ([(oX5 (p0a 0) p0a p0k w40 p0l), (oX1 (p1a 0) p1a p1k p1n p1w p1l)] : List va_W))) (w1 := (List.flatten ([(oX9 (p1a 3) p1_2a p1_2k p1_2n o_41)] : List va_W))) (t1 := (List.flatten ([(tX9 p1_2k)] : List (List (ClassId × FieldType))))) hPx hDx hKx hk1 hFc b1 (va_K.moved hvm.symm b2) b3
          have hP : va_P (dC, dI) cls (List.flatten ([(oX5 (p0a 0) p0a p0k w40 p0l), (oX1 (p1a 0) p1a p1k p1n p1w p1l), (oX9 (p1a 3) p1_2a p1_2k p1_2n o_41)] : List va_W)) H := vP_perm (vP_fb hP) (bP ((((((List.Perm.refl _)).cons _).trans (List.Perm.swap _ _ _))).trans ((((((List.Perm.refl _)).cons _).trans (List.Perm.swap _ _ _))).cons _)))
          have hD : va_D A (List.flatten ([(oX5 (p0a 0) p0a p0k w40 p0l), (oX1 (p1a 0) p1a p1k p1n p1w p1l), (oX9 (p1a 3) p1_2a p1_2k p1_2n o_41)] : List va_W)) := vD_perm (vD_fb hD) (bP ((((((List.Perm.refl _)).cons _).trans (List.Perm.swap _ _ _))).trans ((((((List.Perm.refl _)).cons _).trans (List.Perm.swap _ _ _))).cons _)))
          have hK : va_K (dC, dI) cls (List.flatten ([(tX5 p0k), (tX1 p1k), (tX9 p1_2k)] : List (List (ClassId × FieldType)))) s := vK_perm (vK_fb hK) (bP ((((((List.Perm.refl _)).cons _).trans (List.Perm.swap _ _ _))).trans ((((((List.Perm.refl _)).cons _).trans (List.Perm.swap _ _ _))).cons _)))
          refine lv_goto (tgt := 290) hx hb dX5_joinOperator_211 (by decide) ?_
          exact J290 w40 o_41 _ _ _ hrun hP hD hK hS (lv_sub hl [] rfl)
      · refine lv_if_eq (tgt := 183) hx hb dX5_joinOperator_168 (by decide) (fun c => absurd c hc20) (fun _ => ?_)
        refine lv_aload_n hx hb dX5_joinOperator_171 rfl (lv_at hl 0 rfl) ?_
        refine va_get (D := (dC, dI)) (ci := 7) (v := .ref (p0a 6)) (C := RX5) (T := TX5) (N := 12) hx hb hts i_X5 hown hK hP 0 rfl rfl 5 (by decide) (hts _ qw539) (fun _ h9 => h9) rfl dX5_joinOperator_172 ?_
        refine lv_iload hx hb dX5_joinOperator_175 (lv_at hl 5 rfl) ?_
        refine lv_iload hx hb dX5_joinOperator_177 (lv_at hl 7 rfl) ?_
        obtain ⟨hq42, hrun⟩ := chk9 hrun
        refine va_iast hx hb hK hP hD hS 5 4 rfl rfl (ixb_in hq42) dX5_joinOperator_179 (fun H locs hP hD hS => ?_)
        have hP : va_P (dC, dI) cls (List.flatten ([(oX5 (p0a 0) p0a p0k (upw p0w 6 (nn (p1_2w 3 (nn p2))) o_7) p0l), (oX1 (p1a 0) p1a p1k p1n p1w p1l), (oX9 (p1a 3) p1_2a p1_2k p1_2n w12)] : List va_W)) H := hP
        have hD : va_D A (List.flatten ([(oX5 (p0a 0) p0a p0k (upw p0w 6 (nn (p1_2w 3 (nn p2))) o_7) p0l), (oX1 (p1a 0) p1a p1k p1n p1w p1l), (oX9 (p1a 3) p1_2a p1_2k p1_2n w12)] : List va_W)) := hD
        obtain ⟨w43, ew43, hrun⟩ := let9 hrun
        rw [← ew43] at hP hD
        refine lv_goto (tgt := 290) hx hb dX5_joinOperator_180 (by decide) ?_
        exact J290 w43 w12 _ _ _ hrun hP hD hK hS (lv_sub hl [] rfl)
    · refine lv_if_eq (tgt := 157) hx hb dX5_joinOperator_142 (by decide) (fun c => absurd c hc17) (fun _ => ?_)
      refine lv_aload_n hx hb dX5_joinOperator_145 rfl (lv_at hl 0 rfl) ?_
      refine va_get (D := (dC, dI)) (ci := 7) (v := .ref (p0a 6)) (C := RX5) (T := TX5) (N := 12) hx hb hts i_X5 hown hK hP 0 rfl rfl 5 (by decide) (hts _ qw539) (fun _ h9 => h9) rfl dX5_joinOperator_146 ?_
      refine lv_iload hx hb dX5_joinOperator_149 (lv_at hl 5 rfl) ?_
      refine lv_iload hx hb dX5_joinOperator_151 (lv_at hl 6 rfl) ?_
      obtain ⟨hq44, hrun⟩ := chk9 hrun
      refine va_iast hx hb hK hP hD hS 5 4 rfl rfl (ixb_in hq44) dX5_joinOperator_153 (fun H locs hP hD hS => ?_)
      have hP : va_P (dC, dI) cls (List.flatten ([(oX5 (p0a 0) p0a p0k (upw p0w 6 (nn (p1_2w 3 (nn p2))) o_4) p0l), (oX1 (p1a 0) p1a p1k p1n p1w p1l), (oX9 (p1a 3) p1_2a p1_2k p1_2n w12)] : List va_W)) H := hP
      have hD : va_D A (List.flatten ([(oX5 (p0a 0) p0a p0k (upw p0w 6 (nn (p1_2w 3 (nn p2))) o_4) p0l), (oX1 (p1a 0) p1a p1k p1n p1w p1l), (oX9 (p1a 3) p1_2a p1_2k p1_2n w12)] : List va_W)) := hD
      obtain ⟨w45, ew45, hrun⟩ := let9 hrun
      rw [← ew45] at hP hD
      refine lv_goto (tgt := 290) hx hb dX5_joinOperator_154 (by decide) ?_
      exact J290 w45 w12 _ _ _ hrun hP hD hK hS (lv_sub hl [] rfl)
  rcases br9 hrun with ⟨hc46, hrun⟩ | ⟨hc46, hrun⟩
  · refine lv_if_eq (tgt := 131) hx hb dX5_joinOperator_68 (by decide) (fun _ => ?_) (fun c => absurd hc46 c)
    exact J131 _ _ _ hrun hP hD hK hS (lv_sub hl [5, 6, 7, 4, 3, 2, 1, 0] rfl)
  · refine lv_if_eq (tgt := 131) hx hb dX5_joinOperator_68 (by decide) (fun c => absurd c hc46) (fun _ => ?_)
    refine lv_aload_n hx hb dX5_joinOperator_71 rfl (lv_at hl 5 rfl) ?_
    refine lv_aload_n hx hb dX5_joinOperator_72 rfl (lv_at hl 6 rfl) ?_
    refine lv_iload hx hb dX5_joinOperator_73 (lv_at hl 0 rfl) ?_
    obtain ⟨o_47, hc_47, hrun⟩ := bnd9 hrun
    have hPx : va_P (dC, dI) cls ((List.flatten ([(oX5 (p0a 0) p0a p0k p0w p0l), (oX1 (p1a 0) p1a p1k p1n p1w p1l), (oX9 (p1a 3) p1_2a p1_2k p1_2n w12)] : List va_W)) ++ (List.flatten ([] : List va_W))) H := vP_fa (vP_perm hP (bP (List.Perm.refl _)))
    have hDx : va_D A ((List.flatten ([(oX5 (p0a 0) p0a p0k p0w p0l), (oX1 (p1a 0) p1a p1k p1n p1w p1l), (oX9 (p1a 3) p1_2a p1_2k p1_2n w12)] : List va_W)) ++ (List.flatten ([] : List va_W))) := vD_fa (vD_perm hD (bP (List.Perm.refl _)))
    have hKx : va_K (dC, dI) cls ((List.flatten ([(tX5 p0k), (tX1 p1k), (tX9 p1_2k)] : List (List (ClassId × FieldType)))) ++ (List.flatten ([] : List (List (ClassId × FieldType))))) s := vK_fa (vK_perm hK (bP (List.Perm.refl _)))
    have hPc := vP_l hPx
    have hDc := vD_l hDx
    have hKc := vK_l hKx
    have hFc := vfree hDx hS hA
    refine va_calli (va_runV (As := [.ref (p1a 0), .int o_7]) (rest := []) ⟨hx, hb, hml, hown, hts⟩ (kX5_isNumber l dC dI (p0a := p0a) (p0k := p0k) (p0w := p0w) (p0l := p0l) (p1a := p1a) (p1k := p1k) (p1n := p1n) (p1w := p1w) (p1l := p1l) (p2 := o_7) (p1_2a := p1_2a) (p1_2k := p1_2k) (p1_2n := p1_2n) (p1_2w := w12) (sz := _) (o := o_47) (hrun := hc_47)) (cwV 2 hts (gi_V qw457 qw458 qw459 qw442 (gi_z qw456)) rfl rfl rfl (by decide +kernel) ⟨Nat.le_of_ble_eq_true rfl, Nat.le_of_ble_eq_true rfl⟩) ⟨PRE.blind, va_recv hKc hPc (ci := 7) (q0 := 0) rfl rfl, PRE.of hE hS hFc hPc hKc hDc⟩ rfl rfl hl.1 rfl (lv_room (Nat.le_of_ble_eq_true rfl)) dX5_joinOperator_75 ⟨(Nat.le_of_ble_eq_true rfl), (Nat.le_of_ble_eq_true rfl)⟩) hS (fun q _ h => hFc q h) hFc (fun r48 u t H locs ht hvm hw hB hz1 hk1 hS => ?_)
    obtain ⟨b1, b2, b3⟩ := hB
    rw [ht] at b1
    obtain ⟨hP, hD, hK⟩ := JOINC (wc := (List.flatten ([(oX5 (p0a 0) p0a p0k p0w p0l), (oX1 (p1a 0) p1a p1k p1n p1w p1l), (oX9 (p1a 3) p1_2a p1_2k p1_2n w12)] : List va_W))) (wr := (List.flatten ([] : List va_W))) (w1 := (List.flatten ([(oX5 (p0a 0) p0a p0k p0w p0l), (oX1 (p1a 0) p1a p1k p1n p1w p1l), (oX9 (p1a 3) p1_2a p1_2k p1_2n w12)] : List va_W))) (t1 := (List.flatten ([(tX5 p0k), (tX1 p1k), (tX9 p1_2k)] : List (List (ClassId × FieldType))))) hPx hDx hKx hk1 hFc b1 (va_K.moved hvm.symm b2) b3
    have hP : va_P (dC, dI) cls (List.flatten ([(oX5 (p0a 0) p0a p0k p0w p0l), (oX1 (p1a 0) p1a p1k p1n p1w p1l), (oX9 (p1a 3) p1_2a p1_2k p1_2n w12)] : List va_W)) H := vP_perm (vP_fb hP) (bP (List.Perm.refl _))
    have hD : va_D A (List.flatten ([(oX5 (p0a 0) p0a p0k p0w p0l), (oX1 (p1a 0) p1a p1k p1n p1w p1l), (oX9 (p1a 3) p1_2a p1_2k p1_2n w12)] : List va_W)) := vD_perm (vD_fb hD) (bP (List.Perm.refl _))
    have hK : va_K (dC, dI) cls (List.flatten ([(tX5 p0k), (tX1 p1k), (tX9 p1_2k)] : List (List (ClassId × FieldType)))) s := vK_perm (vK_fb hK) (bP (List.Perm.refl _))
    obtain rfl : o_47 = r48 := hw.symm
    rcases br9 hrun with ⟨hc49, hrun⟩ | ⟨hc49, hrun⟩
    · refine lv_if_eq (tgt := 131) hx hb dX5_joinOperator_78 (by decide) (fun _ => ?_) (fun c => absurd hc49 c)
      exact J131 _ _ _ hrun hP hD hK hS (lv_sub hl [5, 6, 7, 4, 3, 2, 1, 0] rfl)
    · refine lv_if_eq (tgt := 131) hx hb dX5_joinOperator_78 (by decide) (fun c => absurd c hc49) (fun _ => ?_)
      refine lv_iload hx hb dX5_joinOperator_81 (lv_at hl 3 rfl) ?_
      refine lv_aload_n hx hb dX5_joinOperator_83 rfl (lv_at hl 5 rfl) ?_
      refine lv_aload_n hx hb dX5_joinOperator_84 rfl (lv_at hl 6 rfl) ?_
      refine lv_iload hx hb dX5_joinOperator_85 (lv_at hl 0 rfl) ?_
      obtain ⟨o_50, hc_50, hrun⟩ := bnd9 hrun
      have hPx : va_P (dC, dI) cls ((List.flatten ([(oX5 (p0a 0) p0a p0k p0w p0l), (oX1 (p1a 0) p1a p1k p1n p1w p1l), (oX9 (p1a 3) p1_2a p1_2k p1_2n w12)] : List va_W)) ++ (List.flatten ([] : List va_W))) H := vP_fa (vP_perm hP (bP (List.Perm.refl _)))
      have hDx : va_D A ((List.flatten ([(oX5 (p0a 0) p0a p0k p0w p0l), (oX1 (p1a 0) p1a p1k p1n p1w p1l), (oX9 (p1a 3) p1_2a p1_2k p1_2n w12)] : List va_W)) ++ (List.flatten ([] : List va_W))) := vD_fa (vD_perm hD (bP (List.Perm.refl _)))
      have hKx : va_K (dC, dI) cls ((List.flatten ([(tX5 p0k), (tX1 p1k), (tX9 p1_2k)] : List (List (ClassId × FieldType)))) ++ (List.flatten ([] : List (List (ClassId × FieldType))))) s := vK_fa (vK_perm hK (bP (List.Perm.refl _)))
      have hPc := vP_l hPx
      have hDc := vD_l hDx
      have hKc := vK_l hKx
      have hFc := vfree hDx hS hA
      refine va_calli (va_runV (As := [.ref (p1a 0), .int o_7]) (rest := [.int (p1_2w 2 (nn p2))]) ⟨hx, hb, hml, hown, hts⟩ (kX5_numberOf l dC dI (p0a := p0a) (p0k := p0k) (p0w := p0w) (p0l := p0l) (p1a := p1a) (p1k := p1k) (p1n := p1n) (p1w := p1w) (p1l := p1l) (p2 := o_7) (p1_2a := p1_2a) (p1_2k := p1_2k) (p1_2n := p1_2n) (p1_2w := w12) (sz := _) (o := o_50) (hrun := hc_50)) (cwV 2 hts (gi_V qw461 qw462 qw463 qw442 (gi_z qw460)) rfl rfl rfl (by decide +kernel) ⟨Nat.le_of_ble_eq_true rfl, Nat.le_of_ble_eq_true rfl⟩) ⟨PRE.blind, va_recv hKc hPc (ci := 7) (q0 := 0) rfl rfl, PRE.of hE hS hFc hPc hKc hDc⟩ rfl rfl hl.1 rfl (lv_room (Nat.le_of_ble_eq_true rfl)) dX5_joinOperator_87 ⟨(Nat.le_of_ble_eq_true rfl), (Nat.le_of_ble_eq_true rfl)⟩) hS (fun q _ h => hFc q h) hFc (fun r51 u t H locs ht hvm hw hB hz1 hk1 hS => ?_)
      obtain ⟨b1, b2, b3⟩ := hB
      rw [ht] at b1
      obtain ⟨hP, hD, hK⟩ := JOINC (wc := (List.flatten ([(oX5 (p0a 0) p0a p0k p0w p0l), (oX1 (p1a 0) p1a p1k p1n p1w p1l), (oX9 (p1a 3) p1_2a p1_2k p1_2n w12)] : List va_W))) (wr := (List.flatten ([] : List va_W))) (w1 := (List.flatten ([(oX5 (p0a 0) p0a p0k p0w p0l), (oX1 (p1a 0) p1a p1k p1n p1w p1l), (oX9 (p1a 3) p1_2a p1_2k p1_2n w12)] : List va_W))) (t1 := (List.flatten ([(tX5 p0k), (tX1 p1k), (tX9 p1_2k)] : List (List (ClassId × FieldType))))) hPx hDx hKx hk1 hFc b1 (va_K.moved hvm.symm b2) b3
      have hP : va_P (dC, dI) cls (List.flatten ([(oX5 (p0a 0) p0a p0k p0w p0l), (oX1 (p1a 0) p1a p1k p1n p1w p1l), (oX9 (p1a 3) p1_2a p1_2k p1_2n w12)] : List va_W)) H := vP_perm (vP_fb hP) (bP (List.Perm.refl _))
      have hD : va_D A (List.flatten ([(oX5 (p0a 0) p0a p0k p0w p0l), (oX1 (p1a 0) p1a p1k p1n p1w p1l), (oX9 (p1a 3) p1_2a p1_2k p1_2n w12)] : List va_W)) := vD_perm (vD_fb hD) (bP (List.Perm.refl _))
      have hK : va_K (dC, dI) cls (List.flatten ([(tX5 p0k), (tX1 p1k), (tX9 p1_2k)] : List (List (ClassId × FieldType)))) s := vK_perm (vK_fb hK) (bP (List.Perm.refl _))
      obtain rfl : o_50 = r51 := hw.symm
      obtain ⟨o_52, hc_52, hrun⟩ := bnd9 hrun
      have hPx : va_P (dC, dI) cls ((List.flatten ([] : List va_W)) ++ (List.flatten ([(oX5 (p0a 0) p0a p0k p0w p0l), (oX1 (p1a 0) p1a p1k p1n p1w p1l), (oX9 (p1a 3) p1_2a p1_2k p1_2n w12)] : List va_W))) H := vP_fa (vP_perm hP (bP (List.Perm.refl _)))
      have hDx : va_D A ((List.flatten ([] : List va_W)) ++ (List.flatten ([(oX5 (p0a 0) p0a p0k p0w p0l), (oX1 (p1a 0) p1a p1k p1n p1w p1l), (oX9 (p1a 3) p1_2a p1_2k p1_2n w12)] : List va_W))) := vD_fa (vD_perm hD (bP (List.Perm.refl _)))
      have hKx : va_K (dC, dI) cls ((List.flatten ([] : List (List (ClassId × FieldType)))) ++ (List.flatten ([(tX5 p0k), (tX1 p1k), (tX9 p1_2k)] : List (List (ClassId × FieldType))))) s := vK_fa (vK_perm hK (bP (List.Perm.refl _)))
      have hPc := vP_l hPx
      have hDc := vD_l hDx
      have hKc := vK_l hKx
      have hFc := vfree hDx hS hA
      refine va_calli (va_runSN (As := [.int (p1_2w 2 (nn p2)), .int o_50]) (rest := []) ⟨hx, hb, hml, hown, hts⟩ (kX11_isFailing l dC dI (p0 := (p1_2w 2 (nn p2))) (p1 := o_50) (sz := _) (o := o_52) (hrun := hc_52)) ⟨(va_cnB 2 hts (gi_z qw517) rfl rfl rfl (hE.nw (List.mem_append_right _ (tbl_7 (i := 174) rfl)) rfl) (hts _ qw129) (by decide +kernel) ⟨Nat.le_of_ble_eq_true rfl, Nat.le_of_ble_eq_true rfl⟩), (hts _ qw518), trivial⟩ ⟨PRE.blind, PRE.of hE hS hFc hPc hKc hDc⟩ rfl rfl hl.1 rfl (lv_room (Nat.le_of_ble_eq_true rfl)) dX5_joinOperator_90 ⟨(Nat.le_of_ble_eq_true rfl), (Nat.le_of_ble_eq_true rfl)⟩) hS (fun q _ h => hFc q h) hFc (fun r53 u t H locs ht hvm hw hB hz1 hk1 hS => ?_)
      obtain ⟨b1, b2, b3⟩ := hB
      rw [ht] at b1
      obtain ⟨hP, hD, hK⟩ := JOINC (wc := (List.flatten ([] : List va_W))) (wr := (List.flatten ([(oX5 (p0a 0) p0a p0k p0w p0l), (oX1 (p1a 0) p1a p1k p1n p1w p1l), (oX9 (p1a 3) p1_2a p1_2k p1_2n w12)] : List va_W))) (w1 := (List.flatten ([] : List va_W))) (t1 := (List.flatten ([] : List (List (ClassId × FieldType))))) hPx hDx hKx hk1 hFc b1 (va_K.moved hvm.symm b2) b3
      have hP : va_P (dC, dI) cls (List.flatten ([(oX5 (p0a 0) p0a p0k p0w p0l), (oX1 (p1a 0) p1a p1k p1n p1w p1l), (oX9 (p1a 3) p1_2a p1_2k p1_2n w12)] : List va_W)) H := vP_perm (vP_fb hP) (bP (List.Perm.refl _))
      have hD : va_D A (List.flatten ([(oX5 (p0a 0) p0a p0k p0w p0l), (oX1 (p1a 0) p1a p1k p1n p1w p1l), (oX9 (p1a 3) p1_2a p1_2k p1_2n w12)] : List va_W)) := vD_perm (vD_fb hD) (bP (List.Perm.refl _))
      have hK : va_K (dC, dI) cls (List.flatten ([(tX5 p0k), (tX1 p1k), (tX9 p1_2k)] : List (List (ClassId × FieldType)))) s := vK_perm (vK_fb hK) (bP (List.Perm.refl _))
      obtain rfl : o_52 = r53 := hw.symm
      rcases br9 hrun with ⟨hc54, hrun⟩ | ⟨hc54, hrun⟩
      · refine lv_if_ne (tgt := 131) hx hb dX5_joinOperator_93 (by decide) (fun c => absurd hc54 c) (fun _ => ?_)
        refine lv_aload_n hx hb dX5_joinOperator_96 rfl (lv_at hl 5 rfl) ?_
        refine va_get (D := (dC, dI)) (ci := 7) (v := .ref (p0a 7)) (C := RX5) (T := TX5) (N := 12) hx hb hts i_X5 hown hK hP 0 rfl rfl 6 (by decide) (hts _ qw443) (fun _ h9 => h9) rfl dX5_joinOperator_97 ?_
        refine lv_iload hx hb dX5_joinOperator_100 (lv_at hl 2 rfl) ?_
        refine lv_iconst (v := 1) hx hb dX5_joinOperator_102 (by decide) ?_
        obtain ⟨hq55, hrun⟩ := chk9 hrun
        refine va_iast hx hb hK hP hD hS 6 5 rfl rfl (ixb_in hq55) dX5_joinOperator_103 (fun H locs hP hD hS => ?_)
        have hP : va_P (dC, dI) cls (List.flatten ([(oX5 (p0a 0) p0a p0k (upw p0w 7 (nn (p1_2w 3 (nn p2))) 1) p0l), (oX1 (p1a 0) p1a p1k p1n p1w p1l), (oX9 (p1a 3) p1_2a p1_2k p1_2n w12)] : List va_W)) H := hP
        have hD : va_D A (List.flatten ([(oX5 (p0a 0) p0a p0k (upw p0w 7 (nn (p1_2w 3 (nn p2))) 1) p0l), (oX1 (p1a 0) p1a p1k p1n p1w p1l), (oX9 (p1a 3) p1_2a p1_2k p1_2n w12)] : List va_W)) := hD
        obtain ⟨w56, ew56, hrun⟩ := let9 hrun
        rw [← ew56] at hP hD
        refine lv_aload_n hx hb dX5_joinOperator_104 rfl (lv_at hl 4 rfl) ?_
        refine lv_iload_n hx hb dX5_joinOperator_105 rfl (lv_at hl 7 rfl) ?_
        refine lv_iload hx hb dX5_joinOperator_106 (lv_at hl 3 rfl) ?_
        refine lv_aload_n hx hb dX5_joinOperator_108 rfl (lv_at hl 5 rfl) ?_
        refine lv_aload_n hx hb dX5_joinOperator_109 rfl (lv_at hl 6 rfl) ?_
        refine lv_iload hx hb dX5_joinOperator_110 (lv_at hl 1 rfl) ?_
        obtain ⟨o_57, hc_57, hrun⟩ := bnd9 hrun
        have hPx : va_P (dC, dI) cls ((List.flatten ([(oX5 (p0a 0) p0a p0k w56 p0l), (oX1 (p1a 0) p1a p1k p1n p1w p1l), (oX9 (p1a 3) p1_2a p1_2k p1_2n w12)] : List va_W)) ++ (List.flatten ([] : List va_W))) H := vP_fa (vP_perm hP (bP (List.Perm.refl _)))
        have hDx : va_D A ((List.flatten ([(oX5 (p0a 0) p0a p0k w56 p0l), (oX1 (p1a 0) p1a p1k p1n p1w p1l), (oX9 (p1a 3) p1_2a p1_2k p1_2n w12)] : List va_W)) ++ (List.flatten ([] : List va_W))) := vD_fa (vD_perm hD (bP (List.Perm.refl _)))
        have hKx : va_K (dC, dI) cls ((List.flatten ([(tX5 p0k), (tX1 p1k), (tX9 p1_2k)] : List (List (ClassId × FieldType)))) ++ (List.flatten ([] : List (List (ClassId × FieldType))))) s := vK_fa (vK_perm hK (bP (List.Perm.refl _)))
        have hPc := vP_l hPx
        have hDc := vD_l hDx
        have hKc := vK_l hKx
        have hFc := vfree hDx hS hA
        refine va_calli (va_runV (As := [.ref (p1a 0), .int o_4]) (rest := [.int (p1_2w 2 (nn p2)), .int p2, .ref (p1a 3)]) ⟨hx, hb, hml, hown, hts⟩ (kX5_numberOf l dC dI (p0a := p0a) (p0k := p0k) (p0w := w56) (p0l := p0l) (p1a := p1a) (p1k := p1k) (p1n := p1n) (p1w := p1w) (p1l := p1l) (p2 := o_4) (p1_2a := p1_2a) (p1_2k := p1_2k) (p1_2n := p1_2n) (p1_2w := w12) (sz := _) (o := o_57) (hrun := hc_57)) (cwV 2 hts (gi_V qw461 qw462 qw463 qw442 (gi_z qw460)) rfl rfl rfl (by decide +kernel) ⟨Nat.le_of_ble_eq_true rfl, Nat.le_of_ble_eq_true rfl⟩) ⟨PRE.blind, va_recv hKc hPc (ci := 7) (q0 := 0) rfl rfl, PRE.of hE hS hFc hPc hKc hDc⟩ rfl rfl hl.1 rfl (lv_room (Nat.le_of_ble_eq_true rfl)) dX5_joinOperator_112 ⟨(Nat.le_of_ble_eq_true rfl), (Nat.le_of_ble_eq_true rfl)⟩) hS (fun q _ h => hFc q h) hFc (fun r58 u t H locs ht hvm hw hB hz1 hk1 hS => ?_)
        obtain ⟨b1, b2, b3⟩ := hB
        rw [ht] at b1
        obtain ⟨hP, hD, hK⟩ := JOINC (wc := (List.flatten ([(oX5 (p0a 0) p0a p0k w56 p0l), (oX1 (p1a 0) p1a p1k p1n p1w p1l), (oX9 (p1a 3) p1_2a p1_2k p1_2n w12)] : List va_W))) (wr := (List.flatten ([] : List va_W))) (w1 := (List.flatten ([(oX5 (p0a 0) p0a p0k w56 p0l), (oX1 (p1a 0) p1a p1k p1n p1w p1l), (oX9 (p1a 3) p1_2a p1_2k p1_2n w12)] : List va_W))) (t1 := (List.flatten ([(tX5 p0k), (tX1 p1k), (tX9 p1_2k)] : List (List (ClassId × FieldType))))) hPx hDx hKx hk1 hFc b1 (va_K.moved hvm.symm b2) b3
        have hP : va_P (dC, dI) cls (List.flatten ([(oX5 (p0a 0) p0a p0k w56 p0l), (oX1 (p1a 0) p1a p1k p1n p1w p1l), (oX9 (p1a 3) p1_2a p1_2k p1_2n w12)] : List va_W)) H := vP_perm (vP_fb hP) (bP (List.Perm.refl _))
        have hD : va_D A (List.flatten ([(oX5 (p0a 0) p0a p0k w56 p0l), (oX1 (p1a 0) p1a p1k p1n p1w p1l), (oX9 (p1a 3) p1_2a p1_2k p1_2n w12)] : List va_W)) := vD_perm (vD_fb hD) (bP (List.Perm.refl _))
        have hK : va_K (dC, dI) cls (List.flatten ([(tX5 p0k), (tX1 p1k), (tX9 p1_2k)] : List (List (ClassId × FieldType)))) s := vK_perm (vK_fb hK) (bP (List.Perm.refl _))
        obtain rfl : o_57 = r58 := hw.symm
        refine lv_aload_n hx hb dX5_joinOperator_115 rfl (lv_at hl 5 rfl) ?_
        refine lv_aload_n hx hb dX5_joinOperator_116 rfl (lv_at hl 6 rfl) ?_
        refine lv_iload hx hb dX5_joinOperator_117 (lv_at hl 0 rfl) ?_
        obtain ⟨o_59, hc_59, hrun⟩ := bnd9 hrun
        have hPx : va_P (dC, dI) cls ((List.flatten ([(oX5 (p0a 0) p0a p0k w56 p0l), (oX1 (p1a 0) p1a p1k p1n p1w p1l), (oX9 (p1a 3) p1_2a p1_2k p1_2n w12)] : List va_W)) ++ (List.flatten ([] : List va_W))) H := vP_fa (vP_perm hP (bP (List.Perm.refl _)))
        have hDx : va_D A ((List.flatten ([(oX5 (p0a 0) p0a p0k w56 p0l), (oX1 (p1a 0) p1a p1k p1n p1w p1l), (oX9 (p1a 3) p1_2a p1_2k p1_2n w12)] : List va_W)) ++ (List.flatten ([] : List va_W))) := vD_fa (vD_perm hD (bP (List.Perm.refl _)))
        have hKx : va_K (dC, dI) cls ((List.flatten ([(tX5 p0k), (tX1 p1k), (tX9 p1_2k)] : List (List (ClassId × FieldType)))) ++ (List.flatten ([] : List (List (ClassId × FieldType))))) s := vK_fa (vK_perm hK (bP (List.Perm.refl _)))
        have hPc := vP_l hPx
        have hDc := vD_l hDx
        have hKc := vK_l hKx
        have hFc := vfree hDx hS hA
        refine va_calli (va_runV (As := [.ref (p1a 0), .int o_7]) (rest := [.int o_57, .int (p1_2w 2 (nn p2)), .int p2, .ref (p1a 3)]) ⟨hx, hb, hml, hown, hts⟩ (kX5_numberOf l dC dI (p0a := p0a) (p0k := p0k) (p0w := w56) (p0l := p0l) (p1a := p1a) (p1k := p1k) (p1n := p1n) (p1w := p1w) (p1l := p1l) (p2 := o_7) (p1_2a := p1_2a) (p1_2k := p1_2k) (p1_2n := p1_2n) (p1_2w := w12) (sz := _) (o := o_59) (hrun := hc_59)) (cwV 2 hts (gi_V qw461 qw462 qw463 qw442 (gi_z qw460)) rfl rfl rfl (by decide +kernel) ⟨Nat.le_of_ble_eq_true rfl, Nat.le_of_ble_eq_true rfl⟩) ⟨PRE.blind, va_recv hKc hPc (ci := 7) (q0 := 0) rfl rfl, PRE.of hE hS hFc hPc hKc hDc⟩ rfl rfl hl.1 rfl (lv_room (Nat.le_of_ble_eq_true rfl)) dX5_joinOperator_119 ⟨(Nat.le_of_ble_eq_true rfl), (Nat.le_of_ble_eq_true rfl)⟩) hS (fun q _ h => hFc q h) hFc (fun r60 u t H locs ht hvm hw hB hz1 hk1 hS => ?_)
        obtain ⟨b1, b2, b3⟩ := hB
        rw [ht] at b1
        obtain ⟨hP, hD, hK⟩ := JOINC (wc := (List.flatten ([(oX5 (p0a 0) p0a p0k w56 p0l), (oX1 (p1a 0) p1a p1k p1n p1w p1l), (oX9 (p1a 3) p1_2a p1_2k p1_2n w12)] : List va_W))) (wr := (List.flatten ([] : List va_W))) (w1 := (List.flatten ([(oX5 (p0a 0) p0a p0k w56 p0l), (oX1 (p1a 0) p1a p1k p1n p1w p1l), (oX9 (p1a 3) p1_2a p1_2k p1_2n w12)] : List va_W))) (t1 := (List.flatten ([(tX5 p0k), (tX1 p1k), (tX9 p1_2k)] : List (List (ClassId × FieldType))))) hPx hDx hKx hk1 hFc b1 (va_K.moved hvm.symm b2) b3
        have hP : va_P (dC, dI) cls (List.flatten ([(oX5 (p0a 0) p0a p0k w56 p0l), (oX1 (p1a 0) p1a p1k p1n p1w p1l), (oX9 (p1a 3) p1_2a p1_2k p1_2n w12)] : List va_W)) H := vP_perm (vP_fb hP) (bP (List.Perm.refl _))
        have hD : va_D A (List.flatten ([(oX5 (p0a 0) p0a p0k w56 p0l), (oX1 (p1a 0) p1a p1k p1n p1w p1l), (oX9 (p1a 3) p1_2a p1_2k p1_2n w12)] : List va_W)) := vD_perm (vD_fb hD) (bP (List.Perm.refl _))
        have hK : va_K (dC, dI) cls (List.flatten ([(tX5 p0k), (tX1 p1k), (tX9 p1_2k)] : List (List (ClassId × FieldType)))) s := vK_perm (vK_fb hK) (bP (List.Perm.refl _))
        obtain rfl : o_59 = r60 := hw.symm
        obtain ⟨o_61, hc_61, hrun⟩ := bnd9 hrun
        have hPx : va_P (dC, dI) cls ((List.flatten ([] : List va_W)) ++ (List.flatten ([(oX5 (p0a 0) p0a p0k w56 p0l), (oX1 (p1a 0) p1a p1k p1n p1w p1l), (oX9 (p1a 3) p1_2a p1_2k p1_2n w12)] : List va_W))) H := vP_fa (vP_perm hP (bP (List.Perm.refl _)))
        have hDx : va_D A ((List.flatten ([] : List va_W)) ++ (List.flatten ([(oX5 (p0a 0) p0a p0k w56 p0l), (oX1 (p1a 0) p1a p1k p1n p1w p1l), (oX9 (p1a 3) p1_2a p1_2k p1_2n w12)] : List va_W))) := vD_fa (vD_perm hD (bP (List.Perm.refl _)))
        have hKx : va_K (dC, dI) cls ((List.flatten ([] : List (List (ClassId × FieldType)))) ++ (List.flatten ([(tX5 p0k), (tX1 p1k), (tX9 p1_2k)] : List (List (ClassId × FieldType))))) s := vK_fa (vK_perm hK (bP (List.Perm.refl _)))
        have hPc := vP_l hPx
        have hDc := vD_l hDx
        have hKc := vK_l hKx
        have hFc := vfree hDx hS hA
        refine va_calli (va_runSN (As := [.int (p1_2w 2 (nn p2)), .int o_57, .int o_59]) (rest := [.int p2, .ref (p1a 3)]) ⟨hx, hb, hml, hown, hts⟩ (kX11_compute l dC dI (p0 := (p1_2w 2 (nn p2))) (p1 := o_57) (p2 := o_59) (sz := _) (o := o_61) (hrun := hc_61)) ⟨(va_cnB 3 hts (gi_z qw519) rfl rfl rfl (hE.nw (List.mem_append_right _ (tbl_7 (i := 177) rfl)) rfl) (hts _ qw129) (by decide +kernel) ⟨Nat.le_of_ble_eq_true rfl, Nat.le_of_ble_eq_true rfl⟩), (hts _ qw520), trivial⟩ ⟨PRE.blind, PRE.of hE hS hFc hPc hKc hDc⟩ rfl rfl hl.1 rfl (lv_room (Nat.le_of_ble_eq_true rfl)) dX5_joinOperator_122 ⟨(Nat.le_of_ble_eq_true rfl), (Nat.le_of_ble_eq_true rfl)⟩) hS (fun q _ h => hFc q h) hFc (fun r62 u t H locs ht hvm hw hB hz1 hk1 hS => ?_)
        obtain ⟨b1, b2, b3⟩ := hB
        rw [ht] at b1
        obtain ⟨hP, hD, hK⟩ := JOINC (wc := (List.flatten ([] : List va_W))) (wr := (List.flatten ([(oX5 (p0a 0) p0a p0k w56 p0l), (oX1 (p1a 0) p1a p1k p1n p1w p1l), (oX9 (p1a 3) p1_2a p1_2k p1_2n w12)] : List va_W))) (w1 := (List.flatten ([] : List va_W))) (t1 := (List.flatten ([] : List (List (ClassId × FieldType))))) hPx hDx hKx hk1 hFc b1 (va_K.moved hvm.symm b2) b3
        have hP : va_P (dC, dI) cls (List.flatten ([(oX5 (p0a 0) p0a p0k w56 p0l), (oX1 (p1a 0) p1a p1k p1n p1w p1l), (oX9 (p1a 3) p1_2a p1_2k p1_2n w12)] : List va_W)) H := vP_perm (vP_fb hP) (bP (List.Perm.refl _))
        have hD : va_D A (List.flatten ([(oX5 (p0a 0) p0a p0k w56 p0l), (oX1 (p1a 0) p1a p1k p1n p1w p1l), (oX9 (p1a 3) p1_2a p1_2k p1_2n w12)] : List va_W)) := vD_perm (vD_fb hD) (bP (List.Perm.refl _))
        have hK : va_K (dC, dI) cls (List.flatten ([(tX5 p0k), (tX1 p1k), (tX9 p1_2k)] : List (List (ClassId × FieldType)))) s := vK_perm (vK_fb hK) (bP (List.Perm.refl _))
        obtain rfl : o_61 = r62 := hw.symm
        obtain ⟨o_63, hc_63, hrun⟩ := bnd9 hrun
        have hPx : va_P (dC, dI) cls ((List.flatten ([(oX9 (p1a 3) p1_2a p1_2k p1_2n w12)] : List va_W)) ++ (List.flatten ([(oX5 (p0a 0) p0a p0k w56 p0l), (oX1 (p1a 0) p1a p1k p1n p1w p1l)] : List va_W))) H := vP_fa (vP_perm hP (bP (((((((List.Perm.refl _)).cons _).trans (List.Perm.swap _ _ _))).cons _).trans (List.Perm.swap _ _ _))))
        have hDx : va_D A ((List.flatten ([(oX9 (p1a 3) p1_2a p1_2k p1_2n w12)] : List va_W)) ++ (List.flatten ([(oX5 (p0a 0) p0a p0k w56 p0l), (oX1 (p1a 0) p1a p1k p1n p1w p1l)] : List va_W))) := vD_fa (vD_perm hD (bP (((((((List.Perm.refl _)).cons _).trans (List.Perm.swap _ _ _))).cons _).trans (List.Perm.swap _ _ _))))
        have hKx : va_K (dC, dI) cls ((List.flatten ([(tX9 p1_2k)] : List (List (ClassId × FieldType)))) ++ (List.flatten ([(tX5 p0k), (tX1 p1k)] : List (List (ClassId × FieldType))))) s := vK_fa (vK_perm hK (bP (((((((List.Perm.refl _)).cons _).trans (List.Perm.swap _ _ _))).cons _).trans (List.Perm.swap _ _ _))))
        have hPc := vP_l hPx
        have hDc := vD_l hDx
        have hKc := vK_l hKx
        have hFc := vfree hDx hS hA
        refine va_callv (va_runS (As := [.ref (p1a 3), .int p2, .int o_61]) (rest := []) ⟨hx, hb, hml, hown, hts⟩ (kX5_becomeNumber l dC dI (p0a := (st0 (p1a 3) p1_2a)) (p0k := p1_2k) (p0n := p1_2n) (p0w := w12) (p1 := p2) (p2 := o_61) (sz := _) (o := o_63) (hrun := hc_63)) (va_cwS 3 hts (gi_S qw496 qw497 qw442 (gi_z qw495)) rfl rfl rfl (by decide +kernel) ⟨Nat.le_of_ble_eq_true rfl, Nat.le_of_ble_eq_true rfl⟩) ⟨PRE.blind, PRE.of hE hS hFc hPc hKc hDc⟩ rfl rfl hl.1 rfl (lv_room (Nat.le_of_ble_eq_true rfl)) dX5_joinOperator_125 ⟨(Nat.le_of_ble_eq_true rfl), (Nat.le_of_ble_eq_true rfl)⟩) hS (fun q _ h => hFc q h) hFc (fun u t H locs ht hvm hw hB hz1 hk1 hS => ?_)
        obtain ⟨b1, b2, b3⟩ := hB
        rw [ht] at b1
        obtain ⟨hP, hD, hK⟩ := JOINC (wc := (List.flatten ([(oX9 (p1a 3) p1_2a p1_2k p1_2n w12)] : List va_W))) (wr := (List.flatten ([(oX5 (p0a 0) p0a p0k w56 p0l), (oX1 (p1a 0) p1a p1k p1n p1w p1l)] : List va_W))) (w1 := (List.flatten ([(oX9 (p1a 3) p1_2a p1_2k p1_2n o_63)] : List va_W))) (t1 := (List.flatten ([(tX9 p1_2k)] : List (List (ClassId × FieldType))))) hPx hDx hKx hk1 hFc b1 (va_K.moved hvm.symm b2) b3
        have hP : va_P (dC, dI) cls (List.flatten ([(oX5 (p0a 0) p0a p0k w56 p0l), (oX1 (p1a 0) p1a p1k p1n p1w p1l), (oX9 (p1a 3) p1_2a p1_2k p1_2n o_63)] : List va_W)) H := vP_perm (vP_fb hP) (bP ((((((List.Perm.refl _)).cons _).trans (List.Perm.swap _ _ _))).trans ((((((List.Perm.refl _)).cons _).trans (List.Perm.swap _ _ _))).cons _)))
        have hD : va_D A (List.flatten ([(oX5 (p0a 0) p0a p0k w56 p0l), (oX1 (p1a 0) p1a p1k p1n p1w p1l), (oX9 (p1a 3) p1_2a p1_2k p1_2n o_63)] : List va_W)) := vD_perm (vD_fb hD) (bP ((((((List.Perm.refl _)).cons _).trans (List.Perm.swap _ _ _))).trans ((((((List.Perm.refl _)).cons _).trans (List.Perm.swap _ _ _))).cons _)))
        have hK : va_K (dC, dI) cls (List.flatten ([(tX5 p0k), (tX1 p1k), (tX9 p1_2k)] : List (List (ClassId × FieldType)))) s := vK_perm (vK_fb hK) (bP ((((((List.Perm.refl _)).cons _).trans (List.Perm.swap _ _ _))).trans ((((((List.Perm.refl _)).cons _).trans (List.Perm.swap _ _ _))).cons _)))
        refine lv_goto (tgt := 290) hx hb dX5_joinOperator_128 (by decide) ?_
        exact J290 w56 o_63 _ _ _ hrun hP hD hK hS (lv_sub hl [] rfl)
      · refine lv_if_ne (tgt := 131) hx hb dX5_joinOperator_93 (by decide) (fun _ => ?_) (fun c => absurd c hc54)
        exact J131 _ _ _ hrun hP hD hK hS (lv_sub hl [5, 6, 7, 4, 3, 2, 1, 0] rfl)
def fX5_joinBlock_L7 (p1n : Nat → Nat) (p1w : ST) (p2 : Int32) : Nat → Int32 → ST → Option ST
  | 0 => fun _ _ => none
  | n_7 + 1 => fun v3_7 p0w_7 => (if v3_7 < 0 then some p0w_7 else ((fX5_joinPhi p0w_7 p1n p1w p2 v3_7).bind fun (o_3 : ST) => (if ixb v3_7 (p1n 20) = true then ((fX5_joinBlock_L7 p1n p1w p2 n_7) (p1w 20 (nn v3_7)) o_3) else none)))
def fX5_joinBlock_J107 (kk35 : Int32 → ST → ST → Option (ST × ST)) (p1_2n : Nat → Nat) (v3_35 : Int32) (p1_2w_71 : ST) (p0w_107 : ST) : Option (ST × ST) := (if ixb v3_35 (p1_2n 6) = true then (kk35 (p1_2w_71 6 (nn v3_35)) p0w_107 p1_2w_71) else none)
def fX5_joinBlock_J71 (kk35 : Int32 → ST → ST → Option (ST × ST)) (p1l : SL) (p2 : Int32) (p1_2n : Nat → Nat) (v3_35 : Int32) (p1_2w_35 : ST) (p0w_71 : ST) (p1_2w_71 : ST) : Option (ST × ST) := (if (p1_2w_35 3 (nn v3_35)) < 0 then (fX5_joinBlock_J107 kk35 p1_2n v3_35 p1_2w_71 p0w_71) else (if ixb v3_35 (p1_2n 2) = true then (if 16 < (p1_2w_71 2 (nn v3_35)) then (fX5_joinBlock_J107 kk35 p1_2n v3_35 p1_2w_71 p0w_71) else (if ixb (p1_2w_35 3 (nn v3_35)) 250 = true then (if 0 ≤ (p0w_71 6 (nn (p1_2w_35 3 (nn v3_35)))) then (fX5_joinBlock_J107 kk35 p1_2n v3_35 p1_2w_71 p0w_71) else ((fX5_joinSeen p0w_71 p1l p2 v3_35 p1_2n p1_2w_71).bind fun (o_17 : ST) => (fX5_joinBlock_J107 kk35 p1_2n v3_35 p1_2w_71 o_17))) else none)) else none))
def fX5_joinBlock_L35 (p1l : SL) (p2 : Int32) (p1_2n : Nat → Nat) : Nat → Int32 → ST → ST → Option (ST × ST)
  | 0 => fun _ _ _ => none
  | n_35 + 1 => fun v3_35 p0w_35 p1_2w_35 => (if v3_35 < 0 then some (p0w_35, p1_2w_35) else (if ixb v3_35 (p1_2n 3) = true then (if ixb v3_35 (p1_2n 2) = true then ((fX11_isOperator (p1_2w_35 2 (nn v3_35))).bind fun (o_9 : Int32) => (if o_9 = 0 then (fX5_joinBlock_J71 (fX5_joinBlock_L35 p1l p2 p1_2n n_35) p1l p2 p1_2n v3_35 p1_2w_35 p0w_35 p1_2w_35) else ((fX5_joinOperator p0w_35 v3_35 p1_2n p1_2w_35).bind fun (o_19 : ST × ST) => (fX5_joinBlock_J71 (fX5_joinBlock_L35 p1l p2 p1_2n n_35) p1l p2 p1_2n v3_35 p1_2w_35 (o_19.1) (o_19.2))))) else none) else none))
def fX5_joinBlock (p0w : ST) (p1n : Nat → Nat) (p1w : ST) (p1l : SL) (p2 : Int32) (p1_2n : Nat → Nat) (p1_2w : ST) : Option (ST × ST) := (if ixb p2 60 = true then ((fX5_joinBlock_L7 p1n p1w p2 NF (p1w 6 (nn p2)) p0w).bind fun (o7 : ST) => (if ixb p2 60 = true then ((fX5_joinBlock_L35 p1l p2 p1_2n NF (p1w 4 (nn p2)) o7 p1_2w).bind fun (o35 : ST × ST) => some ((o35.1), (o35.2))) else none)) else none)
set_option maxHeartbeats 16000000 in
set_option maxRecDepth 100000 in
theorem kX5_joinBlock {zs : ZS} (l : Launch) (dC : Nat → ClassId) (dI : Nat → Nat → Nat) (p0a : Nat → Nat) (p0k : Nat → ClassId) (p0w : ST) (p0l : SL) (p1a : Nat → Nat) (p1k : Nat → ClassId) (p1n : Nat → Nat) (p1w : ST) (p1l : SL) (p2 : Int32) (p1_2a : Nat → Nat) (p1_2k : Nat → ClassId) (p1_2n : Nat → Nat) (p1_2w : ST) (sz : Nat) (o : ST × ST) (hrun : fX5_joinBlock p0w p1n p1w p1l p2 p1_2n p1_2w = some o) : Met l yX5_joinBlock (wz yX5_joinBlock cX5_joinBlock 5 (Option.none : Option Jvm.ClassFile.FieldType)) ({ frames := 4, cells := 0, slots := 0, locals := 96 } : Room) (va_Pc [.ref (p0a 0), .ref (p1a 0), .int p2] (PRE zs dC dI (List.flatten ([(oX5 (p0a 0) p0a p0k p0w p0l), (oX1 (p1a 0) p1a p1k p1n p1w p1l), (oX9 (p1a 3) p1_2a p1_2k p1_2n p1_2w)] : List va_W)) (List.flatten ([(tX5 p0k), (tX1 p1k), (tX9 p1_2k)] : List (List (ClassId × FieldType)))) sz)) (va_Qv (fun (_ : Unit) => True) (fun _ t => POST dC dI (List.flatten ([(oX5 (p0a 0) p0a p0k (o.1) p0l), (oX1 (p1a 0) p1a p1k p1n p1w p1l), (oX9 (p1a 3) p1_2a p1_2k p1_2n (o.2))] : List va_W)) (List.flatten ([(tX5 p0k), (tX1 p1k), (tX9 p1_2k)] : List (List (ClassId × FieldType)))) (va_A (List.flatten ([(oX5 (p0a 0) p0a p0k p0w p0l), (oX1 (p1a 0) p1a p1k p1n p1w p1l), (oX9 (p1a 3) p1_2a p1_2k p1_2n p1_2w)] : List va_W)) sz) t) (va_A (List.flatten ([(oX5 (p0a 0) p0a p0k p0w p0l), (oX1 (p1a 0) p1a p1k p1n p1w p1l), (oX9 (p1a 3) p1_2a p1_2k p1_2n p1_2w)] : List va_W)) sz)) 0 0 (va_A (List.flatten ([(oX5 (p0a 0) p0a p0k p0w p0l), (oX1 (p1a 0) p1a p1k p1n p1w p1l), (oX9 (p1a 3) p1_2a p1_2k p1_2n p1_2w)] : List va_W)) sz) := by
  refine Met.ofW (cc := cX5_joinBlock) (maxL := 5) (ret := (Option.none : Option Jvm.ClassFile.FieldType)) (by decide) rfl ?_
  intro p e s m args below meth c s₁ B hml hv
  obtain ⟨rfl, hsz, hP, hK, hD0, hE⟩ := hv
  have hx := B.exec
  have hb := B.bytes
  have hr := B.returns
  have hts0 := atoms_spec (ws := wz yX5_joinBlock cX5_joinBlock 5 (Option.none : Option Jvm.ClassFile.FieldType)) B.pre
  have hts : ∀ w ∈ gw, w.before _ s = true := fun w h => hts0 w (List.mem_cons_of_mem _ h)
  have hown : s.vm.findClass RX5 = some m.cls := findClass_of_methodNamed B.named
  have hlocks := B.notSynchronized
  subst hsz
  have hD := hD0.self (sz := s.heap.size)
  refine gQ9 ?_
  intro Q hQ
  generalize hAe : va_A (List.flatten ([(oX5 (p0a 0) p0a p0k p0w p0l), (oX1 (p1a 0) p1a p1k p1n p1w p1l), (oX9 (p1a 3) p1_2a p1_2k p1_2n p1_2w)] : List va_W)) s.heap.size = A at hD hE hQ
  have hA : ∀ q : Nat, s.heap.size ≤ q → A q := fun q h => by rw [← hAe]; exact Or.inr h
  have hS : va_S A s.heap s.heap [] := va_S.rf
  have hP : va_P (dC, dI) cls (List.flatten ([(oX5 (p0a 0) p0a p0k p0w p0l), (oX1 (p1a 0) p1a p1k p1n p1w p1l), (oX9 (p1a 3) p1_2a p1_2k p1_2n p1_2w)] : List va_W)) s.heap := hP
  have hl := lv_entry ([.ref (p0a 0), .ref (p1a 0), .int p2]) (n := 5) (Nat.le_of_ble_eq_true rfl)
  rw [lg_entry_eq]
  generalize (lg_sl ([.ref (p0a 0), .ref (p1a 0), .int p2]) ++ List.replicate (5 - (lg_sl ([.ref (p0a 0), .ref (p1a 0), .int p2])).length) Slot.unset).toArray = ls at hl ⊢
  have hl : lv_has ls 5 [(0, .ref (p0a 0)), (1, .ref (p1a 0)), (2, .int p2)] := hl
  obtain ⟨H, hHe⟩ : ∃ H, H = s.heap := ⟨_, rfl⟩
  obtain ⟨locs, hle⟩ : ∃ locs : List Loc, locs = [] := ⟨_, rfl⟩
  rw [← hHe] at hP
  have hS : va_S A s.heap H locs := by rw [hHe, hle]; exact hS
  show W p l e ({ frames := 4, cells := 0, slots := 0, locals := 96 } : Room) s m ([.ref (p0a 0), .ref (p1a 0), .int p2] : List Value).toArray below meth c s.heap [] 0 0 Q (F0 m 0 ls [])
  rw [← hle]
  refine wH9 hHe ?_
  unfold fX5_joinBlock at hrun
  refine lv_aload_n hx hb dX5_joinBlock_0 rfl (lv_at hl 1 rfl) ?_
  refine va_get (D := (dC, dI)) (ci := 4) (v := .ref (p1a 6)) (C := RX1) (T := TX1) (N := 21) hx hb hts i_X1 hown hK hP 10 rfl rfl 5 (by decide) (hts _ qw431) (fun _ h9 => h9) rfl dX5_joinBlock_1 ?_
  refine lv_iload_n hx hb dX5_joinBlock_4 rfl (lv_at hl 2 rfl) ?_
  obtain ⟨hq1, hrun⟩ := chk9 hrun
  refine va_iald hx hb hK hP 13 11 rfl rfl (ixb_in hq1) dX5_joinBlock_5 ?_
  refine lv_istore_n (lv' := [(3, .int (p1w 6 (nn p2))), (0, .ref (p0a 0)), (1, .ref (p1a 0)), (2, .int p2)]) hx hb dX5_joinBlock_6 rfl hl (by decide) rfl (fun ls hl => ?_)
  have L7 : ∀ (n_7 : Nat) (v3_7 : Int32) (p0w_7 : ST) (o7 : ST) (H : Heap) (locs : List Loc) (ls : Array Slot), (fX5_joinBlock_L7 p1n p1w p2 n_7) v3_7 p0w_7 = some o7 → va_P (dC, dI) cls (List.flatten ([(oX5 (p0a 0) p0a p0k p0w_7 p0l), (oX1 (p1a 0) p1a p1k p1n p1w p1l), (oX9 (p1a 3) p1_2a p1_2k p1_2n p1_2w)] : List va_W)) H → va_D A (List.flatten ([(oX5 (p0a 0) p0a p0k p0w_7 p0l), (oX1 (p1a 0) p1a p1k p1n p1w p1l), (oX9 (p1a 3) p1_2a p1_2k p1_2n p1_2w)] : List va_W)) → va_K (dC, dI) cls (List.flatten ([(tX5 p0k), (tX1 p1k), (tX9 p1_2k)] : List (List (ClassId × FieldType)))) s → va_S A s.heap H locs → lv_has ls 5 [(0, .ref (p0a 0)), (1, .ref (p1a 0)), (2, .int p2), (3, .int v3_7)] → (∀ (H : Heap) (locs : List Loc) (ls : Array Slot), va_P (dC, dI) cls (List.flatten ([(oX5 (p0a 0) p0a p0k o7 p0l), (oX1 (p1a 0) p1a p1k p1n p1w p1l), (oX9 (p1a 3) p1_2a p1_2k p1_2n p1_2w)] : List va_W)) H → va_D A (List.flatten ([(oX5 (p0a 0) p0a p0k o7 p0l), (oX1 (p1a 0) p1a p1k p1n p1w p1l), (oX9 (p1a 3) p1_2a p1_2k p1_2n p1_2w)] : List va_W)) → va_K (dC, dI) cls (List.flatten ([(tX5 p0k), (tX1 p1k), (tX9 p1_2k)] : List (List (ClassId × FieldType)))) s → va_S A s.heap H locs → lv_has ls 5 [(0, .ref (p0a 0)), (1, .ref (p1a 0)), (2, .int p2)] → W p l e ({ frames := 4, cells := 0, slots := 0, locals := 96 } : Room) s m ([.ref (p0a 0), .ref (p1a 0), .int p2] : List Value).toArray below meth c H locs 0 0 Q (F0 m 28 ls [])) → W p l e ({ frames := 4, cells := 0, slots := 0, locals := 96 } : Room) s m ([.ref (p0a 0), .ref (p1a 0), .int p2] : List Value).toArray below meth c H locs 0 0 Q (F0 m 7 ls []) := by
    intro n_7
    induction n_7 with
    | zero => intro v3_7 p0w_7 o7 H locs ls hrun; exact (no9 rfl hrun).elim
    | succ n_7 IH7 =>
      intro v3_7 p0w_7 o7 H locs ls hrun hP hD hK hS hl hk7
      unfold fX5_joinBlock_L7 at hrun
      refine lv_iload_n hx hb dX5_joinBlock_7 rfl (lv_at hl 3 rfl) ?_
      rcases br9 hrun with ⟨hc2, hrun⟩ | ⟨hc2, hrun⟩
      · refine lv_if_lt (tgt := 28) hx hb dX5_joinBlock_8 (by decide) (fun _ => ?_) (fun c => absurd hc2 c)
        obtain rfl := (Option.some.inj hrun)
        exact hk7 _ _ _ hP hD hK hS (lv_sub hl [0, 1, 2] rfl)
      · refine lv_if_lt (tgt := 28) hx hb dX5_joinBlock_8 (by decide) (fun c => absurd c hc2) (fun _ => ?_)
        refine lv_aload_n hx hb dX5_joinBlock_11 rfl (lv_at hl 0 rfl) ?_
        refine lv_aload_n hx hb dX5_joinBlock_12 rfl (lv_at hl 1 rfl) ?_
        refine lv_iload_n hx hb dX5_joinBlock_13 rfl (lv_at hl 2 rfl) ?_
        refine lv_iload_n hx hb dX5_joinBlock_14 rfl (lv_at hl 3 rfl) ?_
        obtain ⟨o_3, hc_3, hrun⟩ := bnd9 hrun
        have hPx : va_P (dC, dI) cls ((List.flatten ([(oX5 (p0a 0) p0a p0k p0w_7 p0l), (oX1 (p1a 0) p1a p1k p1n p1w p1l)] : List va_W)) ++ (List.flatten ([(oX9 (p1a 3) p1_2a p1_2k p1_2n p1_2w)] : List va_W))) H := vP_fa (vP_perm hP (bP (List.Perm.refl _)))
        have hDx : va_D A ((List.flatten ([(oX5 (p0a 0) p0a p0k p0w_7 p0l), (oX1 (p1a 0) p1a p1k p1n p1w p1l)] : List va_W)) ++ (List.flatten ([(oX9 (p1a 3) p1_2a p1_2k p1_2n p1_2w)] : List va_W))) := vD_fa (vD_perm hD (bP (List.Perm.refl _)))
        have hKx : va_K (dC, dI) cls ((List.flatten ([(tX5 p0k), (tX1 p1k)] : List (List (ClassId × FieldType)))) ++ (List.flatten ([(tX9 p1_2k)] : List (List (ClassId × FieldType))))) s := vK_fa (vK_perm hK (bP (List.Perm.refl _)))
        have hPc := vP_l hPx
        have hDc := vD_l hDx
        have hKc := vK_l hKx
        have hFc := vfree hDx hS hA
        refine va_callv (va_runV (As := [.ref (p1a 0), .int p2, .int v3_7]) (rest := []) ⟨hx, hb, hml, hown, hts⟩ (kX5_joinPhi l dC dI (p0a := p0a) (p0k := p0k) (p0w := p0w_7) (p0l := p0l) (p1a := p1a) (p1k := p1k) (p1n := p1n) (p1w := p1w) (p1l := p1l) (p2 := p2) (p3 := v3_7) (sz := _) (o := o_3) (hrun := hc_3)) (cwV 3 hts (gi_V qw553 qw554 qw555 qw442 (gi_z qw552)) rfl rfl rfl (by decide +kernel) ⟨Nat.le_of_ble_eq_true rfl, Nat.le_of_ble_eq_true rfl⟩) ⟨PRE.blind, va_recv hKc hPc (ci := 7) (q0 := 0) rfl rfl, PRE.of hE hS hFc hPc hKc hDc⟩ rfl rfl hl.1 rfl (lv_room (Nat.le_of_ble_eq_true rfl)) dX5_joinBlock_15 ⟨(Nat.le_of_ble_eq_true rfl), (Nat.le_of_ble_eq_true rfl)⟩) hS (fun q _ h => hFc q h) hFc (fun u t H locs ht hvm hw hB hz1 hk1 hS => ?_)
        obtain ⟨b1, b2, b3⟩ := hB
        rw [ht] at b1
        obtain ⟨hP, hD, hK⟩ := JOINC (wc := (List.flatten ([(oX5 (p0a 0) p0a p0k p0w_7 p0l), (oX1 (p1a 0) p1a p1k p1n p1w p1l)] : List va_W))) (wr := (List.flatten ([(oX9 (p1a 3) p1_2a p1_2k p1_2n p1_2w)] : List va_W))) (w1 := (List.flatten ([(oX5 (p0a 0) p0a p0k o_3 p0l), (oX1 (p1a 0) p1a p1k p1n p1w p1l)] : List va_W))) (t1 := (List.flatten ([(tX5 p0k), (tX1 p1k)] : List (List (ClassId × FieldType))))) hPx hDx hKx hk1 hFc b1 (va_K.moved hvm.symm b2) b3
        have hP : va_P (dC, dI) cls (List.flatten ([(oX5 (p0a 0) p0a p0k o_3 p0l), (oX1 (p1a 0) p1a p1k p1n p1w p1l), (oX9 (p1a 3) p1_2a p1_2k p1_2n p1_2w)] : List va_W)) H := vP_perm (vP_fb hP) (bP (List.Perm.refl _))
        have hD : va_D A (List.flatten ([(oX5 (p0a 0) p0a p0k o_3 p0l), (oX1 (p1a 0) p1a p1k p1n p1w p1l), (oX9 (p1a 3) p1_2a p1_2k p1_2n p1_2w)] : List va_W)) := vD_perm (vD_fb hD) (bP (List.Perm.refl _))
        have hK : va_K (dC, dI) cls (List.flatten ([(tX5 p0k), (tX1 p1k), (tX9 p1_2k)] : List (List (ClassId × FieldType)))) s := vK_perm (vK_fb hK) (bP (List.Perm.refl _))
        refine lv_aload_n hx hb dX5_joinBlock_18 rfl (lv_at hl 1 rfl) ?_
        refine va_get (D := (dC, dI)) (ci := 4) (v := .ref (p1a 20)) (C := RX1) (T := TX1) (N := 21) hx hb hts i_X1 hown hK hP 10 rfl rfl 19 (by decide) (hts _ qw433) (fun _ h9 => h9) rfl dX5_joinBlock_19 ?_
        refine lv_iload_n hx hb dX5_joinBlock_22 rfl (lv_at hl 3 rfl) ?_
        obtain ⟨hq4, hrun⟩ := chk9 hrun
        refine va_iald hx hb hK hP 26 24 rfl rfl (ixb_in hq4) dX5_joinBlock_23 ?_
        refine lv_istore_n (lv' := [(3, .int (p1w 20 (nn v3_7))), (0, .ref (p0a 0)), (1, .ref (p1a 0)), (2, .int p2)]) hx hb dX5_joinBlock_24 rfl hl (by decide) rfl (fun ls hl => ?_)
        refine lv_goto (tgt := 7) hx hb dX5_joinBlock_25 (by decide) ?_
        exact IH7 (p1w 20 (nn v3_7)) o_3 o7 _ _ _ hrun hP hD hK hS (lv_sub hl [1, 2, 3, 0] rfl) hk7
  obtain ⟨o7, hc7, hrun⟩ := bnd9 hrun
  refine L7 NF (p1w 6 (nn p2)) p0w o7 _ _ _ hc7 hP hD hK hS (lv_sub hl [1, 2, 3, 0] rfl) ?_
  intro H locs ls hP hD hK hS hl
  have hl := hl
  refine lv_aload_n hx hb dX5_joinBlock_28 rfl (lv_at hl 1 rfl) ?_
  refine va_get (D := (dC, dI)) (ci := 4) (v := .ref (p1a 4)) (C := RX1) (T := TX1) (N := 21) hx hb hts i_X1 hown hK hP 10 rfl rfl 3 (by decide) (hts _ qw434) (fun _ h9 => h9) rfl dX5_joinBlock_29 ?_
  refine lv_iload_n hx hb dX5_joinBlock_32 rfl (lv_at hl 2 rfl) ?_
  obtain ⟨hq5, hrun⟩ := chk9 hrun
  refine va_iald hx hb hK hP 11 9 rfl rfl (ixb_in hq5) dX5_joinBlock_33 ?_
  refine lv_istore_n (lv' := [(3, .int (p1w 4 (nn p2))), (0, .ref (p0a 0)), (1, .ref (p1a 0)), (2, .int p2)]) hx hb dX5_joinBlock_34 rfl hl (by decide) rfl (fun ls hl => ?_)
  have L35 : ∀ (n_35 : Nat) (v3_35 : Int32) (p0w_35 : ST) (p1_2w_35 : ST) (o35 : ST × ST) (H : Heap) (locs : List Loc) (ls : Array Slot), (fX5_joinBlock_L35 p1l p2 p1_2n n_35) v3_35 p0w_35 p1_2w_35 = some o35 → va_P (dC, dI) cls (List.flatten ([(oX5 (p0a 0) p0a p0k p0w_35 p0l), (oX1 (p1a 0) p1a p1k p1n p1w p1l), (oX9 (p1a 3) p1_2a p1_2k p1_2n p1_2w_35)] : List va_W)) H → va_D A (List.flatten ([(oX5 (p0a 0) p0a p0k p0w_35 p0l), (oX1 (p1a 0) p1a p1k p1n p1w p1l), (oX9 (p1a 3) p1_2a p1_2k p1_2n p1_2w_35)] : List va_W)) → va_K (dC, dI) cls (List.flatten ([(tX5 p0k), (tX1 p1k), (tX9 p1_2k)] : List (List (ClassId × FieldType)))) s → va_S A s.heap H locs → lv_has ls 5 [(0, .ref (p0a 0)), (1, .ref (p1a 0)), (2, .int p2), (3, .int v3_35)] → (∀ (H : Heap) (locs : List Loc) (ls : Array Slot), va_P (dC, dI) cls (List.flatten ([(oX5 (p0a 0) p0a p0k (o35.1) p0l), (oX1 (p1a 0) p1a p1k p1n p1w p1l), (oX9 (p1a 3) p1_2a p1_2k p1_2n (o35.2))] : List va_W)) H → va_D A (List.flatten ([(oX5 (p0a 0) p0a p0k (o35.1) p0l), (oX1 (p1a 0) p1a p1k p1n p1w p1l), (oX9 (p1a 3) p1_2a p1_2k p1_2n (o35.2))] : List va_W)) → va_K (dC, dI) cls (List.flatten ([(tX5 p0k), (tX1 p1k), (tX9 p1_2k)] : List (List (ClassId × FieldType)))) s → va_S A s.heap H locs → lv_has ls 5 [] → W p l e ({ frames := 4, cells := 0, slots := 0, locals := 96 } : Room) s m ([.ref (p0a 0), .ref (p1a 0), .int p2] : List Value).toArray below meth c H locs 0 0 Q (F0 m 120 ls [])) → W p l e ({ frames := 4, cells := 0, slots := 0, locals := 96 } : Room) s m ([.ref (p0a 0), .ref (p1a 0), .int p2] : List Value).toArray below meth c H locs 0 0 Q (F0 m 35 ls []) := by
    intro n_35
    induction n_35 with
    | zero => intro v3_35 p0w_35 p1_2w_35 o35 H locs ls hrun; exact (no9 rfl hrun).elim
    | succ n_35 IH35 =>
      intro v3_35 p0w_35 p1_2w_35 o35 H locs ls hrun hP hD hK hS hl hk35
      unfold fX5_joinBlock_L35 at hrun
      refine lv_iload_n hx hb dX5_joinBlock_35 rfl (lv_at hl 3 rfl) ?_
      rcases br9 hrun with ⟨hc6, hrun⟩ | ⟨hc6, hrun⟩
      · refine lv_if_lt (tgt := 120) hx hb dX5_joinBlock_36 (by decide) (fun _ => ?_) (fun c => absurd hc6 c)
        obtain rfl := (Option.some.inj hrun)
        exact hk35 _ _ _ hP hD hK hS (lv_sub hl [] rfl)
      · refine lv_if_lt (tgt := 120) hx hb dX5_joinBlock_36 (by decide) (fun c => absurd c hc6) (fun _ => ?_)
        refine lv_aload_n hx hb dX5_joinBlock_39 rfl (lv_at hl 1 rfl) ?_
        refine va_get (D := (dC, dI)) (ci := 4) (v := .ref (p1a 3)) (C := RX1) (T := TX1) (N := 21) hx hb hts i_X1 hown hK hP 10 rfl rfl 2 (by decide) (hts _ qw435) (fun _ h9 => h9) rfl dX5_joinBlock_40 ?_
        refine va_get (D := (dC, dI)) (ci := 3) (v := .ref (p1_2a 3)) (C := RX9) (T := TX9) (N := 6) hx hb hts i_X9 hown hK hP 28 rfl rfl 2 (by decide) (hts _ qw436) (fun _ h9 => h9) rfl dX5_joinBlock_43 ?_
        refine lv_iload_n hx hb dX5_joinBlock_46 rfl (lv_at hl 3 rfl) ?_
        obtain ⟨hq7, hrun⟩ := chk9 hrun
        refine va_iald hx hb hK hP 30 27 rfl rfl (ixb_in hq7) dX5_joinBlock_47 ?_
        refine lv_istore (lv' := [(4, .int (p1_2w_35 3 (nn v3_35))), (0, .ref (p0a 0)), (1, .ref (p1a 0)), (2, .int p2), (3, .int v3_35)]) hx hb dX5_joinBlock_48 hl (by decide) rfl (fun ls hl => ?_)
        refine lv_aload_n hx hb dX5_joinBlock_50 rfl (lv_at hl 2 rfl) ?_
        refine va_get (D := (dC, dI)) (ci := 4) (v := .ref (p1a 3)) (C := RX1) (T := TX1) (N := 21) hx hb hts i_X1 hown hK hP 10 rfl rfl 2 (by decide) (hts _ qw435) (fun _ h9 => h9) rfl dX5_joinBlock_51 ?_
        refine va_get (D := (dC, dI)) (ci := 3) (v := .ref (p1_2a 2)) (C := RX9) (T := TX9) (N := 6) hx hb hts i_X9 hown hK hP 28 rfl rfl 1 (by decide) (hts _ qw420) (fun _ h9 => h9) rfl dX5_joinBlock_54 ?_
        refine lv_iload_n hx hb dX5_joinBlock_57 rfl (lv_at hl 4 rfl) ?_
        obtain ⟨hq8, hrun⟩ := chk9 hrun
        refine va_iald hx hb hK hP 29 26 rfl rfl (ixb_in hq8) dX5_joinBlock_58 ?_
        obtain ⟨o_9, hc_9, hrun⟩ := bnd9 hrun
        have hPx : va_P (dC, dI) cls ((List.flatten ([] : List va_W)) ++ (List.flatten ([(oX5 (p0a 0) p0a p0k p0w_35 p0l), (oX1 (p1a 0) p1a p1k p1n p1w p1l), (oX9 (p1a 3) p1_2a p1_2k p1_2n p1_2w_35)] : List va_W))) H := vP_fa (vP_perm hP (bP (List.Perm.refl _)))
        have hDx : va_D A ((List.flatten ([] : List va_W)) ++ (List.flatten ([(oX5 (p0a 0) p0a p0k p0w_35 p0l), (oX1 (p1a 0) p1a p1k p1n p1w p1l), (oX9 (p1a 3) p1_2a p1_2k p1_2n p1_2w_35)] : List va_W))) := vD_fa (vD_perm hD (bP (List.Perm.refl _)))
        have hKx : va_K (dC, dI) cls ((List.flatten ([] : List (List (ClassId × FieldType)))) ++ (List.flatten ([(tX5 p0k), (tX1 p1k), (tX9 p1_2k)] : List (List (ClassId × FieldType))))) s := vK_fa (vK_perm hK (bP (List.Perm.refl _)))
        have hPc := vP_l hPx
        have hDc := vD_l hDx
        have hKc := vK_l hKx
        have hFc := vfree hDx hS hA
        refine va_calli (va_runSN (As := [.int (p1_2w_35 2 (nn v3_35))]) (rest := []) ⟨hx, hb, hml, hown, hts⟩ (kX11_isOperator l dC dI (p0 := (p1_2w_35 2 (nn v3_35))) (sz := _) (o := o_9) (hrun := hc_9)) ⟨(va_cnB 1 hts (gi_z qw348) rfl rfl rfl (hE.nw (List.mem_append_right _ (tbl_7 (i := 173) rfl)) rfl) (hts _ qw129) (by decide +kernel) ⟨Nat.le_of_ble_eq_true rfl, Nat.le_of_ble_eq_true rfl⟩), (hts _ qw350), trivial⟩ ⟨PRE.blind, PRE.of hE hS hFc hPc hKc hDc⟩ rfl rfl hl.1 rfl (lv_room (Nat.le_of_ble_eq_true rfl)) dX5_joinBlock_59 ⟨(Nat.le_of_ble_eq_true rfl), (Nat.le_of_ble_eq_true rfl)⟩) hS (fun q _ h => hFc q h) hFc (fun r10 u t H locs ht hvm hw hB hz1 hk1 hS => ?_)
        obtain ⟨b1, b2, b3⟩ := hB
        rw [ht] at b1
        obtain ⟨hP, hD, hK⟩ := JOINC (wc := (List.flatten ([] : List va_W))) (wr := (List.flatten ([(oX5 (p0a 0) p0a p0k p0w_35 p0l), (oX1 (p1a 0) p1a p1k p1n p1w p1l), (oX9 (p1a 3) p1_2a p1_2k p1_2n p1_2w_35)] : List va_W))) (w1 := (List.flatten ([] : List va_W))) (t1 := (List.flatten ([] : List (List (ClassId × FieldType))))) hPx hDx hKx hk1 hFc b1 (va_K.moved hvm.symm b2) b3
        have hP : va_P (dC, dI) cls (List.flatten ([(oX5 (p0a 0) p0a p0k p0w_35 p0l), (oX1 (p1a 0) p1a p1k p1n p1w p1l), (oX9 (p1a 3) p1_2a p1_2k p1_2n p1_2w_35)] : List va_W)) H := vP_perm (vP_fb hP) (bP (List.Perm.refl _))
        have hD : va_D A (List.flatten ([(oX5 (p0a 0) p0a p0k p0w_35 p0l), (oX1 (p1a 0) p1a p1k p1n p1w p1l), (oX9 (p1a 3) p1_2a p1_2k p1_2n p1_2w_35)] : List va_W)) := vD_perm (vD_fb hD) (bP (List.Perm.refl _))
        have hK : va_K (dC, dI) cls (List.flatten ([(tX5 p0k), (tX1 p1k), (tX9 p1_2k)] : List (List (ClassId × FieldType)))) s := vK_perm (vK_fb hK) (bP (List.Perm.refl _))
        obtain rfl : o_9 = r10 := hw.symm
        have J71 : ∀ (p0w_71 : ST) (p1_2w_71 : ST) (H : Heap) (locs : List Loc) (ls : Array Slot), (fX5_joinBlock_J71 (fX5_joinBlock_L35 p1l p2 p1_2n n_35) p1l p2 p1_2n v3_35 p1_2w_35 p0w_71 p1_2w_71) = some o35 → va_P (dC, dI) cls (List.flatten ([(oX5 (p0a 0) p0a p0k p0w_71 p0l), (oX1 (p1a 0) p1a p1k p1n p1w p1l), (oX9 (p1a 3) p1_2a p1_2k p1_2n p1_2w_71)] : List va_W)) H → va_D A (List.flatten ([(oX5 (p0a 0) p0a p0k p0w_71 p0l), (oX1 (p1a 0) p1a p1k p1n p1w p1l), (oX9 (p1a 3) p1_2a p1_2k p1_2n p1_2w_71)] : List va_W)) → va_K (dC, dI) cls (List.flatten ([(tX5 p0k), (tX1 p1k), (tX9 p1_2k)] : List (List (ClassId × FieldType)))) s → va_S A s.heap H locs → lv_has ls 5 [(0, .ref (p0a 0)), (1, .ref (p1a 0)), (2, .int p2), (3, .int v3_35), (4, .int (p1_2w_35 3 (nn v3_35)))] → W p l e ({ frames := 4, cells := 0, slots := 0, locals := 96 } : Room) s m ([.ref (p0a 0), .ref (p1a 0), .int p2] : List Value).toArray below meth c H locs 0 0 Q (F0 m 71 ls []) := by
          intro p0w_71 p1_2w_71 H locs ls hrun hP hD hK hS hl 
          unfold fX5_joinBlock_J71 at hrun
          refine lv_iload hx hb dX5_joinBlock_71 (lv_at hl 4 rfl) ?_
          have J107 : ∀ (p0w_107 : ST) (H : Heap) (locs : List Loc) (ls : Array Slot), (fX5_joinBlock_J107 (fX5_joinBlock_L35 p1l p2 p1_2n n_35) p1_2n v3_35 p1_2w_71 p0w_107) = some o35 → va_P (dC, dI) cls (List.flatten ([(oX5 (p0a 0) p0a p0k p0w_107 p0l), (oX1 (p1a 0) p1a p1k p1n p1w p1l), (oX9 (p1a 3) p1_2a p1_2k p1_2n p1_2w_71)] : List va_W)) H → va_D A (List.flatten ([(oX5 (p0a 0) p0a p0k p0w_107 p0l), (oX1 (p1a 0) p1a p1k p1n p1w p1l), (oX9 (p1a 3) p1_2a p1_2k p1_2n p1_2w_71)] : List va_W)) → va_K (dC, dI) cls (List.flatten ([(tX5 p0k), (tX1 p1k), (tX9 p1_2k)] : List (List (ClassId × FieldType)))) s → va_S A s.heap H locs → lv_has ls 5 [(0, .ref (p0a 0)), (1, .ref (p1a 0)), (2, .int p2), (3, .int v3_35)] → W p l e ({ frames := 4, cells := 0, slots := 0, locals := 96 } : Room) s m ([.ref (p0a 0), .ref (p1a 0), .int p2] : List Value).toArray below meth c H locs 0 0 Q (F0 m 107 ls []) := by
            intro p0w_107 H locs ls hrun hP hD hK hS hl 
            unfold fX5_joinBlock_J107 at hrun
            refine lv_aload_n hx hb dX5_joinBlock_107 rfl (lv_at hl 1 rfl) ?_
            refine va_get (D := (dC, dI)) (ci := 4) (v := .ref (p1a 3)) (C := RX1) (T := TX1) (N := 21) hx hb hts i_X1 hown hK hP 10 rfl rfl 2 (by decide) (hts _ qw435) (fun _ h9 => h9) rfl dX5_joinBlock_108 ?_
            refine va_get (D := (dC, dI)) (ci := 3) (v := .ref (p1_2a 6)) (C := RX9) (T := TX9) (N := 6) hx hb hts i_X9 hown hK hP 28 rfl rfl 5 (by decide) (hts _ qw437) (fun _ h9 => h9) rfl dX5_joinBlock_111 ?_
            refine lv_iload_n hx hb dX5_joinBlock_114 rfl (lv_at hl 3 rfl) ?_
            obtain ⟨hq11, hrun⟩ := chk9 hrun
            refine va_iald hx hb hK hP 33 30 rfl rfl (ixb_in hq11) dX5_joinBlock_115 ?_
            refine lv_istore_n (lv' := [(3, .int (p1_2w_71 6 (nn v3_35))), (0, .ref (p0a 0)), (1, .ref (p1a 0)), (2, .int p2)]) hx hb dX5_joinBlock_116 rfl hl (by decide) rfl (fun ls hl => ?_)
            refine lv_goto (tgt := 35) hx hb dX5_joinBlock_117 (by decide) ?_
            exact IH35 (p1_2w_71 6 (nn v3_35)) p0w_107 p1_2w_71 o35 _ _ _ hrun hP hD hK hS (lv_sub hl [1, 2, 3, 0] rfl) hk35
          rcases br9 hrun with ⟨hc12, hrun⟩ | ⟨hc12, hrun⟩
          · refine lv_if_lt (tgt := 107) hx hb dX5_joinBlock_73 (by decide) (fun _ => ?_) (fun c => absurd hc12 c)
            exact J107 p0w_71 _ _ _ hrun hP hD hK hS (lv_sub hl [0, 1, 2, 3] rfl)
          · refine lv_if_lt (tgt := 107) hx hb dX5_joinBlock_73 (by decide) (fun c => absurd c hc12) (fun _ => ?_)
            refine lv_aload_n hx hb dX5_joinBlock_76 rfl (lv_at hl 1 rfl) ?_
            refine va_get (D := (dC, dI)) (ci := 4) (v := .ref (p1a 3)) (C := RX1) (T := TX1) (N := 21) hx hb hts i_X1 hown hK hP 10 rfl rfl 2 (by decide) (hts _ qw435) (fun _ h9 => h9) rfl dX5_joinBlock_77 ?_
            refine va_get (D := (dC, dI)) (ci := 3) (v := .ref (p1_2a 2)) (C := RX9) (T := TX9) (N := 6) hx hb hts i_X9 hown hK hP 28 rfl rfl 1 (by decide) (hts _ qw420) (fun _ h9 => h9) rfl dX5_joinBlock_80 ?_
            refine lv_iload_n hx hb dX5_joinBlock_83 rfl (lv_at hl 3 rfl) ?_
            obtain ⟨hq13, hrun⟩ := chk9 hrun
            refine va_iald hx hb hK hP 29 26 rfl rfl (ixb_in hq13) dX5_joinBlock_84 ?_
            refine lv_bipush (v := 16) hx hb dX5_joinBlock_85 (by decide) ?_
            rcases br9 hrun with ⟨hc14, hrun⟩ | ⟨hc14, hrun⟩
            · refine lv_icmp_gt (tgt := 107) hx hb dX5_joinBlock_87 (by decide) (fun _ => ?_) (fun c => absurd hc14 c)
              exact J107 p0w_71 _ _ _ hrun hP hD hK hS (lv_sub hl [0, 1, 2, 3] rfl)
            · refine lv_icmp_gt (tgt := 107) hx hb dX5_joinBlock_87 (by decide) (fun c => absurd c hc14) (fun _ => ?_)
              refine lv_aload_n hx hb dX5_joinBlock_90 rfl (lv_at hl 0 rfl) ?_
              refine va_get (D := (dC, dI)) (ci := 7) (v := .ref (p0a 6)) (C := RX5) (T := TX5) (N := 12) hx hb hts i_X5 hown hK hP 0 rfl rfl 5 (by decide) (hts _ qw539) (fun _ h9 => h9) rfl dX5_joinBlock_91 ?_
              refine lv_iload hx hb dX5_joinBlock_94 (lv_at hl 4 rfl) ?_
              obtain ⟨hq15, hrun⟩ := chk9 hrun
              refine va_iald hx hb hK hP 5 4 rfl rfl (ixb_in hq15) dX5_joinBlock_96 ?_
              rcases br9 hrun with ⟨hc16, hrun⟩ | ⟨hc16, hrun⟩
              · refine lv_if_ge (tgt := 107) hx hb dX5_joinBlock_97 (by decide) (fun _ => ?_) (fun c => absurd hc16 c)
                exact J107 p0w_71 _ _ _ hrun hP hD hK hS (lv_sub hl [0, 1, 2, 3] rfl)
              · refine lv_if_ge (tgt := 107) hx hb dX5_joinBlock_97 (by decide) (fun c => absurd c hc16) (fun _ => ?_)
                refine lv_aload_n hx hb dX5_joinBlock_100 rfl (lv_at hl 0 rfl) ?_
                refine lv_aload_n hx hb dX5_joinBlock_101 rfl (lv_at hl 1 rfl) ?_
                refine lv_iload_n hx hb dX5_joinBlock_102 rfl (lv_at hl 2 rfl) ?_
                refine lv_iload_n hx hb dX5_joinBlock_103 rfl (lv_at hl 3 rfl) ?_
                obtain ⟨o_17, hc_17, hrun⟩ := bnd9 hrun
                have hPx : va_P (dC, dI) cls ((List.flatten ([(oX5 (p0a 0) p0a p0k p0w_71 p0l), (oX1 (p1a 0) p1a p1k p1n p1w p1l), (oX9 (p1a 3) p1_2a p1_2k p1_2n p1_2w_71)] : List va_W)) ++ (List.flatten ([] : List va_W))) H := vP_fa (vP_perm hP (bP (List.Perm.refl _)))
                have hDx : va_D A ((List.flatten ([(oX5 (p0a 0) p0a p0k p0w_71 p0l), (oX1 (p1a 0) p1a p1k p1n p1w p1l), (oX9 (p1a 3) p1_2a p1_2k p1_2n p1_2w_71)] : List va_W)) ++ (List.flatten ([] : List va_W))) := vD_fa (vD_perm hD (bP (List.Perm.refl _)))
                have hKx : va_K (dC, dI) cls ((List.flatten ([(tX5 p0k), (tX1 p1k), (tX9 p1_2k)] : List (List (ClassId × FieldType)))) ++ (List.flatten ([] : List (List (ClassId × FieldType))))) s := vK_fa (vK_perm hK (bP (List.Perm.refl _)))
                have hPc := vP_l hPx
                have hDc := vD_l hDx
                have hKc := vK_l hKx
                have hFc := vfree hDx hS hA
                refine va_callv (va_runV (As := [.ref (p1a 0), .int p2, .int v3_35]) (rest := []) ⟨hx, hb, hml, hown, hts⟩ (kX5_joinSeen l dC dI (p0a := p0a) (p0k := p0k) (p0w := p0w_71) (p0l := p0l) (p1a := p1a) (p1k := p1k) (p1n := p1n) (p1w := p1w) (p1l := p1l) (p2 := p2) (p3 := v3_35) (p1_2a := p1_2a) (p1_2k := p1_2k) (p1_2n := p1_2n) (p1_2w := p1_2w_71) (sz := _) (o := o_17) (hrun := hc_17)) (cwV 3 hts (gi_V qw561 qw562 qw563 qw442 (gi_z qw560)) rfl rfl rfl (by decide +kernel) ⟨Nat.le_of_ble_eq_true rfl, Nat.le_of_ble_eq_true rfl⟩) ⟨PRE.blind, va_recv hKc hPc (ci := 7) (q0 := 0) rfl rfl, PRE.of hE hS hFc hPc hKc hDc⟩ rfl rfl hl.1 rfl (lv_room (Nat.le_of_ble_eq_true rfl)) dX5_joinBlock_104 ⟨(Nat.le_of_ble_eq_true rfl), (Nat.le_of_ble_eq_true rfl)⟩) hS (fun q _ h => hFc q h) hFc (fun u t H locs ht hvm hw hB hz1 hk1 hS => ?_)
                obtain ⟨b1, b2, b3⟩ := hB
                rw [ht] at b1
                obtain ⟨hP, hD, hK⟩ := JOINC (wc := (List.flatten ([(oX5 (p0a 0) p0a p0k p0w_71 p0l), (oX1 (p1a 0) p1a p1k p1n p1w p1l), (oX9 (p1a 3) p1_2a p1_2k p1_2n p1_2w_71)] : List va_W))) (wr := (List.flatten ([] : List va_W))) (w1 := (List.flatten ([(oX5 (p0a 0) p0a p0k o_17 p0l), (oX1 (p1a 0) p1a p1k p1n p1w p1l), (oX9 (p1a 3) p1_2a p1_2k p1_2n p1_2w_71)] : List va_W))) (t1 := (List.flatten ([(tX5 p0k), (tX1 p1k), (tX9 p1_2k)] : List (List (ClassId × FieldType))))) hPx hDx hKx hk1 hFc b1 (va_K.moved hvm.symm b2) b3
                have hP : va_P (dC, dI) cls (List.flatten ([(oX5 (p0a 0) p0a p0k o_17 p0l), (oX1 (p1a 0) p1a p1k p1n p1w p1l), (oX9 (p1a 3) p1_2a p1_2k p1_2n p1_2w_71)] : List va_W)) H := vP_perm (vP_fb hP) (bP (List.Perm.refl _))
                have hD : va_D A (List.flatten ([(oX5 (p0a 0) p0a p0k o_17 p0l), (oX1 (p1a 0) p1a p1k p1n p1w p1l), (oX9 (p1a 3) p1_2a p1_2k p1_2n p1_2w_71)] : List va_W)) := vD_perm (vD_fb hD) (bP (List.Perm.refl _))
                have hK : va_K (dC, dI) cls (List.flatten ([(tX5 p0k), (tX1 p1k), (tX9 p1_2k)] : List (List (ClassId × FieldType)))) s := vK_perm (vK_fb hK) (bP (List.Perm.refl _))
                exact J107 o_17 _ _ _ hrun hP hD hK hS (lv_sub hl [0, 1, 2, 3] rfl)
        rcases br9 hrun with ⟨hc18, hrun⟩ | ⟨hc18, hrun⟩
        · refine lv_if_eq (tgt := 71) hx hb dX5_joinBlock_62 (by decide) (fun _ => ?_) (fun c => absurd hc18 c)
          exact J71 p0w_35 p1_2w_35 _ _ _ hrun hP hD hK hS (lv_sub hl [1, 2, 3, 4, 0] rfl)
        · refine lv_if_eq (tgt := 71) hx hb dX5_joinBlock_62 (by decide) (fun c => absurd c hc18) (fun _ => ?_)
          refine lv_aload_n hx hb dX5_joinBlock_65 rfl (lv_at hl 1 rfl) ?_
          refine lv_aload_n hx hb dX5_joinBlock_66 rfl (lv_at hl 2 rfl) ?_
          refine lv_iload_n hx hb dX5_joinBlock_67 rfl (lv_at hl 4 rfl) ?_
          obtain ⟨o_19, hc_19, hrun⟩ := bnd9 hrun
          have hPx : va_P (dC, dI) cls ((List.flatten ([(oX5 (p0a 0) p0a p0k p0w_35 p0l), (oX1 (p1a 0) p1a p1k p1n p1w p1l), (oX9 (p1a 3) p1_2a p1_2k p1_2n p1_2w_35)] : List va_W)) ++ (List.flatten ([] : List va_W))) H := vP_fa (vP_perm hP (bP (List.Perm.refl _)))
          have hDx : va_D A ((List.flatten ([(oX5 (p0a 0) p0a p0k p0w_35 p0l), (oX1 (p1a 0) p1a p1k p1n p1w p1l), (oX9 (p1a 3) p1_2a p1_2k p1_2n p1_2w_35)] : List va_W)) ++ (List.flatten ([] : List va_W))) := vD_fa (vD_perm hD (bP (List.Perm.refl _)))
          have hKx : va_K (dC, dI) cls ((List.flatten ([(tX5 p0k), (tX1 p1k), (tX9 p1_2k)] : List (List (ClassId × FieldType)))) ++ (List.flatten ([] : List (List (ClassId × FieldType))))) s := vK_fa (vK_perm hK (bP (List.Perm.refl _)))
          have hPc := vP_l hPx
          have hDc := vD_l hDx
          have hKc := vK_l hKx
          have hFc := vfree hDx hS hA
          refine va_callv (va_runV (As := [.ref (p1a 0), .int v3_35]) (rest := []) ⟨hx, hb, hml, hown, hts⟩ (kX5_joinOperator l dC dI (p0a := p0a) (p0k := p0k) (p0w := p0w_35) (p0l := p0l) (p1a := p1a) (p1k := p1k) (p1n := p1n) (p1w := p1w) (p1l := p1l) (p2 := v3_35) (p1_2a := p1_2a) (p1_2k := p1_2k) (p1_2n := p1_2n) (p1_2w := p1_2w_35) (sz := _) (o := o_19) (hrun := hc_19)) (cwV 2 hts (gi_V qw580 qw581 qw582 qw442 (gi_z qw579)) rfl rfl rfl (by decide +kernel) ⟨Nat.le_of_ble_eq_true rfl, Nat.le_of_ble_eq_true rfl⟩) ⟨PRE.blind, va_recv hKc hPc (ci := 7) (q0 := 0) rfl rfl, PRE.of hE hS hFc hPc hKc hDc⟩ rfl rfl hl.1 rfl (lv_room (Nat.le_of_ble_eq_true rfl)) dX5_joinBlock_68 ⟨(Nat.le_of_ble_eq_true rfl), (Nat.le_of_ble_eq_true rfl)⟩) hS (fun q _ h => hFc q h) hFc (fun u t H locs ht hvm hw hB hz1 hk1 hS => ?_)
          obtain ⟨b1, b2, b3⟩ := hB
          rw [ht] at b1
          obtain ⟨hP, hD, hK⟩ := JOINC (wc := (List.flatten ([(oX5 (p0a 0) p0a p0k p0w_35 p0l), (oX1 (p1a 0) p1a p1k p1n p1w p1l), (oX9 (p1a 3) p1_2a p1_2k p1_2n p1_2w_35)] : List va_W))) (wr := (List.flatten ([] : List va_W))) (w1 := (List.flatten ([(oX5 (p0a 0) p0a p0k (o_19.1) p0l), (oX1 (p1a 0) p1a p1k p1n p1w p1l), (oX9 (p1a 3) p1_2a p1_2k p1_2n (o_19.2))] : List va_W))) (t1 := (List.flatten ([(tX5 p0k), (tX1 p1k), (tX9 p1_2k)] : List (List (ClassId × FieldType))))) hPx hDx hKx hk1 hFc b1 (va_K.moved hvm.symm b2) b3
          have hP : va_P (dC, dI) cls (List.flatten ([(oX5 (p0a 0) p0a p0k (o_19.1) p0l), (oX1 (p1a 0) p1a p1k p1n p1w p1l), (oX9 (p1a 3) p1_2a p1_2k p1_2n (o_19.2))] : List va_W)) H := vP_perm (vP_fb hP) (bP (List.Perm.refl _))
          have hD : va_D A (List.flatten ([(oX5 (p0a 0) p0a p0k (o_19.1) p0l), (oX1 (p1a 0) p1a p1k p1n p1w p1l), (oX9 (p1a 3) p1_2a p1_2k p1_2n (o_19.2))] : List va_W)) := vD_perm (vD_fb hD) (bP (List.Perm.refl _))
          have hK : va_K (dC, dI) cls (List.flatten ([(tX5 p0k), (tX1 p1k), (tX9 p1_2k)] : List (List (ClassId × FieldType)))) s := vK_perm (vK_fb hK) (bP (List.Perm.refl _))
          exact J71 (o_19.1) (o_19.2) _ _ _ hrun hP hD hK hS (lv_sub hl [1, 2, 3, 4, 0] rfl)
  obtain ⟨o35, hc35, hrun⟩ := bnd9 hrun
  refine L35 NF (p1w 4 (nn p2)) o7 p1_2w o35 _ _ _ hc35 hP hD hK hS (lv_sub hl [1, 2, 3, 0] rfl) ?_
  intro H locs ls hP hD hK hS hl
  have hl := hl
  have ho9 : ((o35.1), (o35.2)) = o := Option.some.inj hrun
  have hP9 : va_P (dC, dI) cls (List.flatten ([(oX5 (p0a 0) p0a p0k (o.1) p0l), (oX1 (p1a 0) p1a p1k p1n p1w p1l), (oX9 (p1a 3) p1_2a p1_2k p1_2n (o.2))] : List va_W)) H := by first | exact hP | (rw [← ho9]; exact hP)
  have hD9 : va_D A (List.flatten ([(oX5 (p0a 0) p0a p0k (o.1) p0l), (oX1 (p1a 0) p1a p1k p1n p1w p1l), (oX9 (p1a 3) p1_2a p1_2k p1_2n (o.2))] : List va_W)) := by first | exact hD | (rw [← ho9]; exact hD)
  subst hQ
  exact W.vret hx hb hr (fun t ht hW => ⟨⟨(), rfl, trivial, ⟨by rw [ht]; exact hP9, va_K.moved hW.alike hK, hD9⟩⟩, hS.F ht⟩) hS.2.2 dX5_joinBlock_120
def fX5_useStandIns_L31 (p0w : ST) (p1n : Nat → Nat) (v3_7 : Int32) (v4_23 : Int32) : Nat → Int32 → ST → Option ST
  | 0 => fun _ _ => none
  | n_31 + 1 => fun v5_31 p1w_31 => ((fX1_waysTo p1w_31 v3_7).bind fun (o_4 : Int32) => (if o_4 ≤ v5_31 then some p1w_31 else ((fX1_wayFrom p1w_31 v3_7 v5_31).bind fun (o_7 : Int32) => ((fX1_take p1n p1w_31 v4_23 o_7).bind fun (o_9 : Int32) => ((fX5_standInOf p0w o_9).bind fun (o_11 : Int32) => ((fX1_setTake p1n p1w_31 v4_23 o_7 o_11).bind fun (o_13 : ST) => ((fX5_useStandIns_L31 p0w p1n v3_7 v4_23 n_31) (v5_31 + 1) o_13)))))))
def fX5_useStandIns_L23 (p0w : ST) (p1n : Nat → Nat) (v3_7 : Int32) : Nat → Int32 → ST → Option ST
  | 0 => fun _ _ => none
  | n_23 + 1 => fun v4_23 p1w_23 => (if v4_23 < 0 then some p1w_23 else ((fX5_useStandIns_L31 p0w p1n v3_7 v4_23 NF 0 p1w_23).bind fun (o31 : ST) => (if ixb v4_23 (p1n 20) = true then ((fX5_useStandIns_L23 p0w p1n v3_7 n_23) (o31 20 (nn v4_23)) o31) else none)))
def fX5_useStandIns_J163 (kk96 : Int32 → ST → Option ST) (p1_2n : Nat → Nat) (v4_96 : Int32) (p1_2w_163 : ST) : Option ST := (if ixb v4_96 (p1_2n 6) = true then (kk96 (p1_2w_163 6 (nn v4_96)) p1_2w_163) else none)
def fX5_useStandIns_J132 (kk96 : Int32 → ST → Option ST) (p0w : ST) (p1_2n : Nat → Nat) (v4_96 : Int32) (p1_2w_132 : ST) : Option ST := (if ixb v4_96 (p1_2n 2) = true then ((fX11_usesRight (p1_2w_132 2 (nn v4_96))).bind fun (o_21 : Int32) => (if o_21 = 0 then (fX5_useStandIns_J163 kk96 p1_2n v4_96 p1_2w_132) else (if ixb v4_96 (p1_2n 5) = true then ((fX5_standInOf p0w (p1_2w_132 5 (nn v4_96))).bind fun (o_26 : Int32) => (if ixb v4_96 (p1_2n 5) = true then (lt9 (upw p1_2w_132 5 (nn v4_96) o_26) fun (w29 : ST) => (fX5_useStandIns_J163 kk96 p1_2n v4_96 w29)) else none)) else none))) else none)
def fX5_useStandIns_L96 (p0w : ST) (p1_2n : Nat → Nat) : Nat → Int32 → ST → Option ST
  | 0 => fun _ _ => none
  | n_96 + 1 => fun v4_96 p1_2w_96 => (if v4_96 < 0 then some p1_2w_96 else (if ixb v4_96 (p1_2n 2) = true then ((fX11_usesLeft (p1_2w_96 2 (nn v4_96))).bind fun (o_18 : Int32) => (if o_18 = 0 then (fX5_useStandIns_J132 (fX5_useStandIns_L96 p0w p1_2n n_96) p0w p1_2n v4_96 p1_2w_96) else (if ixb v4_96 (p1_2n 4) = true then ((fX5_standInOf p0w (p1_2w_96 4 (nn v4_96))).bind fun (o_32 : Int32) => (if ixb v4_96 (p1_2n 4) = true then (lt9 (upw p1_2w_96 4 (nn v4_96) o_32) fun (w35 : ST) => (fX5_useStandIns_J132 (fX5_useStandIns_L96 p0w p1_2n n_96) p0w p1_2n v4_96 w35)) else none)) else none))) else none))
def fX5_useStandIns_J200 (kk7 : Int32 → ST → ST → Option (ST × ST)) (v3_7 : Int32) (o96 : ST) (p1w_200 : ST) : Option (ST × ST) := (kk7 (v3_7 + 1) p1w_200 o96)
def fX5_useStandIns_L7 (p0w : ST) (p1n : Nat → Nat) (p1_2n : Nat → Nat) : Nat → Int32 → ST → ST → Option (ST × ST)
  | 0 => fun _ _ _ => none
  | n_7 + 1 => fun v3_7 p1w_7 p1_2w_7 => (if (p1w_7 0 0) ≤ v3_7 then some (p1w_7, p1_2w_7) else (if ixb v3_7 60 = true then ((fX5_useStandIns_L23 p0w p1n v3_7 NF (p1w_7 6 (nn v3_7)) p1w_7).bind fun (o23 : ST) => (if ixb v3_7 60 = true then ((fX5_useStandIns_L96 p0w p1_2n NF (o23 4 (nn v3_7)) p1_2w_7).bind fun (o96 : ST) => (if ixb v3_7 60 = true then (if (o23 9 (nn v3_7)) < 0 then (fX5_useStandIns_J200 (fX5_useStandIns_L7 p0w p1n p1_2n n_7) v3_7 o96 o23) else (if ixb v3_7 60 = true then ((fX5_standInOf p0w (o23 9 (nn v3_7))).bind fun (o_39 : Int32) => (if ixb v3_7 60 = true then (lt9 (upw o23 9 (nn v3_7) o_39) fun (w42 : ST) => (fX5_useStandIns_J200 (fX5_useStandIns_L7 p0w p1n p1_2n n_7) v3_7 o96 w42)) else none)) else none)) else none)) else none)) else none))
def fX5_useStandIns (p0w : ST) (p1n : Nat → Nat) (p1w : ST) (p1_2n : Nat → Nat) (p1_2w : ST) : Option (ST × ST) := ((fX5_useStandIns_L7 p0w p1n p1_2n NF 0 p1w p1_2w).bind fun (o7 : ST × ST) => some ((o7.1), (o7.2)))
set_option maxHeartbeats 16000000 in
set_option maxRecDepth 100000 in
theorem kX5_useStandIns {zs : ZS} (l : Launch) (dC : Nat → ClassId) (dI : Nat → Nat → Nat) (p0a : Nat → Nat) (p0k : Nat → ClassId) (p0w : ST) (p0l : SL) (p1a : Nat → Nat) (p1k : Nat → ClassId) (p1n : Nat → Nat) (p1w : ST) (p1l : SL) (p1_2a : Nat → Nat) (p1_2k : Nat → ClassId) (p1_2n : Nat → Nat) (p1_2w : ST) (sz : Nat) (o : ST × ST) (hrun : fX5_useStandIns p0w p1n p1w p1_2n p1_2w = some o) : Met l yX5_useStandIns (wz yX5_useStandIns cX5_useStandIns 7 (Option.none : Option Jvm.ClassFile.FieldType)) ({ frames := 2, cells := 0, slots := 0, locals := 40 } : Room) (va_Pc [.ref (p0a 0), .ref (p1a 0)] (PRE zs dC dI (List.flatten ([(oX5 (p0a 0) p0a p0k p0w p0l), (oX1 (p1a 0) p1a p1k p1n p1w p1l), (oX9 (p1a 3) p1_2a p1_2k p1_2n p1_2w)] : List va_W)) (List.flatten ([(tX5 p0k), (tX1 p1k), (tX9 p1_2k)] : List (List (ClassId × FieldType)))) sz)) (va_Qv (fun (_ : Unit) => True) (fun _ t => POST dC dI (List.flatten ([(oX5 (p0a 0) p0a p0k p0w p0l), (oX1 (p1a 0) p1a p1k p1n (o.1) p1l), (oX9 (p1a 3) p1_2a p1_2k p1_2n (o.2))] : List va_W)) (List.flatten ([(tX5 p0k), (tX1 p1k), (tX9 p1_2k)] : List (List (ClassId × FieldType)))) (va_A (List.flatten ([(oX5 (p0a 0) p0a p0k p0w p0l), (oX1 (p1a 0) p1a p1k p1n p1w p1l), (oX9 (p1a 3) p1_2a p1_2k p1_2n p1_2w)] : List va_W)) sz) t) (va_A (List.flatten ([(oX5 (p0a 0) p0a p0k p0w p0l), (oX1 (p1a 0) p1a p1k p1n p1w p1l), (oX9 (p1a 3) p1_2a p1_2k p1_2n p1_2w)] : List va_W)) sz)) 0 0 (va_A (List.flatten ([(oX5 (p0a 0) p0a p0k p0w p0l), (oX1 (p1a 0) p1a p1k p1n p1w p1l), (oX9 (p1a 3) p1_2a p1_2k p1_2n p1_2w)] : List va_W)) sz) := by
  refine Met.ofW (cc := cX5_useStandIns) (maxL := 7) (ret := (Option.none : Option Jvm.ClassFile.FieldType)) (by decide) rfl ?_
  intro p e s m args below meth c s₁ B hml hv
  obtain ⟨rfl, hsz, hP, hK, hD0, hE⟩ := hv
  have hx := B.exec
  have hb := B.bytes
  have hr := B.returns
  have hts0 := atoms_spec (ws := wz yX5_useStandIns cX5_useStandIns 7 (Option.none : Option Jvm.ClassFile.FieldType)) B.pre
  have hts : ∀ w ∈ gw, w.before _ s = true := fun w h => hts0 w (List.mem_cons_of_mem _ h)
  have hown : s.vm.findClass RX5 = some m.cls := findClass_of_methodNamed B.named
  have hlocks := B.notSynchronized
  subst hsz
  have hD := hD0.self (sz := s.heap.size)
  refine gQ9 ?_
  intro Q hQ
  generalize hAe : va_A (List.flatten ([(oX5 (p0a 0) p0a p0k p0w p0l), (oX1 (p1a 0) p1a p1k p1n p1w p1l), (oX9 (p1a 3) p1_2a p1_2k p1_2n p1_2w)] : List va_W)) s.heap.size = A at hD hE hQ
  have hA : ∀ q : Nat, s.heap.size ≤ q → A q := fun q h => by rw [← hAe]; exact Or.inr h
  have hS : va_S A s.heap s.heap [] := va_S.rf
  have hP : va_P (dC, dI) cls (List.flatten ([(oX5 (p0a 0) p0a p0k p0w p0l), (oX1 (p1a 0) p1a p1k p1n p1w p1l), (oX9 (p1a 3) p1_2a p1_2k p1_2n p1_2w)] : List va_W)) s.heap := hP
  have hl := lv_entry ([.ref (p0a 0), .ref (p1a 0)]) (n := 7) (Nat.le_of_ble_eq_true rfl)
  rw [lg_entry_eq]
  generalize (lg_sl ([.ref (p0a 0), .ref (p1a 0)]) ++ List.replicate (7 - (lg_sl ([.ref (p0a 0), .ref (p1a 0)])).length) Slot.unset).toArray = ls at hl ⊢
  have hl : lv_has ls 7 [(0, .ref (p0a 0)), (1, .ref (p1a 0))] := hl
  obtain ⟨H, hHe⟩ : ∃ H, H = s.heap := ⟨_, rfl⟩
  obtain ⟨locs, hle⟩ : ∃ locs : List Loc, locs = [] := ⟨_, rfl⟩
  rw [← hHe] at hP
  have hS : va_S A s.heap H locs := by rw [hHe, hle]; exact hS
  show W p l e ({ frames := 2, cells := 0, slots := 0, locals := 40 } : Room) s m ([.ref (p0a 0), .ref (p1a 0)] : List Value).toArray below meth c s.heap [] 0 0 Q (F0 m 0 ls [])
  rw [← hle]
  refine wH9 hHe ?_
  unfold fX5_useStandIns at hrun
  refine lv_aload_n hx hb dX5_useStandIns_0 rfl (lv_at hl 1 rfl) ?_
  refine va_get (D := (dC, dI)) (ci := 4) (v := .ref (p1a 3)) (C := RX1) (T := TX1) (N := 21) hx hb hts i_X1 hown hK hP 10 rfl rfl 2 (by decide) (hts _ qw435) (fun _ h9 => h9) rfl dX5_useStandIns_1 ?_
  refine lv_astore_n (lv' := [(2, .ref (p1a 3)), (0, .ref (p0a 0)), (1, .ref (p1a 0))]) hx hb dX5_useStandIns_4 rfl hl (by decide) rfl (fun ls hl => ?_)
  refine lv_iconst (v := 0) hx hb dX5_useStandIns_5 (by decide) ?_
  refine lv_istore_n (lv' := [(3, .int 0), (2, .ref (p1a 3)), (0, .ref (p0a 0)), (1, .ref (p1a 0))]) hx hb dX5_useStandIns_6 rfl hl (by decide) rfl (fun ls hl => ?_)
  have L7 : ∀ (n_7 : Nat) (v3_7 : Int32) (p1w_7 : ST) (p1_2w_7 : ST) (o7 : ST × ST) (H : Heap) (locs : List Loc) (ls : Array Slot), (fX5_useStandIns_L7 p0w p1n p1_2n n_7) v3_7 p1w_7 p1_2w_7 = some o7 → va_P (dC, dI) cls (List.flatten ([(oX5 (p0a 0) p0a p0k p0w p0l), (oX1 (p1a 0) p1a p1k p1n p1w_7 p1l), (oX9 (p1a 3) p1_2a p1_2k p1_2n p1_2w_7)] : List va_W)) H → va_D A (List.flatten ([(oX5 (p0a 0) p0a p0k p0w p0l), (oX1 (p1a 0) p1a p1k p1n p1w_7 p1l), (oX9 (p1a 3) p1_2a p1_2k p1_2n p1_2w_7)] : List va_W)) → va_K (dC, dI) cls (List.flatten ([(tX5 p0k), (tX1 p1k), (tX9 p1_2k)] : List (List (ClassId × FieldType)))) s → va_S A s.heap H locs → lv_has ls 7 [(0, .ref (p0a 0)), (1, .ref (p1a 0)), (2, .ref (p1a 3)), (3, .int v3_7)] → (∀ (H : Heap) (locs : List Loc) (ls : Array Slot), va_P (dC, dI) cls (List.flatten ([(oX5 (p0a 0) p0a p0k p0w p0l), (oX1 (p1a 0) p1a p1k p1n (o7.1) p1l), (oX9 (p1a 3) p1_2a p1_2k p1_2n (o7.2))] : List va_W)) H → va_D A (List.flatten ([(oX5 (p0a 0) p0a p0k p0w p0l), (oX1 (p1a 0) p1a p1k p1n (o7.1) p1l), (oX9 (p1a 3) p1_2a p1_2k p1_2n (o7.2))] : List va_W)) → va_K (dC, dI) cls (List.flatten ([(tX5 p0k), (tX1 p1k), (tX9 p1_2k)] : List (List (ClassId × FieldType)))) s → va_S A s.heap H locs → lv_has ls 7 [] → W p l e ({ frames := 2, cells := 0, slots := 0, locals := 40 } : Room) s m ([.ref (p0a 0), .ref (p1a 0)] : List Value).toArray below meth c H locs 0 0 Q (F0 m 206 ls [])) → W p l e ({ frames := 2, cells := 0, slots := 0, locals := 40 } : Room) s m ([.ref (p0a 0), .ref (p1a 0)] : List Value).toArray below meth c H locs 0 0 Q (F0 m 7 ls []) := by
    intro n_7
    induction n_7 with
    | zero => intro v3_7 p1w_7 p1_2w_7 o7 H locs ls hrun; exact (no9 rfl hrun).elim
    | succ n_7 IH7 =>
      intro v3_7 p1w_7 p1_2w_7 o7 H locs ls hrun hP hD hK hS hl hk7
      unfold fX5_useStandIns_L7 at hrun
      refine lv_iload_n hx hb dX5_useStandIns_7 rfl (lv_at hl 3 rfl) ?_
      refine lv_aload_n hx hb dX5_useStandIns_8 rfl (lv_at hl 1 rfl) ?_
      refine va_get (D := (dC, dI)) (ci := 4) (v := .int (p1w_7 0 0)) (C := RX1) (T := TX1) (N := 21) hx hb hts i_X1 hown hK hP 10 rfl rfl 0 (by decide) (hts _ qw430) (fun _ h9 => h9) rfl dX5_useStandIns_9 ?_
      rcases br9 hrun with ⟨hc1, hrun⟩ | ⟨hc1, hrun⟩
      · refine lv_icmp_ge (tgt := 206) hx hb dX5_useStandIns_12 (by decide) (fun _ => ?_) (fun c => absurd hc1 c)
        obtain rfl := (Option.some.inj hrun)
        exact hk7 _ _ _ hP hD hK hS (lv_sub hl [] rfl)
      · refine lv_icmp_ge (tgt := 206) hx hb dX5_useStandIns_12 (by decide) (fun c => absurd c hc1) (fun _ => ?_)
        refine lv_aload_n hx hb dX5_useStandIns_15 rfl (lv_at hl 1 rfl) ?_
        refine va_get (D := (dC, dI)) (ci := 4) (v := .ref (p1a 6)) (C := RX1) (T := TX1) (N := 21) hx hb hts i_X1 hown hK hP 10 rfl rfl 5 (by decide) (hts _ qw431) (fun _ h9 => h9) rfl dX5_useStandIns_16 ?_
        refine lv_iload_n hx hb dX5_useStandIns_19 rfl (lv_at hl 3 rfl) ?_
        obtain ⟨hq2, hrun⟩ := chk9 hrun
        refine va_iald hx hb hK hP 13 11 rfl rfl (ixb_in hq2) dX5_useStandIns_20 ?_
        refine lv_istore (lv' := [(4, .int (p1w_7 6 (nn v3_7))), (0, .ref (p0a 0)), (1, .ref (p1a 0)), (2, .ref (p1a 3)), (3, .int v3_7)]) hx hb dX5_useStandIns_21 hl (by decide) rfl (fun ls hl => ?_)
        have L23 : ∀ (n_23 : Nat) (v4_23 : Int32) (p1w_23 : ST) (o23 : ST) (H : Heap) (locs : List Loc) (ls : Array Slot), (fX5_useStandIns_L23 p0w p1n v3_7 n_23) v4_23 p1w_23 = some o23 → va_P (dC, dI) cls (List.flatten ([(oX5 (p0a 0) p0a p0k p0w p0l), (oX1 (p1a 0) p1a p1k p1n p1w_23 p1l), (oX9 (p1a 3) p1_2a p1_2k p1_2n p1_2w_7)] : List va_W)) H → va_D A (List.flatten ([(oX5 (p0a 0) p0a p0k p0w p0l), (oX1 (p1a 0) p1a p1k p1n p1w_23 p1l), (oX9 (p1a 3) p1_2a p1_2k p1_2n p1_2w_7)] : List va_W)) → va_K (dC, dI) cls (List.flatten ([(tX5 p0k), (tX1 p1k), (tX9 p1_2k)] : List (List (ClassId × FieldType)))) s → va_S A s.heap H locs → lv_has ls 7 [(0, .ref (p0a 0)), (1, .ref (p1a 0)), (2, .ref (p1a 3)), (3, .int v3_7), (4, .int v4_23)] → (∀ (H : Heap) (locs : List Loc) (ls : Array Slot), va_P (dC, dI) cls (List.flatten ([(oX5 (p0a 0) p0a p0k p0w p0l), (oX1 (p1a 0) p1a p1k p1n o23 p1l), (oX9 (p1a 3) p1_2a p1_2k p1_2n p1_2w_7)] : List va_W)) H → va_D A (List.flatten ([(oX5 (p0a 0) p0a p0k p0w p0l), (oX1 (p1a 0) p1a p1k p1n o23 p1l), (oX9 (p1a 3) p1_2a p1_2k p1_2n p1_2w_7)] : List va_W)) → va_K (dC, dI) cls (List.flatten ([(tX5 p0k), (tX1 p1k), (tX9 p1_2k)] : List (List (ClassId × FieldType)))) s → va_S A s.heap H locs → lv_has ls 7 [(0, .ref (p0a 0)), (1, .ref (p1a 0)), (2, .ref (p1a 3)), (3, .int v3_7)] → W p l e ({ frames := 2, cells := 0, slots := 0, locals := 40 } : Room) s m ([.ref (p0a 0), .ref (p1a 0)] : List Value).toArray below meth c H locs 0 0 Q (F0 m 88 ls [])) → W p l e ({ frames := 2, cells := 0, slots := 0, locals := 40 } : Room) s m ([.ref (p0a 0), .ref (p1a 0)] : List Value).toArray below meth c H locs 0 0 Q (F0 m 23 ls []) := by
          intro n_23
          induction n_23 with
          | zero => intro v4_23 p1w_23 o23 H locs ls hrun; exact (no9 rfl hrun).elim
          | succ n_23 IH23 =>
            intro v4_23 p1w_23 o23 H locs ls hrun hP hD hK hS hl hk23
            unfold fX5_useStandIns_L23 at hrun
            refine lv_iload hx hb dX5_useStandIns_23 (lv_at hl 4 rfl) ?_
            rcases br9 hrun with ⟨hc3, hrun⟩ | ⟨hc3, hrun⟩
            · refine lv_if_lt (tgt := 88) hx hb dX5_useStandIns_25 (by decide) (fun _ => ?_) (fun c => absurd hc3 c)
              obtain rfl := (Option.some.inj hrun)
              exact hk23 _ _ _ hP hD hK hS (lv_sub hl [0, 1, 2, 3] rfl)
            · refine lv_if_lt (tgt := 88) hx hb dX5_useStandIns_25 (by decide) (fun c => absurd c hc3) (fun _ => ?_)
              refine lv_iconst (v := 0) hx hb dX5_useStandIns_28 (by decide) ?_
              refine lv_istore (lv' := [(5, .int 0), (0, .ref (p0a 0)), (1, .ref (p1a 0)), (2, .ref (p1a 3)), (3, .int v3_7), (4, .int v4_23)]) hx hb dX5_useStandIns_29 hl (by decide) rfl (fun ls hl => ?_)
              have L31 : ∀ (n_31 : Nat) (v5_31 : Int32) (p1w_31 : ST) (o31 : ST) (H : Heap) (locs : List Loc) (ls : Array Slot), (fX5_useStandIns_L31 p0w p1n v3_7 v4_23 n_31) v5_31 p1w_31 = some o31 → va_P (dC, dI) cls (List.flatten ([(oX5 (p0a 0) p0a p0k p0w p0l), (oX1 (p1a 0) p1a p1k p1n p1w_31 p1l), (oX9 (p1a 3) p1_2a p1_2k p1_2n p1_2w_7)] : List va_W)) H → va_D A (List.flatten ([(oX5 (p0a 0) p0a p0k p0w p0l), (oX1 (p1a 0) p1a p1k p1n p1w_31 p1l), (oX9 (p1a 3) p1_2a p1_2k p1_2n p1_2w_7)] : List va_W)) → va_K (dC, dI) cls (List.flatten ([(tX5 p0k), (tX1 p1k), (tX9 p1_2k)] : List (List (ClassId × FieldType)))) s → va_S A s.heap H locs → lv_has ls 7 [(0, .ref (p0a 0)), (1, .ref (p1a 0)), (2, .ref (p1a 3)), (3, .int v3_7), (4, .int v4_23), (5, .int v5_31)] → (∀ (H : Heap) (locs : List Loc) (ls : Array Slot), va_P (dC, dI) cls (List.flatten ([(oX5 (p0a 0) p0a p0k p0w p0l), (oX1 (p1a 0) p1a p1k p1n o31 p1l), (oX9 (p1a 3) p1_2a p1_2k p1_2n p1_2w_7)] : List va_W)) H → va_D A (List.flatten ([(oX5 (p0a 0) p0a p0k p0w p0l), (oX1 (p1a 0) p1a p1k p1n o31 p1l), (oX9 (p1a 3) p1_2a p1_2k p1_2n p1_2w_7)] : List va_W)) → va_K (dC, dI) cls (List.flatten ([(tX5 p0k), (tX1 p1k), (tX9 p1_2k)] : List (List (ClassId × FieldType)))) s → va_S A s.heap H locs → lv_has ls 7 [(0, .ref (p0a 0)), (1, .ref (p1a 0)), (2, .ref (p1a 3)), (3, .int v3_7), (4, .int v4_23)] → W p l e ({ frames := 2, cells := 0, slots := 0, locals := 40 } : Room) s m ([.ref (p0a 0), .ref (p1a 0)] : List Value).toArray below meth c H locs 0 0 Q (F0 m 76 ls [])) → W p l e ({ frames := 2, cells := 0, slots := 0, locals := 40 } : Room) s m ([.ref (p0a 0), .ref (p1a 0)] : List Value).toArray below meth c H locs 0 0 Q (F0 m 31 ls []) := by
                intro n_31
                induction n_31 with
                | zero => intro v5_31 p1w_31 o31 H locs ls hrun; exact (no9 rfl hrun).elim
                | succ n_31 IH31 =>
                  intro v5_31 p1w_31 o31 H locs ls hrun hP hD hK hS hl hk31
                  unfold fX5_useStandIns_L31 at hrun
                  refine lv_iload hx hb dX5_useStandIns_31 (lv_at hl 5 rfl) ?_
                  refine lv_aload_n hx hb dX5_useStandIns_33 rfl (lv_at hl 1 rfl) ?_
                  refine lv_iload_n hx hb dX5_useStandIns_34 rfl (lv_at hl 3 rfl) ?_
                  obtain ⟨o_4, hc_4, hrun⟩ := bnd9 hrun
                  have hPx : va_P (dC, dI) cls ((List.flatten ([(oX1 (p1a 0) p1a p1k p1n p1w_31 p1l)] : List va_W)) ++ (List.flatten ([(oX5 (p0a 0) p0a p0k p0w p0l), (oX9 (p1a 3) p1_2a p1_2k p1_2n p1_2w_7)] : List va_W))) H := vP_fa (vP_perm hP (bP ((((List.Perm.refl _)).cons _).trans (List.Perm.swap _ _ _))))
                  have hDx : va_D A ((List.flatten ([(oX1 (p1a 0) p1a p1k p1n p1w_31 p1l)] : List va_W)) ++ (List.flatten ([(oX5 (p0a 0) p0a p0k p0w p0l), (oX9 (p1a 3) p1_2a p1_2k p1_2n p1_2w_7)] : List va_W))) := vD_fa (vD_perm hD (bP ((((List.Perm.refl _)).cons _).trans (List.Perm.swap _ _ _))))
                  have hKx : va_K (dC, dI) cls ((List.flatten ([(tX1 p1k)] : List (List (ClassId × FieldType)))) ++ (List.flatten ([(tX5 p0k), (tX9 p1_2k)] : List (List (ClassId × FieldType))))) s := vK_fa (vK_perm hK (bP ((((List.Perm.refl _)).cons _).trans (List.Perm.swap _ _ _))))
                  have hPc := vP_l hPx
                  have hDc := vD_l hDx
                  have hKc := vK_l hKx
                  have hFc := vfree hDx hS hA
                  refine va_calli (va_runV (As := [.int v3_7]) (rest := [.int v5_31]) ⟨hx, hb, hml, hown, hts⟩ (kX1_waysTo l dC dI (p0a := p1a) (p0k := p1k) (p0n := p1n) (p0w := p1w_31) (p0l := p1l) (p1 := v3_7) (sz := _) (o := o_4) (hrun := hc_4)) (cwV 1 hts (gi_V qw423 qw185 qw186 qw126 (gi_z qw183)) rfl rfl rfl (by decide +kernel) ⟨Nat.le_of_ble_eq_true rfl, Nat.le_of_ble_eq_true rfl⟩) ⟨PRE.blind, va_recv hKc hPc (ci := 4) (q0 := 0) rfl rfl, PRE.of hE hS hFc hPc hKc hDc⟩ rfl rfl hl.1 rfl (lv_room (Nat.le_of_ble_eq_true rfl)) dX5_useStandIns_35 ⟨(Nat.le_of_ble_eq_true rfl), (Nat.le_of_ble_eq_true rfl)⟩) hS (fun q _ h => hFc q h) hFc (fun r5 u t H locs ht hvm hw hB hz1 hk1 hS => ?_)
                  obtain ⟨b1, b2, b3⟩ := hB
                  rw [ht] at b1
                  obtain ⟨hP, hD, hK⟩ := JOINC (wc := (List.flatten ([(oX1 (p1a 0) p1a p1k p1n p1w_31 p1l)] : List va_W))) (wr := (List.flatten ([(oX5 (p0a 0) p0a p0k p0w p0l), (oX9 (p1a 3) p1_2a p1_2k p1_2n p1_2w_7)] : List va_W))) (w1 := (List.flatten ([(oX1 (p1a 0) p1a p1k p1n p1w_31 p1l)] : List va_W))) (t1 := (List.flatten ([(tX1 p1k)] : List (List (ClassId × FieldType))))) hPx hDx hKx hk1 hFc b1 (va_K.moved hvm.symm b2) b3
                  have hP : va_P (dC, dI) cls (List.flatten ([(oX5 (p0a 0) p0a p0k p0w p0l), (oX1 (p1a 0) p1a p1k p1n p1w_31 p1l), (oX9 (p1a 3) p1_2a p1_2k p1_2n p1_2w_7)] : List va_W)) H := vP_perm (vP_fb hP) (bP ((((List.Perm.refl _)).cons _).trans (List.Perm.swap _ _ _)))
                  have hD : va_D A (List.flatten ([(oX5 (p0a 0) p0a p0k p0w p0l), (oX1 (p1a 0) p1a p1k p1n p1w_31 p1l), (oX9 (p1a 3) p1_2a p1_2k p1_2n p1_2w_7)] : List va_W)) := vD_perm (vD_fb hD) (bP ((((List.Perm.refl _)).cons _).trans (List.Perm.swap _ _ _)))
                  have hK : va_K (dC, dI) cls (List.flatten ([(tX5 p0k), (tX1 p1k), (tX9 p1_2k)] : List (List (ClassId × FieldType)))) s := vK_perm (vK_fb hK) (bP ((((List.Perm.refl _)).cons _).trans (List.Perm.swap _ _ _)))
                  obtain rfl : o_4 = r5 := hw.symm
                  rcases br9 hrun with ⟨hc6, hrun⟩ | ⟨hc6, hrun⟩
                  · refine lv_icmp_ge (tgt := 76) hx hb dX5_useStandIns_38 (by decide) (fun _ => ?_) (fun c => absurd hc6 c)
                    obtain rfl := (Option.some.inj hrun)
                    exact hk31 _ _ _ hP hD hK hS (lv_sub hl [0, 1, 2, 3, 4] rfl)
                  · refine lv_icmp_ge (tgt := 76) hx hb dX5_useStandIns_38 (by decide) (fun c => absurd c hc6) (fun _ => ?_)
                    refine lv_aload_n hx hb dX5_useStandIns_41 rfl (lv_at hl 1 rfl) ?_
                    refine lv_iload_n hx hb dX5_useStandIns_42 rfl (lv_at hl 3 rfl) ?_
                    refine lv_iload hx hb dX5_useStandIns_43 (lv_at hl 5 rfl) ?_
                    obtain ⟨o_7, hc_7, hrun⟩ := bnd9 hrun
                    have hPx : va_P (dC, dI) cls ((List.flatten ([(oX1 (p1a 0) p1a p1k p1n p1w_31 p1l)] : List va_W)) ++ (List.flatten ([(oX5 (p0a 0) p0a p0k p0w p0l), (oX9 (p1a 3) p1_2a p1_2k p1_2n p1_2w_7)] : List va_W))) H := vP_fa (vP_perm hP (bP ((((List.Perm.refl _)).cons _).trans (List.Perm.swap _ _ _))))
                    have hDx : va_D A ((List.flatten ([(oX1 (p1a 0) p1a p1k p1n p1w_31 p1l)] : List va_W)) ++ (List.flatten ([(oX5 (p0a 0) p0a p0k p0w p0l), (oX9 (p1a 3) p1_2a p1_2k p1_2n p1_2w_7)] : List va_W))) := vD_fa (vD_perm hD (bP ((((List.Perm.refl _)).cons _).trans (List.Perm.swap _ _ _))))
                    have hKx : va_K (dC, dI) cls ((List.flatten ([(tX1 p1k)] : List (List (ClassId × FieldType)))) ++ (List.flatten ([(tX5 p0k), (tX9 p1_2k)] : List (List (ClassId × FieldType))))) s := vK_fa (vK_perm hK (bP ((((List.Perm.refl _)).cons _).trans (List.Perm.swap _ _ _))))
                    have hPc := vP_l hPx
                    have hDc := vD_l hDx
                    have hKc := vK_l hKx
                    have hFc := vfree hDx hS hA
                    refine va_calli (va_runV (As := [.int v3_7, .int v5_31]) (rest := []) ⟨hx, hb, hml, hown, hts⟩ (kX1_wayFrom l dC dI (p0a := p1a) (p0k := p1k) (p0n := p1n) (p0w := p1w_31) (p0l := p1l) (p1 := v3_7) (p2 := v5_31) (sz := _) (o := o_7) (hrun := hc_7)) (cwV 2 hts (gi_V qw424 qw189 qw190 qw126 (gi_z qw187)) rfl rfl rfl (by decide +kernel) ⟨Nat.le_of_ble_eq_true rfl, Nat.le_of_ble_eq_true rfl⟩) ⟨PRE.blind, va_recv hKc hPc (ci := 4) (q0 := 0) rfl rfl, PRE.of hE hS hFc hPc hKc hDc⟩ rfl rfl hl.1 rfl (lv_room (Nat.le_of_ble_eq_true rfl)) dX5_useStandIns_45 ⟨(Nat.le_of_ble_eq_true rfl), (Nat.le_of_ble_eq_true rfl)⟩) hS (fun q _ h => hFc q h) hFc (fun r8 u t H locs ht hvm hw hB hz1 hk1 hS => ?_)
                    obtain ⟨b1, b2, b3⟩ := hB
                    rw [ht] at b1
                    obtain ⟨hP, hD, hK⟩ := JOINC (wc := (List.flatten ([(oX1 (p1a 0) p1a p1k p1n p1w_31 p1l)] : List va_W))) (wr := (List.flatten ([(oX5 (p0a 0) p0a p0k p0w p0l), (oX9 (p1a 3) p1_2a p1_2k p1_2n p1_2w_7)] : List va_W))) (w1 := (List.flatten ([(oX1 (p1a 0) p1a p1k p1n p1w_31 p1l)] : List va_W))) (t1 := (List.flatten ([(tX1 p1k)] : List (List (ClassId × FieldType))))) hPx hDx hKx hk1 hFc b1 (va_K.moved hvm.symm b2) b3
                    have hP : va_P (dC, dI) cls (List.flatten ([(oX5 (p0a 0) p0a p0k p0w p0l), (oX1 (p1a 0) p1a p1k p1n p1w_31 p1l), (oX9 (p1a 3) p1_2a p1_2k p1_2n p1_2w_7)] : List va_W)) H := vP_perm (vP_fb hP) (bP ((((List.Perm.refl _)).cons _).trans (List.Perm.swap _ _ _)))
                    have hD : va_D A (List.flatten ([(oX5 (p0a 0) p0a p0k p0w p0l), (oX1 (p1a 0) p1a p1k p1n p1w_31 p1l), (oX9 (p1a 3) p1_2a p1_2k p1_2n p1_2w_7)] : List va_W)) := vD_perm (vD_fb hD) (bP ((((List.Perm.refl _)).cons _).trans (List.Perm.swap _ _ _)))
                    have hK : va_K (dC, dI) cls (List.flatten ([(tX5 p0k), (tX1 p1k), (tX9 p1_2k)] : List (List (ClassId × FieldType)))) s := vK_perm (vK_fb hK) (bP ((((List.Perm.refl _)).cons _).trans (List.Perm.swap _ _ _)))
                    obtain rfl : o_7 = r8 := hw.symm
                    refine lv_istore (lv' := [(6, .int o_7), (0, .ref (p0a 0)), (1, .ref (p1a 0)), (2, .ref (p1a 3)), (3, .int v3_7), (4, .int v4_23), (5, .int v5_31)]) hx hb dX5_useStandIns_48 hl (by decide) rfl (fun ls hl => ?_)
                    refine lv_aload_n hx hb dX5_useStandIns_50 rfl (lv_at hl 2 rfl) ?_
                    refine lv_iload hx hb dX5_useStandIns_51 (lv_at hl 5 rfl) ?_
                    refine lv_iload hx hb dX5_useStandIns_53 (lv_at hl 0 rfl) ?_
                    refine lv_aload_n hx hb dX5_useStandIns_55 rfl (lv_at hl 1 rfl) ?_
                    refine lv_aload_n hx hb dX5_useStandIns_56 rfl (lv_at hl 2 rfl) ?_
                    refine lv_iload hx hb dX5_useStandIns_57 (lv_at hl 5 rfl) ?_
                    refine lv_iload hx hb dX5_useStandIns_59 (lv_at hl 0 rfl) ?_
                    obtain ⟨o_9, hc_9, hrun⟩ := bnd9 hrun
                    have hPx : va_P (dC, dI) cls ((List.flatten ([(oX1 (p1a 0) p1a p1k p1n p1w_31 p1l)] : List va_W)) ++ (List.flatten ([(oX5 (p0a 0) p0a p0k p0w p0l), (oX9 (p1a 3) p1_2a p1_2k p1_2n p1_2w_7)] : List va_W))) H := vP_fa (vP_perm hP (bP ((((List.Perm.refl _)).cons _).trans (List.Perm.swap _ _ _))))
                    have hDx : va_D A ((List.flatten ([(oX1 (p1a 0) p1a p1k p1n p1w_31 p1l)] : List va_W)) ++ (List.flatten ([(oX5 (p0a 0) p0a p0k p0w p0l), (oX9 (p1a 3) p1_2a p1_2k p1_2n p1_2w_7)] : List va_W))) := vD_fa (vD_perm hD (bP ((((List.Perm.refl _)).cons _).trans (List.Perm.swap _ _ _))))
                    have hKx : va_K (dC, dI) cls ((List.flatten ([(tX1 p1k)] : List (List (ClassId × FieldType)))) ++ (List.flatten ([(tX5 p0k), (tX9 p1_2k)] : List (List (ClassId × FieldType))))) s := vK_fa (vK_perm hK (bP ((((List.Perm.refl _)).cons _).trans (List.Perm.swap _ _ _))))
                    have hPc := vP_l hPx
                    have hDc := vD_l hDx
                    have hKc := vK_l hKx
                    have hFc := vfree hDx hS hA
                    refine va_calli (va_runV (As := [.int v4_23, .int o_7]) (rest := [.ref (p0a 0), .int o_7, .int v4_23, .ref (p1a 0)]) ⟨hx, hb, hml, hown, hts⟩ (kX1_take l dC dI (p0a := p1a) (p0k := p1k) (p0n := p1n) (p0w := p1w_31) (p0l := p1l) (p1 := v4_23) (p2 := o_7) (sz := _) (o := o_9) (hrun := hc_9)) (cwV 2 hts (gi_V qw469 qw470 qw471 qw126 (gi_z qw468)) rfl rfl rfl (by decide +kernel) ⟨Nat.le_of_ble_eq_true rfl, Nat.le_of_ble_eq_true rfl⟩) ⟨PRE.blind, va_recv hKc hPc (ci := 4) (q0 := 0) rfl rfl, PRE.of hE hS hFc hPc hKc hDc⟩ rfl rfl hl.1 rfl (lv_room (Nat.le_of_ble_eq_true rfl)) dX5_useStandIns_61 ⟨(Nat.le_of_ble_eq_true rfl), (Nat.le_of_ble_eq_true rfl)⟩) hS (fun q _ h => hFc q h) hFc (fun r10 u t H locs ht hvm hw hB hz1 hk1 hS => ?_)
                    obtain ⟨b1, b2, b3⟩ := hB
                    rw [ht] at b1
                    obtain ⟨hP, hD, hK⟩ := JOINC (wc := (List.flatten ([(oX1 (p1a 0) p1a p1k p1n p1w_31 p1l)] : List va_W))) (wr := (List.flatten ([(oX5 (p0a 0) p0a p0k p0w p0l), (oX9 (p1a 3) p1_2a p1_2k p1_2n p1_2w_7)] : List va_W))) (w1 := (List.flatten ([(oX1 (p1a 0) p1a p1k p1n p1w_31 p1l)] : List va_W))) (t1 := (List.flatten ([(tX1 p1k)] : List (List (ClassId × FieldType))))) hPx hDx hKx hk1 hFc b1 (va_K.moved hvm.symm b2) b3
                    have hP : va_P (dC, dI) cls (List.flatten ([(oX5 (p0a 0) p0a p0k p0w p0l), (oX1 (p1a 0) p1a p1k p1n p1w_31 p1l), (oX9 (p1a 3) p1_2a p1_2k p1_2n p1_2w_7)] : List va_W)) H := vP_perm (vP_fb hP) (bP ((((List.Perm.refl _)).cons _).trans (List.Perm.swap _ _ _)))
                    have hD : va_D A (List.flatten ([(oX5 (p0a 0) p0a p0k p0w p0l), (oX1 (p1a 0) p1a p1k p1n p1w_31 p1l), (oX9 (p1a 3) p1_2a p1_2k p1_2n p1_2w_7)] : List va_W)) := vD_perm (vD_fb hD) (bP ((((List.Perm.refl _)).cons _).trans (List.Perm.swap _ _ _)))
                    have hK : va_K (dC, dI) cls (List.flatten ([(tX5 p0k), (tX1 p1k), (tX9 p1_2k)] : List (List (ClassId × FieldType)))) s := vK_perm (vK_fb hK) (bP ((((List.Perm.refl _)).cons _).trans (List.Perm.swap _ _ _)))
                    obtain rfl : o_9 = r10 := hw.symm
                    obtain ⟨o_11, hc_11, hrun⟩ := bnd9 hrun
                    have hPx : va_P (dC, dI) cls ((List.flatten ([(oX5 (p0a 0) p0a p0k p0w p0l)] : List va_W)) ++ (List.flatten ([(oX1 (p1a 0) p1a p1k p1n p1w_31 p1l), (oX9 (p1a 3) p1_2a p1_2k p1_2n p1_2w_7)] : List va_W))) H := vP_fa (vP_perm hP (bP (List.Perm.refl _)))
                    have hDx : va_D A ((List.flatten ([(oX5 (p0a 0) p0a p0k p0w p0l)] : List va_W)) ++ (List.flatten ([(oX1 (p1a 0) p1a p1k p1n p1w_31 p1l), (oX9 (p1a 3) p1_2a p1_2k p1_2n p1_2w_7)] : List va_W))) := vD_fa (vD_perm hD (bP (List.Perm.refl _)))
                    have hKx : va_K (dC, dI) cls ((List.flatten ([(tX5 p0k)] : List (List (ClassId × FieldType)))) ++ (List.flatten ([(tX1 p1k), (tX9 p1_2k)] : List (List (ClassId × FieldType))))) s := vK_fa (vK_perm hK (bP (List.Perm.refl _)))
                    have hPc := vP_l hPx
                    have hDc := vD_l hDx
                    have hKc := vK_l hKx
                    have hFc := vfree hDx hS hA
                    refine va_calli (va_runV (As := [.int o_9]) (rest := [.int o_7, .int v4_23, .ref (p1a 0)]) ⟨hx, hb, hml, hown, hts⟩ (kX5_standInOf l dC dI (p0a := p0a) (p0k := p0k) (p0w := p0w) (p0l := p0l) (p1 := o_9) (sz := _) (o := o_11) (hrun := hc_11)) (cwV 1 hts (gi_V qw541 qw542 qw543 qw442 (gi_z qw540)) rfl rfl rfl (by decide +kernel) ⟨Nat.le_of_ble_eq_true rfl, Nat.le_of_ble_eq_true rfl⟩) ⟨PRE.blind, va_recv hKc hPc (ci := 7) (q0 := 0) rfl rfl, PRE.of hE hS hFc hPc hKc hDc⟩ rfl rfl hl.1 rfl (lv_room (Nat.le_of_ble_eq_true rfl)) dX5_useStandIns_64 ⟨(Nat.le_of_ble_eq_true rfl), (Nat.le_of_ble_eq_true rfl)⟩) hS (fun q _ h => hFc q h) hFc (fun r12 u t H locs ht hvm hw hB hz1 hk1 hS => ?_)
                    obtain ⟨b1, b2, b3⟩ := hB
                    rw [ht] at b1
                    obtain ⟨hP, hD, hK⟩ := JOINC (wc := (List.flatten ([(oX5 (p0a 0) p0a p0k p0w p0l)] : List va_W))) (wr := (List.flatten ([(oX1 (p1a 0) p1a p1k p1n p1w_31 p1l), (oX9 (p1a 3) p1_2a p1_2k p1_2n p1_2w_7)] : List va_W))) (w1 := (List.flatten ([(oX5 (p0a 0) p0a p0k p0w p0l)] : List va_W))) (t1 := (List.flatten ([(tX5 p0k)] : List (List (ClassId × FieldType))))) hPx hDx hKx hk1 hFc b1 (va_K.moved hvm.symm b2) b3
                    have hP : va_P (dC, dI) cls (List.flatten ([(oX5 (p0a 0) p0a p0k p0w p0l), (oX1 (p1a 0) p1a p1k p1n p1w_31 p1l), (oX9 (p1a 3) p1_2a p1_2k p1_2n p1_2w_7)] : List va_W)) H := vP_perm (vP_fb hP) (bP (List.Perm.refl _))
                    have hD : va_D A (List.flatten ([(oX5 (p0a 0) p0a p0k p0w p0l), (oX1 (p1a 0) p1a p1k p1n p1w_31 p1l), (oX9 (p1a 3) p1_2a p1_2k p1_2n p1_2w_7)] : List va_W)) := vD_perm (vD_fb hD) (bP (List.Perm.refl _))
                    have hK : va_K (dC, dI) cls (List.flatten ([(tX5 p0k), (tX1 p1k), (tX9 p1_2k)] : List (List (ClassId × FieldType)))) s := vK_perm (vK_fb hK) (bP (List.Perm.refl _))
                    obtain rfl : o_11 = r12 := hw.symm
                    obtain ⟨o_13, hc_13, hrun⟩ := bnd9 hrun
                    have hPx : va_P (dC, dI) cls ((List.flatten ([(oX1 (p1a 0) p1a p1k p1n p1w_31 p1l)] : List va_W)) ++ (List.flatten ([(oX5 (p0a 0) p0a p0k p0w p0l), (oX9 (p1a 3) p1_2a p1_2k p1_2n p1_2w_7)] : List va_W))) H := vP_fa (vP_perm hP (bP ((((List.Perm.refl _)).cons _).trans (List.Perm.swap _ _ _))))
                    have hDx : va_D A ((List.flatten ([(oX1 (p1a 0) p1a p1k p1n p1w_31 p1l)] : List va_W)) ++ (List.flatten ([(oX5 (p0a 0) p0a p0k p0w p0l), (oX9 (p1a 3) p1_2a p1_2k p1_2n p1_2w_7)] : List va_W))) := vD_fa (vD_perm hD (bP ((((List.Perm.refl _)).cons _).trans (List.Perm.swap _ _ _))))
                    have hKx : va_K (dC, dI) cls ((List.flatten ([(tX1 p1k)] : List (List (ClassId × FieldType)))) ++ (List.flatten ([(tX5 p0k), (tX9 p1_2k)] : List (List (ClassId × FieldType))))) s := vK_fa (vK_perm hK (bP ((((List.Perm.refl _)).cons _).trans (List.Perm.swap _ _ _))))
                    have hPc := vP_l hPx
                    have hDc := vD_l hDx
                    have hKc := vK_l hKx
                    have hFc := vfree hDx hS hA
                    refine va_callv (va_runV (As := [.int v4_23, .int o_7, .int o_11]) (rest := []) ⟨hx, hb, hml, hown, hts⟩ (kX1_setTake l dC dI (p0a := p1a) (p0k := p1k) (p0n := p1n) (p0w := p1w_31) (p0l := p1l) (p1 := v4_23) (p2 := o_7) (p3 := o_11) (sz := _) (o := o_13) (hrun := hc_13)) (cwV 3 hts (gi_V qw590 qw318 qw319 qw126 (gi_z qw316)) rfl rfl rfl (by decide +kernel) ⟨Nat.le_of_ble_eq_true rfl, Nat.le_of_ble_eq_true rfl⟩) ⟨PRE.blind, va_recv hKc hPc (ci := 4) (q0 := 0) rfl rfl, PRE.of hE hS hFc hPc hKc hDc⟩ rfl rfl hl.1 rfl (lv_room (Nat.le_of_ble_eq_true rfl)) dX5_useStandIns_67 ⟨(Nat.le_of_ble_eq_true rfl), (Nat.le_of_ble_eq_true rfl)⟩) hS (fun q _ h => hFc q h) hFc (fun u t H locs ht hvm hw hB hz1 hk1 hS => ?_)
                    obtain ⟨b1, b2, b3⟩ := hB
                    rw [ht] at b1
                    obtain ⟨hP, hD, hK⟩ := JOINC (wc := (List.flatten ([(oX1 (p1a 0) p1a p1k p1n p1w_31 p1l)] : List va_W))) (wr := (List.flatten ([(oX5 (p0a 0) p0a p0k p0w p0l), (oX9 (p1a 3) p1_2a p1_2k p1_2n p1_2w_7)] : List va_W))) (w1 := (List.flatten ([(oX1 (p1a 0) p1a p1k p1n o_13 p1l)] : List va_W))) (t1 := (List.flatten ([(tX1 p1k)] : List (List (ClassId × FieldType))))) hPx hDx hKx hk1 hFc b1 (va_K.moved hvm.symm b2) b3
                    have hP : va_P (dC, dI) cls (List.flatten ([(oX5 (p0a 0) p0a p0k p0w p0l), (oX1 (p1a 0) p1a p1k p1n o_13 p1l), (oX9 (p1a 3) p1_2a p1_2k p1_2n p1_2w_7)] : List va_W)) H := vP_perm (vP_fb hP) (bP ((((List.Perm.refl _)).cons _).trans (List.Perm.swap _ _ _)))
                    have hD : va_D A (List.flatten ([(oX5 (p0a 0) p0a p0k p0w p0l), (oX1 (p1a 0) p1a p1k p1n o_13 p1l), (oX9 (p1a 3) p1_2a p1_2k p1_2n p1_2w_7)] : List va_W)) := vD_perm (vD_fb hD) (bP ((((List.Perm.refl _)).cons _).trans (List.Perm.swap _ _ _)))
                    have hK : va_K (dC, dI) cls (List.flatten ([(tX5 p0k), (tX1 p1k), (tX9 p1_2k)] : List (List (ClassId × FieldType)))) s := vK_perm (vK_fb hK) (bP ((((List.Perm.refl _)).cons _).trans (List.Perm.swap _ _ _)))
                    refine lv_iinc (v := (v5_31 + 1)) (lv' := [(5, .int (v5_31 + 1)), (6, .int o_7), (0, .ref (p0a 0)), (1, .ref (p1a 0)), (2, .ref (p1a 3)), (3, .int v3_7), (4, .int v4_23)]) hx hb dX5_useStandIns_70 hl (k := 6) rfl rfl (by decide) rfl (fun ls hl => ?_)
                    refine lv_goto (tgt := 31) hx hb dX5_useStandIns_73 (by decide) ?_
                    exact IH31 (v5_31 + 1) o_13 o31 _ _ _ hrun hP hD hK hS (lv_sub hl [2, 3, 4, 5, 6, 0] rfl) hk31
              obtain ⟨o31, hc31, hrun⟩ := bnd9 hrun
              refine L31 NF 0 p1w_23 o31 _ _ _ hc31 hP hD hK hS (lv_sub hl [1, 2, 3, 4, 5, 0] rfl) ?_
              intro H locs ls hP hD hK hS hl
              have hl := hl
              refine lv_aload_n hx hb dX5_useStandIns_76 rfl (lv_at hl 1 rfl) ?_
              refine va_get (D := (dC, dI)) (ci := 4) (v := .ref (p1a 20)) (C := RX1) (T := TX1) (N := 21) hx hb hts i_X1 hown hK hP 10 rfl rfl 19 (by decide) (hts _ qw433) (fun _ h9 => h9) rfl dX5_useStandIns_77 ?_
              refine lv_iload hx hb dX5_useStandIns_80 (lv_at hl 4 rfl) ?_
              obtain ⟨hq14, hrun⟩ := chk9 hrun
              refine va_iald hx hb hK hP 26 24 rfl rfl (ixb_in hq14) dX5_useStandIns_82 ?_
              refine lv_istore (lv' := [(4, .int (o31 20 (nn v4_23))), (0, .ref (p0a 0)), (1, .ref (p1a 0)), (2, .ref (p1a 3)), (3, .int v3_7)]) hx hb dX5_useStandIns_83 hl (by decide) rfl (fun ls hl => ?_)
              refine lv_goto (tgt := 23) hx hb dX5_useStandIns_85 (by decide) ?_
              exact IH23 (o31 20 (nn v4_23)) o31 o23 _ _ _ hrun hP hD hK hS (lv_sub hl [1, 2, 3, 4, 0] rfl) hk23
        obtain ⟨o23, hc23, hrun⟩ := bnd9 hrun
        refine L23 NF (p1w_7 6 (nn v3_7)) p1w_7 o23 _ _ _ hc23 hP hD hK hS (lv_sub hl [1, 2, 3, 4, 0] rfl) ?_
        intro H locs ls hP hD hK hS hl
        have hl := hl
        refine lv_aload_n hx hb dX5_useStandIns_88 rfl (lv_at hl 1 rfl) ?_
        refine va_get (D := (dC, dI)) (ci := 4) (v := .ref (p1a 4)) (C := RX1) (T := TX1) (N := 21) hx hb hts i_X1 hown hK hP 10 rfl rfl 3 (by decide) (hts _ qw434) (fun _ h9 => h9) rfl dX5_useStandIns_89 ?_
        refine lv_iload_n hx hb dX5_useStandIns_92 rfl (lv_at hl 3 rfl) ?_
        obtain ⟨hq15, hrun⟩ := chk9 hrun
        refine va_iald hx hb hK hP 11 9 rfl rfl (ixb_in hq15) dX5_useStandIns_93 ?_
        refine lv_istore (lv' := [(4, .int (o23 4 (nn v3_7))), (0, .ref (p0a 0)), (1, .ref (p1a 0)), (2, .ref (p1a 3)), (3, .int v3_7)]) hx hb dX5_useStandIns_94 hl (by decide) rfl (fun ls hl => ?_)
        have L96 : ∀ (n_96 : Nat) (v4_96 : Int32) (p1_2w_96 : ST) (o96 : ST) (H : Heap) (locs : List Loc) (ls : Array Slot), (fX5_useStandIns_L96 p0w p1_2n n_96) v4_96 p1_2w_96 = some o96 → va_P (dC, dI) cls (List.flatten ([(oX5 (p0a 0) p0a p0k p0w p0l), (oX1 (p1a 0) p1a p1k p1n o23 p1l), (oX9 (p1a 3) p1_2a p1_2k p1_2n p1_2w_96)] : List va_W)) H → va_D A (List.flatten ([(oX5 (p0a 0) p0a p0k p0w p0l), (oX1 (p1a 0) p1a p1k p1n o23 p1l), (oX9 (p1a 3) p1_2a p1_2k p1_2n p1_2w_96)] : List va_W)) → va_K (dC, dI) cls (List.flatten ([(tX5 p0k), (tX1 p1k), (tX9 p1_2k)] : List (List (ClassId × FieldType)))) s → va_S A s.heap H locs → lv_has ls 7 [(0, .ref (p0a 0)), (1, .ref (p1a 0)), (2, .ref (p1a 3)), (3, .int v3_7), (4, .int v4_96)] → (∀ (H : Heap) (locs : List Loc) (ls : Array Slot), va_P (dC, dI) cls (List.flatten ([(oX5 (p0a 0) p0a p0k p0w p0l), (oX1 (p1a 0) p1a p1k p1n o23 p1l), (oX9 (p1a 3) p1_2a p1_2k p1_2n o96)] : List va_W)) H → va_D A (List.flatten ([(oX5 (p0a 0) p0a p0k p0w p0l), (oX1 (p1a 0) p1a p1k p1n o23 p1l), (oX9 (p1a 3) p1_2a p1_2k p1_2n o96)] : List va_W)) → va_K (dC, dI) cls (List.flatten ([(tX5 p0k), (tX1 p1k), (tX9 p1_2k)] : List (List (ClassId × FieldType)))) s → va_S A s.heap H locs → lv_has ls 7 [(0, .ref (p0a 0)), (1, .ref (p1a 0)), (2, .ref (p1a 3)), (3, .int v3_7)] → W p l e ({ frames := 2, cells := 0, slots := 0, locals := 40 } : Room) s m ([.ref (p0a 0), .ref (p1a 0)] : List Value).toArray below meth c H locs 0 0 Q (F0 m 175 ls [])) → W p l e ({ frames := 2, cells := 0, slots := 0, locals := 40 } : Room) s m ([.ref (p0a 0), .ref (p1a 0)] : List Value).toArray below meth c H locs 0 0 Q (F0 m 96 ls []) := by
          intro n_96
          induction n_96 with
          | zero => intro v4_96 p1_2w_96 o96 H locs ls hrun; exact (no9 rfl hrun).elim
          | succ n_96 IH96 =>
            intro v4_96 p1_2w_96 o96 H locs ls hrun hP hD hK hS hl hk96
            unfold fX5_useStandIns_L96 at hrun
            refine lv_iload hx hb dX5_useStandIns_96 (lv_at hl 4 rfl) ?_
            rcases br9 hrun with ⟨hc16, hrun⟩ | ⟨hc16, hrun⟩
            · refine lv_if_lt (tgt := 175) hx hb dX5_useStandIns_98 (by decide) (fun _ => ?_) (fun c => absurd hc16 c)
              obtain rfl := (Option.some.inj hrun)
              exact hk96 _ _ _ hP hD hK hS (lv_sub hl [0, 1, 2, 3] rfl)
            · refine lv_if_lt (tgt := 175) hx hb dX5_useStandIns_98 (by decide) (fun c => absurd c hc16) (fun _ => ?_)
              refine lv_aload_n hx hb dX5_useStandIns_101 rfl (lv_at hl 2 rfl) ?_
              refine va_get (D := (dC, dI)) (ci := 3) (v := .ref (p1_2a 2)) (C := RX9) (T := TX9) (N := 6) hx hb hts i_X9 hown hK hP 28 rfl rfl 1 (by decide) (hts _ qw420) (fun _ h9 => h9) rfl dX5_useStandIns_102 ?_
              refine lv_iload hx hb dX5_useStandIns_105 (lv_at hl 4 rfl) ?_
              obtain ⟨hq17, hrun⟩ := chk9 hrun
              refine va_iald hx hb hK hP 29 26 rfl rfl (ixb_in hq17) dX5_useStandIns_107 ?_
              obtain ⟨o_18, hc_18, hrun⟩ := bnd9 hrun
              have hPx : va_P (dC, dI) cls ((List.flatten ([] : List va_W)) ++ (List.flatten ([(oX5 (p0a 0) p0a p0k p0w p0l), (oX1 (p1a 0) p1a p1k p1n o23 p1l), (oX9 (p1a 3) p1_2a p1_2k p1_2n p1_2w_96)] : List va_W))) H := vP_fa (vP_perm hP (bP (List.Perm.refl _)))
              have hDx : va_D A ((List.flatten ([] : List va_W)) ++ (List.flatten ([(oX5 (p0a 0) p0a p0k p0w p0l), (oX1 (p1a 0) p1a p1k p1n o23 p1l), (oX9 (p1a 3) p1_2a p1_2k p1_2n p1_2w_96)] : List va_W))) := vD_fa (vD_perm hD (bP (List.Perm.refl _)))
              have hKx : va_K (dC, dI) cls ((List.flatten ([] : List (List (ClassId × FieldType)))) ++ (List.flatten ([(tX5 p0k), (tX1 p1k), (tX9 p1_2k)] : List (List (ClassId × FieldType))))) s := vK_fa (vK_perm hK (bP (List.Perm.refl _)))
              have hPc := vP_l hPx
              have hDc := vD_l hDx
              have hKc := vK_l hKx
              have hFc := vfree hDx hS hA
              refine va_calli (va_runSN (As := [.int (p1_2w_96 2 (nn v4_96))]) (rest := []) ⟨hx, hb, hml, hown, hts⟩ (kX11_usesLeft l dC dI (p0 := (p1_2w_96 2 (nn v4_96))) (sz := _) (o := o_18) (hrun := hc_18)) ⟨(va_cnB 1 hts (gi_z qw446) rfl rfl rfl (hE.nw (List.mem_append_right _ (tbl_8 (i := 41) rfl)) rfl) (hts _ qw129) (by decide +kernel) ⟨Nat.le_of_ble_eq_true rfl, Nat.le_of_ble_eq_true rfl⟩), (hts _ qw447), trivial⟩ ⟨PRE.blind, PRE.of hE hS hFc hPc hKc hDc⟩ rfl rfl hl.1 rfl (lv_room (Nat.le_of_ble_eq_true rfl)) dX5_useStandIns_108 ⟨(Nat.le_of_ble_eq_true rfl), (Nat.le_of_ble_eq_true rfl)⟩) hS (fun q _ h => hFc q h) hFc (fun r19 u t H locs ht hvm hw hB hz1 hk1 hS => ?_)
              obtain ⟨b1, b2, b3⟩ := hB
              rw [ht] at b1
              obtain ⟨hP, hD, hK⟩ := JOINC (wc := (List.flatten ([] : List va_W))) (wr := (List.flatten ([(oX5 (p0a 0) p0a p0k p0w p0l), (oX1 (p1a 0) p1a p1k p1n o23 p1l), (oX9 (p1a 3) p1_2a p1_2k p1_2n p1_2w_96)] : List va_W))) (w1 := (List.flatten ([] : List va_W))) (t1 := (List.flatten ([] : List (List (ClassId × FieldType))))) hPx hDx hKx hk1 hFc b1 (va_K.moved hvm.symm b2) b3
              have hP : va_P (dC, dI) cls (List.flatten ([(oX5 (p0a 0) p0a p0k p0w p0l), (oX1 (p1a 0) p1a p1k p1n o23 p1l), (oX9 (p1a 3) p1_2a p1_2k p1_2n p1_2w_96)] : List va_W)) H := vP_perm (vP_fb hP) (bP (List.Perm.refl _))
              have hD : va_D A (List.flatten ([(oX5 (p0a 0) p0a p0k p0w p0l), (oX1 (p1a 0) p1a p1k p1n o23 p1l), (oX9 (p1a 3) p1_2a p1_2k p1_2n p1_2w_96)] : List va_W)) := vD_perm (vD_fb hD) (bP (List.Perm.refl _))
              have hK : va_K (dC, dI) cls (List.flatten ([(tX5 p0k), (tX1 p1k), (tX9 p1_2k)] : List (List (ClassId × FieldType)))) s := vK_perm (vK_fb hK) (bP (List.Perm.refl _))
              obtain rfl : o_18 = r19 := hw.symm
              have J132 : ∀ (p1_2w_132 : ST) (H : Heap) (locs : List Loc) (ls : Array Slot), (fX5_useStandIns_J132 (fX5_useStandIns_L96 p0w p1_2n n_96) p0w p1_2n v4_96 p1_2w_132) = some o96 → va_P (dC, dI) cls (List.flatten ([(oX5 (p0a 0) p0a p0k p0w p0l), (oX1 (p1a 0) p1a p1k p1n o23 p1l), (oX9 (p1a 3) p1_2a p1_2k p1_2n p1_2w_132)] : List va_W)) H → va_D A (List.flatten ([(oX5 (p0a 0) p0a p0k p0w p0l), (oX1 (p1a 0) p1a p1k p1n o23 p1l), (oX9 (p1a 3) p1_2a p1_2k p1_2n p1_2w_132)] : List va_W)) → va_K (dC, dI) cls (List.flatten ([(tX5 p0k), (tX1 p1k), (tX9 p1_2k)] : List (List (ClassId × FieldType)))) s → va_S A s.heap H locs → lv_has ls 7 [(0, .ref (p0a 0)), (1, .ref (p1a 0)), (2, .ref (p1a 3)), (3, .int v3_7), (4, .int v4_96)] → W p l e ({ frames := 2, cells := 0, slots := 0, locals := 40 } : Room) s m ([.ref (p0a 0), .ref (p1a 0)] : List Value).toArray below meth c H locs 0 0 Q (F0 m 132 ls []) := by
                intro p1_2w_132 H locs ls hrun hP hD hK hS hl 
                unfold fX5_useStandIns_J132 at hrun
                refine lv_aload_n hx hb dX5_useStandIns_132 rfl (lv_at hl 2 rfl) ?_
                refine va_get (D := (dC, dI)) (ci := 3) (v := .ref (p1_2a 2)) (C := RX9) (T := TX9) (N := 6) hx hb hts i_X9 hown hK hP 28 rfl rfl 1 (by decide) (hts _ qw420) (fun _ h9 => h9) rfl dX5_useStandIns_133 ?_
                refine lv_iload hx hb dX5_useStandIns_136 (lv_at hl 4 rfl) ?_
                obtain ⟨hq20, hrun⟩ := chk9 hrun
                refine va_iald hx hb hK hP 29 26 rfl rfl (ixb_in hq20) dX5_useStandIns_138 ?_
                obtain ⟨o_21, hc_21, hrun⟩ := bnd9 hrun
                have hPx : va_P (dC, dI) cls ((List.flatten ([] : List va_W)) ++ (List.flatten ([(oX5 (p0a 0) p0a p0k p0w p0l), (oX1 (p1a 0) p1a p1k p1n o23 p1l), (oX9 (p1a 3) p1_2a p1_2k p1_2n p1_2w_132)] : List va_W))) H := vP_fa (vP_perm hP (bP (List.Perm.refl _)))
                have hDx : va_D A ((List.flatten ([] : List va_W)) ++ (List.flatten ([(oX5 (p0a 0) p0a p0k p0w p0l), (oX1 (p1a 0) p1a p1k p1n o23 p1l), (oX9 (p1a 3) p1_2a p1_2k p1_2n p1_2w_132)] : List va_W))) := vD_fa (vD_perm hD (bP (List.Perm.refl _)))
                have hKx : va_K (dC, dI) cls ((List.flatten ([] : List (List (ClassId × FieldType)))) ++ (List.flatten ([(tX5 p0k), (tX1 p1k), (tX9 p1_2k)] : List (List (ClassId × FieldType))))) s := vK_fa (vK_perm hK (bP (List.Perm.refl _)))
                have hPc := vP_l hPx
                have hDc := vD_l hDx
                have hKc := vK_l hKx
                have hFc := vfree hDx hS hA
                refine va_calli (va_runSN (As := [.int (p1_2w_132 2 (nn v4_96))]) (rest := []) ⟨hx, hb, hml, hown, hts⟩ (kX11_usesRight l dC dI (p0 := (p1_2w_132 2 (nn v4_96))) (sz := _) (o := o_21) (hrun := hc_21)) ⟨(va_cnB 1 hts (gi_z qw351) rfl rfl rfl (hE.nw (List.mem_append_right _ (tbl_8 (i := 44) rfl)) rfl) (hts _ qw129) (by decide +kernel) ⟨Nat.le_of_ble_eq_true rfl, Nat.le_of_ble_eq_true rfl⟩), (hts _ qw352), trivial⟩ ⟨PRE.blind, PRE.of hE hS hFc hPc hKc hDc⟩ rfl rfl hl.1 rfl (lv_room (Nat.le_of_ble_eq_true rfl)) dX5_useStandIns_139 ⟨(Nat.le_of_ble_eq_true rfl), (Nat.le_of_ble_eq_true rfl)⟩) hS (fun q _ h => hFc q h) hFc (fun r22 u t H locs ht hvm hw hB hz1 hk1 hS => ?_)
                obtain ⟨b1, b2, b3⟩ := hB
                rw [ht] at b1
                obtain ⟨hP, hD, hK⟩ := JOINC (wc := (List.flatten ([] : List va_W))) (wr := (List.flatten ([(oX5 (p0a 0) p0a p0k p0w p0l), (oX1 (p1a 0) p1a p1k p1n o23 p1l), (oX9 (p1a 3) p1_2a p1_2k p1_2n p1_2w_132)] : List va_W))) (w1 := (List.flatten ([] : List va_W))) (t1 := (List.flatten ([] : List (List (ClassId × FieldType))))) hPx hDx hKx hk1 hFc b1 (va_K.moved hvm.symm b2) b3
                have hP : va_P (dC, dI) cls (List.flatten ([(oX5 (p0a 0) p0a p0k p0w p0l), (oX1 (p1a 0) p1a p1k p1n o23 p1l), (oX9 (p1a 3) p1_2a p1_2k p1_2n p1_2w_132)] : List va_W)) H := vP_perm (vP_fb hP) (bP (List.Perm.refl _))
                have hD : va_D A (List.flatten ([(oX5 (p0a 0) p0a p0k p0w p0l), (oX1 (p1a 0) p1a p1k p1n o23 p1l), (oX9 (p1a 3) p1_2a p1_2k p1_2n p1_2w_132)] : List va_W)) := vD_perm (vD_fb hD) (bP (List.Perm.refl _))
                have hK : va_K (dC, dI) cls (List.flatten ([(tX5 p0k), (tX1 p1k), (tX9 p1_2k)] : List (List (ClassId × FieldType)))) s := vK_perm (vK_fb hK) (bP (List.Perm.refl _))
                obtain rfl : o_21 = r22 := hw.symm
                have J163 : ∀ (p1_2w_163 : ST) (H : Heap) (locs : List Loc) (ls : Array Slot), (fX5_useStandIns_J163 (fX5_useStandIns_L96 p0w p1_2n n_96) p1_2n v4_96 p1_2w_163) = some o96 → va_P (dC, dI) cls (List.flatten ([(oX5 (p0a 0) p0a p0k p0w p0l), (oX1 (p1a 0) p1a p1k p1n o23 p1l), (oX9 (p1a 3) p1_2a p1_2k p1_2n p1_2w_163)] : List va_W)) H → va_D A (List.flatten ([(oX5 (p0a 0) p0a p0k p0w p0l), (oX1 (p1a 0) p1a p1k p1n o23 p1l), (oX9 (p1a 3) p1_2a p1_2k p1_2n p1_2w_163)] : List va_W)) → va_K (dC, dI) cls (List.flatten ([(tX5 p0k), (tX1 p1k), (tX9 p1_2k)] : List (List (ClassId × FieldType)))) s → va_S A s.heap H locs → lv_has ls 7 [(0, .ref (p0a 0)), (1, .ref (p1a 0)), (2, .ref (p1a 3)), (3, .int v3_7), (4, .int v4_96)] → W p l e ({ frames := 2, cells := 0, slots := 0, locals := 40 } : Room) s m ([.ref (p0a 0), .ref (p1a 0)] : List Value).toArray below meth c H locs 0 0 Q (F0 m 163 ls []) := by
                  intro p1_2w_163 H locs ls hrun hP hD hK hS hl 
                  unfold fX5_useStandIns_J163 at hrun
                  refine lv_aload_n hx hb dX5_useStandIns_163 rfl (lv_at hl 2 rfl) ?_
                  refine va_get (D := (dC, dI)) (ci := 3) (v := .ref (p1_2a 6)) (C := RX9) (T := TX9) (N := 6) hx hb hts i_X9 hown hK hP 28 rfl rfl 5 (by decide) (hts _ qw437) (fun _ h9 => h9) rfl dX5_useStandIns_164 ?_
                  refine lv_iload hx hb dX5_useStandIns_167 (lv_at hl 4 rfl) ?_
                  obtain ⟨hq23, hrun⟩ := chk9 hrun
                  refine va_iald hx hb hK hP 33 30 rfl rfl (ixb_in hq23) dX5_useStandIns_169 ?_
                  refine lv_istore (lv' := [(4, .int (p1_2w_163 6 (nn v4_96))), (0, .ref (p0a 0)), (1, .ref (p1a 0)), (2, .ref (p1a 3)), (3, .int v3_7)]) hx hb dX5_useStandIns_170 hl (by decide) rfl (fun ls hl => ?_)
                  refine lv_goto (tgt := 96) hx hb dX5_useStandIns_172 (by decide) ?_
                  exact IH96 (p1_2w_163 6 (nn v4_96)) p1_2w_163 o96 _ _ _ hrun hP hD hK hS (lv_sub hl [1, 2, 3, 4, 0] rfl) hk96
                rcases br9 hrun with ⟨hc24, hrun⟩ | ⟨hc24, hrun⟩
                · refine lv_if_eq (tgt := 163) hx hb dX5_useStandIns_142 (by decide) (fun _ => ?_) (fun c => absurd hc24 c)
                  exact J163 p1_2w_132 _ _ _ hrun hP hD hK hS (lv_sub hl [0, 1, 2, 3, 4] rfl)
                · refine lv_if_eq (tgt := 163) hx hb dX5_useStandIns_142 (by decide) (fun c => absurd c hc24) (fun _ => ?_)
                  refine lv_aload_n hx hb dX5_useStandIns_145 rfl (lv_at hl 2 rfl) ?_
                  refine va_get (D := (dC, dI)) (ci := 3) (v := .ref (p1_2a 5)) (C := RX9) (T := TX9) (N := 6) hx hb hts i_X9 hown hK hP 28 rfl rfl 4 (by decide) (hts _ qw422) (fun _ h9 => h9) rfl dX5_useStandIns_146 ?_
                  refine lv_iload hx hb dX5_useStandIns_149 (lv_at hl 4 rfl) ?_
                  refine lv_aload_n hx hb dX5_useStandIns_151 rfl (lv_at hl 0 rfl) ?_
                  refine lv_aload_n hx hb dX5_useStandIns_152 rfl (lv_at hl 2 rfl) ?_
                  refine va_get (D := (dC, dI)) (ci := 3) (v := .ref (p1_2a 5)) (C := RX9) (T := TX9) (N := 6) hx hb hts i_X9 hown hK hP 28 rfl rfl 4 (by decide) (hts _ qw422) (fun _ h9 => h9) rfl dX5_useStandIns_153 ?_
                  refine lv_iload hx hb dX5_useStandIns_156 (lv_at hl 4 rfl) ?_
                  obtain ⟨hq25, hrun⟩ := chk9 hrun
                  refine va_iald hx hb hK hP 32 29 rfl rfl (ixb_in hq25) dX5_useStandIns_158 ?_
                  obtain ⟨o_26, hc_26, hrun⟩ := bnd9 hrun
                  have hPx : va_P (dC, dI) cls ((List.flatten ([(oX5 (p0a 0) p0a p0k p0w p0l)] : List va_W)) ++ (List.flatten ([(oX1 (p1a 0) p1a p1k p1n o23 p1l), (oX9 (p1a 3) p1_2a p1_2k p1_2n p1_2w_132)] : List va_W))) H := vP_fa (vP_perm hP (bP (List.Perm.refl _)))
                  have hDx : va_D A ((List.flatten ([(oX5 (p0a 0) p0a p0k p0w p0l)] : List va_W)) ++ (List.flatten ([(oX1 (p1a 0) p1a p1k p1n o23 p1l), (oX9 (p1a 3) p1_2a p1_2k p1_2n p1_2w_132)] : List va_W))) := vD_fa (vD_perm hD (bP (List.Perm.refl _)))
                  have hKx : va_K (dC, dI) cls ((List.flatten ([(tX5 p0k)] : List (List (ClassId × FieldType)))) ++ (List.flatten ([(tX1 p1k), (tX9 p1_2k)] : List (List (ClassId × FieldType))))) s := vK_fa (vK_perm hK (bP (List.Perm.refl _)))
                  have hPc := vP_l hPx
                  have hDc := vD_l hDx
                  have hKc := vK_l hKx
                  have hFc := vfree hDx hS hA
                  refine va_calli (va_runV (As := [.int (p1_2w_132 5 (nn v4_96))]) (rest := [.int v4_96, .ref (p1_2a 5)]) ⟨hx, hb, hml, hown, hts⟩ (kX5_standInOf l dC dI (p0a := p0a) (p0k := p0k) (p0w := p0w) (p0l := p0l) (p1 := (p1_2w_132 5 (nn v4_96))) (sz := _) (o := o_26) (hrun := hc_26)) (cwV 1 hts (gi_V qw541 qw542 qw543 qw442 (gi_z qw540)) rfl rfl rfl (by decide +kernel) ⟨Nat.le_of_ble_eq_true rfl, Nat.le_of_ble_eq_true rfl⟩) ⟨PRE.blind, va_recv hKc hPc (ci := 7) (q0 := 0) rfl rfl, PRE.of hE hS hFc hPc hKc hDc⟩ rfl rfl hl.1 rfl (lv_room (Nat.le_of_ble_eq_true rfl)) dX5_useStandIns_159 ⟨(Nat.le_of_ble_eq_true rfl), (Nat.le_of_ble_eq_true rfl)⟩) hS (fun q _ h => hFc q h) hFc (fun r27 u t H locs ht hvm hw hB hz1 hk1 hS => ?_)
                  obtain ⟨b1, b2, b3⟩ := hB
                  rw [ht] at b1
                  obtain ⟨hP, hD, hK⟩ := JOINC (wc := (List.flatten ([(oX5 (p0a 0) p0a p0k p0w p0l)] : List va_W))) (wr := (List.flatten ([(oX1 (p1a 0) p1a p1k p1n o23 p1l), (oX9 (p1a 3) p1_2a p1_2k p1_2n p1_2w_132)] : List va_W))) (w1 := (List.flatten ([(oX5 (p0a 0) p0a p0k p0w p0l)] : List va_W))) (t1 := (List.flatten ([(tX5 p0k)] : List (List (ClassId × FieldType))))) hPx hDx hKx hk1 hFc b1 (va_K.moved hvm.symm b2) b3
                  have hP : va_P (dC, dI) cls (List.flatten ([(oX5 (p0a 0) p0a p0k p0w p0l), (oX1 (p1a 0) p1a p1k p1n o23 p1l), (oX9 (p1a 3) p1_2a p1_2k p1_2n p1_2w_132)] : List va_W)) H := vP_perm (vP_fb hP) (bP (List.Perm.refl _))
                  have hD : va_D A (List.flatten ([(oX5 (p0a 0) p0a p0k p0w p0l), (oX1 (p1a 0) p1a p1k p1n o23 p1l), (oX9 (p1a 3) p1_2a p1_2k p1_2n p1_2w_132)] : List va_W)) := vD_perm (vD_fb hD) (bP (List.Perm.refl _))
                  have hK : va_K (dC, dI) cls (List.flatten ([(tX5 p0k), (tX1 p1k), (tX9 p1_2k)] : List (List (ClassId × FieldType)))) s := vK_perm (vK_fb hK) (bP (List.Perm.refl _))
                  obtain rfl : o_26 = r27 := hw.symm
                  obtain ⟨hq28, hrun⟩ := chk9 hrun
                  refine va_iast hx hb hK hP hD hS 32 29 rfl rfl (ixb_in hq28) dX5_useStandIns_162 (fun H locs hP hD hS => ?_)
                  have hP : va_P (dC, dI) cls (List.flatten ([(oX5 (p0a 0) p0a p0k p0w p0l), (oX1 (p1a 0) p1a p1k p1n o23 p1l), (oX9 (p1a 3) p1_2a p1_2k p1_2n (upw p1_2w_132 5 (nn v4_96) o_26))] : List va_W)) H := hP
                  have hD : va_D A (List.flatten ([(oX5 (p0a 0) p0a p0k p0w p0l), (oX1 (p1a 0) p1a p1k p1n o23 p1l), (oX9 (p1a 3) p1_2a p1_2k p1_2n (upw p1_2w_132 5 (nn v4_96) o_26))] : List va_W)) := hD
                  obtain ⟨w29, ew29, hrun⟩ := let9 hrun
                  rw [← ew29] at hP hD
                  exact J163 w29 _ _ _ hrun hP hD hK hS (lv_sub hl [0, 1, 2, 3, 4] rfl)
              rcases br9 hrun with ⟨hc30, hrun⟩ | ⟨hc30, hrun⟩
              · refine lv_if_eq (tgt := 132) hx hb dX5_useStandIns_111 (by decide) (fun _ => ?_) (fun c => absurd hc30 c)
                exact J132 p1_2w_96 _ _ _ hrun hP hD hK hS (lv_sub hl [0, 1, 2, 3, 4] rfl)
              · refine lv_if_eq (tgt := 132) hx hb dX5_useStandIns_111 (by decide) (fun c => absurd c hc30) (fun _ => ?_)
                refine lv_aload_n hx hb dX5_useStandIns_114 rfl (lv_at hl 2 rfl) ?_
                refine va_get (D := (dC, dI)) (ci := 3) (v := .ref (p1_2a 4)) (C := RX9) (T := TX9) (N := 6) hx hb hts i_X9 hown hK hP 28 rfl rfl 3 (by decide) (hts _ qw421) (fun _ h9 => h9) rfl dX5_useStandIns_115 ?_
                refine lv_iload hx hb dX5_useStandIns_118 (lv_at hl 4 rfl) ?_
                refine lv_aload_n hx hb dX5_useStandIns_120 rfl (lv_at hl 0 rfl) ?_
                refine lv_aload_n hx hb dX5_useStandIns_121 rfl (lv_at hl 2 rfl) ?_
                refine va_get (D := (dC, dI)) (ci := 3) (v := .ref (p1_2a 4)) (C := RX9) (T := TX9) (N := 6) hx hb hts i_X9 hown hK hP 28 rfl rfl 3 (by decide) (hts _ qw421) (fun _ h9 => h9) rfl dX5_useStandIns_122 ?_
                refine lv_iload hx hb dX5_useStandIns_125 (lv_at hl 4 rfl) ?_
                obtain ⟨hq31, hrun⟩ := chk9 hrun
                refine va_iald hx hb hK hP 31 28 rfl rfl (ixb_in hq31) dX5_useStandIns_127 ?_
                obtain ⟨o_32, hc_32, hrun⟩ := bnd9 hrun
                have hPx : va_P (dC, dI) cls ((List.flatten ([(oX5 (p0a 0) p0a p0k p0w p0l)] : List va_W)) ++ (List.flatten ([(oX1 (p1a 0) p1a p1k p1n o23 p1l), (oX9 (p1a 3) p1_2a p1_2k p1_2n p1_2w_96)] : List va_W))) H := vP_fa (vP_perm hP (bP (List.Perm.refl _)))
                have hDx : va_D A ((List.flatten ([(oX5 (p0a 0) p0a p0k p0w p0l)] : List va_W)) ++ (List.flatten ([(oX1 (p1a 0) p1a p1k p1n o23 p1l), (oX9 (p1a 3) p1_2a p1_2k p1_2n p1_2w_96)] : List va_W))) := vD_fa (vD_perm hD (bP (List.Perm.refl _)))
                have hKx : va_K (dC, dI) cls ((List.flatten ([(tX5 p0k)] : List (List (ClassId × FieldType)))) ++ (List.flatten ([(tX1 p1k), (tX9 p1_2k)] : List (List (ClassId × FieldType))))) s := vK_fa (vK_perm hK (bP (List.Perm.refl _)))
                have hPc := vP_l hPx
                have hDc := vD_l hDx
                have hKc := vK_l hKx
                have hFc := vfree hDx hS hA
                refine va_calli (va_runV (As := [.int (p1_2w_96 4 (nn v4_96))]) (rest := [.int v4_96, .ref (p1_2a 4)]) ⟨hx, hb, hml, hown, hts⟩ (kX5_standInOf l dC dI (p0a := p0a) (p0k := p0k) (p0w := p0w) (p0l := p0l) (p1 := (p1_2w_96 4 (nn v4_96))) (sz := _) (o := o_32) (hrun := hc_32)) (cwV 1 hts (gi_V qw541 qw542 qw543 qw442 (gi_z qw540)) rfl rfl rfl (by decide +kernel) ⟨Nat.le_of_ble_eq_true rfl, Nat.le_of_ble_eq_true rfl⟩) ⟨PRE.blind, va_recv hKc hPc (ci := 7) (q0 := 0) rfl rfl, PRE.of hE hS hFc hPc hKc hDc⟩ rfl rfl hl.1 rfl (lv_room (Nat.le_of_ble_eq_true rfl)) dX5_useStandIns_128 ⟨(Nat.le_of_ble_eq_true rfl), (Nat.le_of_ble_eq_true rfl)⟩) hS (fun q _ h => hFc q h) hFc (fun r33 u t H locs ht hvm hw hB hz1 hk1 hS => ?_)
                obtain ⟨b1, b2, b3⟩ := hB
                rw [ht] at b1
                obtain ⟨hP, hD, hK⟩ := JOINC (wc := (List.flatten ([(oX5 (p0a 0) p0a p0k p0w p0l)] : List va_W))) (wr := (List.flatten ([(oX1 (p1a 0) p1a p1k p1n o23 p1l), (oX9 (p1a 3) p1_2a p1_2k p1_2n p1_2w_96)] : List va_W))) (w1 := (List.flatten ([(oX5 (p0a 0) p0a p0k p0w p0l)] : List va_W))) (t1 := (List.flatten ([(tX5 p0k)] : List (List (ClassId × FieldType))))) hPx hDx hKx hk1 hFc b1 (va_K.moved hvm.symm b2) b3
                have hP : va_P (dC, dI) cls (List.flatten ([(oX5 (p0a 0) p0a p0k p0w p0l), (oX1 (p1a 0) p1a p1k p1n o23 p1l), (oX9 (p1a 3) p1_2a p1_2k p1_2n p1_2w_96)] : List va_W)) H := vP_perm (vP_fb hP) (bP (List.Perm.refl _))
                have hD : va_D A (List.flatten ([(oX5 (p0a 0) p0a p0k p0w p0l), (oX1 (p1a 0) p1a p1k p1n o23 p1l), (oX9 (p1a 3) p1_2a p1_2k p1_2n p1_2w_96)] : List va_W)) := vD_perm (vD_fb hD) (bP (List.Perm.refl _))
                have hK : va_K (dC, dI) cls (List.flatten ([(tX5 p0k), (tX1 p1k), (tX9 p1_2k)] : List (List (ClassId × FieldType)))) s := vK_perm (vK_fb hK) (bP (List.Perm.refl _))
                obtain rfl : o_32 = r33 := hw.symm
                obtain ⟨hq34, hrun⟩ := chk9 hrun
                refine va_iast hx hb hK hP hD hS 31 28 rfl rfl (ixb_in hq34) dX5_useStandIns_131 (fun H locs hP hD hS => ?_)
                have hP : va_P (dC, dI) cls (List.flatten ([(oX5 (p0a 0) p0a p0k p0w p0l), (oX1 (p1a 0) p1a p1k p1n o23 p1l), (oX9 (p1a 3) p1_2a p1_2k p1_2n (upw p1_2w_96 4 (nn v4_96) o_32))] : List va_W)) H := hP
                have hD : va_D A (List.flatten ([(oX5 (p0a 0) p0a p0k p0w p0l), (oX1 (p1a 0) p1a p1k p1n o23 p1l), (oX9 (p1a 3) p1_2a p1_2k p1_2n (upw p1_2w_96 4 (nn v4_96) o_32))] : List va_W)) := hD
                obtain ⟨w35, ew35, hrun⟩ := let9 hrun
                rw [← ew35] at hP hD
                exact J132 w35 _ _ _ hrun hP hD hK hS (lv_sub hl [0, 1, 2, 3, 4] rfl)
        obtain ⟨o96, hc96, hrun⟩ := bnd9 hrun
        refine L96 NF (o23 4 (nn v3_7)) p1_2w_7 o96 _ _ _ hc96 hP hD hK hS (lv_sub hl [1, 2, 3, 4, 0] rfl) ?_
        intro H locs ls hP hD hK hS hl
        have hl := hl
        refine lv_aload_n hx hb dX5_useStandIns_175 rfl (lv_at hl 1 rfl) ?_
        refine va_get (D := (dC, dI)) (ci := 4) (v := .ref (p1a 9)) (C := RX1) (T := TX1) (N := 21) hx hb hts i_X1 hown hK hP 10 rfl rfl 8 (by decide) (hts _ qw445) (fun _ h9 => h9) rfl dX5_useStandIns_176 ?_
        refine lv_iload_n hx hb dX5_useStandIns_179 rfl (lv_at hl 3 rfl) ?_
        obtain ⟨hq36, hrun⟩ := chk9 hrun
        refine va_iald hx hb hK hP 16 14 rfl rfl (ixb_in hq36) dX5_useStandIns_180 ?_
        have J200 : ∀ (p1w_200 : ST) (H : Heap) (locs : List Loc) (ls : Array Slot), (fX5_useStandIns_J200 (fX5_useStandIns_L7 p0w p1n p1_2n n_7) v3_7 o96 p1w_200) = some o7 → va_P (dC, dI) cls (List.flatten ([(oX5 (p0a 0) p0a p0k p0w p0l), (oX1 (p1a 0) p1a p1k p1n p1w_200 p1l), (oX9 (p1a 3) p1_2a p1_2k p1_2n o96)] : List va_W)) H → va_D A (List.flatten ([(oX5 (p0a 0) p0a p0k p0w p0l), (oX1 (p1a 0) p1a p1k p1n p1w_200 p1l), (oX9 (p1a 3) p1_2a p1_2k p1_2n o96)] : List va_W)) → va_K (dC, dI) cls (List.flatten ([(tX5 p0k), (tX1 p1k), (tX9 p1_2k)] : List (List (ClassId × FieldType)))) s → va_S A s.heap H locs → lv_has ls 7 [(0, .ref (p0a 0)), (1, .ref (p1a 0)), (2, .ref (p1a 3)), (3, .int v3_7)] → W p l e ({ frames := 2, cells := 0, slots := 0, locals := 40 } : Room) s m ([.ref (p0a 0), .ref (p1a 0)] : List Value).toArray below meth c H locs 0 0 Q (F0 m 200 ls []) := by
          intro p1w_200 H locs ls hrun hP hD hK hS hl 
          unfold fX5_useStandIns_J200 at hrun
          refine lv_iinc (v := (v3_7 + 1)) (lv' := [(3, .int (v3_7 + 1)), (0, .ref (p0a 0)), (1, .ref (p1a 0)), (2, .ref (p1a 3))]) hx hb dX5_useStandIns_200 hl (k := 3) rfl rfl (by decide) rfl (fun ls hl => ?_)
          refine lv_goto (tgt := 7) hx hb dX5_useStandIns_203 (by decide) ?_
          exact IH7 (v3_7 + 1) p1w_200 o96 o7 _ _ _ hrun hP hD hK hS (lv_sub hl [1, 2, 3, 0] rfl) hk7
        rcases br9 hrun with ⟨hc37, hrun⟩ | ⟨hc37, hrun⟩
        · refine lv_if_lt (tgt := 200) hx hb dX5_useStandIns_181 (by decide) (fun _ => ?_) (fun c => absurd hc37 c)
          exact J200 o23 _ _ _ hrun hP hD hK hS (lv_sub hl [0, 1, 2, 3] rfl)
        · refine lv_if_lt (tgt := 200) hx hb dX5_useStandIns_181 (by decide) (fun c => absurd c hc37) (fun _ => ?_)
          refine lv_aload_n hx hb dX5_useStandIns_184 rfl (lv_at hl 1 rfl) ?_
          refine va_get (D := (dC, dI)) (ci := 4) (v := .ref (p1a 9)) (C := RX1) (T := TX1) (N := 21) hx hb hts i_X1 hown hK hP 10 rfl rfl 8 (by decide) (hts _ qw445) (fun _ h9 => h9) rfl dX5_useStandIns_185 ?_
          refine lv_iload_n hx hb dX5_useStandIns_188 rfl (lv_at hl 3 rfl) ?_
          refine lv_aload_n hx hb dX5_useStandIns_189 rfl (lv_at hl 0 rfl) ?_
          refine lv_aload_n hx hb dX5_useStandIns_190 rfl (lv_at hl 1 rfl) ?_
          refine va_get (D := (dC, dI)) (ci := 4) (v := .ref (p1a 9)) (C := RX1) (T := TX1) (N := 21) hx hb hts i_X1 hown hK hP 10 rfl rfl 8 (by decide) (hts _ qw445) (fun _ h9 => h9) rfl dX5_useStandIns_191 ?_
          refine lv_iload_n hx hb dX5_useStandIns_194 rfl (lv_at hl 3 rfl) ?_
          obtain ⟨hq38, hrun⟩ := chk9 hrun
          refine va_iald hx hb hK hP 16 14 rfl rfl (ixb_in hq38) dX5_useStandIns_195 ?_
          obtain ⟨o_39, hc_39, hrun⟩ := bnd9 hrun
          have hPx : va_P (dC, dI) cls ((List.flatten ([(oX5 (p0a 0) p0a p0k p0w p0l)] : List va_W)) ++ (List.flatten ([(oX1 (p1a 0) p1a p1k p1n o23 p1l), (oX9 (p1a 3) p1_2a p1_2k p1_2n o96)] : List va_W))) H := vP_fa (vP_perm hP (bP (List.Perm.refl _)))
          have hDx : va_D A ((List.flatten ([(oX5 (p0a 0) p0a p0k p0w p0l)] : List va_W)) ++ (List.flatten ([(oX1 (p1a 0) p1a p1k p1n o23 p1l), (oX9 (p1a 3) p1_2a p1_2k p1_2n o96)] : List va_W))) := vD_fa (vD_perm hD (bP (List.Perm.refl _)))
          have hKx : va_K (dC, dI) cls ((List.flatten ([(tX5 p0k)] : List (List (ClassId × FieldType)))) ++ (List.flatten ([(tX1 p1k), (tX9 p1_2k)] : List (List (ClassId × FieldType))))) s := vK_fa (vK_perm hK (bP (List.Perm.refl _)))
          have hPc := vP_l hPx
          have hDc := vD_l hDx
          have hKc := vK_l hKx
          have hFc := vfree hDx hS hA
          refine va_calli (va_runV (As := [.int (o23 9 (nn v3_7))]) (rest := [.int v3_7, .ref (p1a 9)]) ⟨hx, hb, hml, hown, hts⟩ (kX5_standInOf l dC dI (p0a := p0a) (p0k := p0k) (p0w := p0w) (p0l := p0l) (p1 := (o23 9 (nn v3_7))) (sz := _) (o := o_39) (hrun := hc_39)) (cwV 1 hts (gi_V qw541 qw542 qw543 qw442 (gi_z qw540)) rfl rfl rfl (by decide +kernel) ⟨Nat.le_of_ble_eq_true rfl, Nat.le_of_ble_eq_true rfl⟩) ⟨PRE.blind, va_recv hKc hPc (ci := 7) (q0 := 0) rfl rfl, PRE.of hE hS hFc hPc hKc hDc⟩ rfl rfl hl.1 rfl (lv_room (Nat.le_of_ble_eq_true rfl)) dX5_useStandIns_196 ⟨(Nat.le_of_ble_eq_true rfl), (Nat.le_of_ble_eq_true rfl)⟩) hS (fun q _ h => hFc q h) hFc (fun r40 u t H locs ht hvm hw hB hz1 hk1 hS => ?_)
          obtain ⟨b1, b2, b3⟩ := hB
          rw [ht] at b1
          obtain ⟨hP, hD, hK⟩ := JOINC (wc := (List.flatten ([(oX5 (p0a 0) p0a p0k p0w p0l)] : List va_W))) (wr := (List.flatten ([(oX1 (p1a 0) p1a p1k p1n o23 p1l), (oX9 (p1a 3) p1_2a p1_2k p1_2n o96)] : List va_W))) (w1 := (List.flatten ([(oX5 (p0a 0) p0a p0k p0w p0l)] : List va_W))) (t1 := (List.flatten ([(tX5 p0k)] : List (List (ClassId × FieldType))))) hPx hDx hKx hk1 hFc b1 (va_K.moved hvm.symm b2) b3
          have hP : va_P (dC, dI) cls (List.flatten ([(oX5 (p0a 0) p0a p0k p0w p0l), (oX1 (p1a 0) p1a p1k p1n o23 p1l), (oX9 (p1a 3) p1_2a p1_2k p1_2n o96)] : List va_W)) H := vP_perm (vP_fb hP) (bP (List.Perm.refl _))
          have hD : va_D A (List.flatten ([(oX5 (p0a 0) p0a p0k p0w p0l), (oX1 (p1a 0) p1a p1k p1n o23 p1l), (oX9 (p1a 3) p1_2a p1_2k p1_2n o96)] : List va_W)) := vD_perm (vD_fb hD) (bP (List.Perm.refl _))
          have hK : va_K (dC, dI) cls (List.flatten ([(tX5 p0k), (tX1 p1k), (tX9 p1_2k)] : List (List (ClassId × FieldType)))) s := vK_perm (vK_fb hK) (bP (List.Perm.refl _))
          obtain rfl : o_39 = r40 := hw.symm
          obtain ⟨hq41, hrun⟩ := chk9 hrun
          refine va_iast hx hb hK hP hD hS 16 14 rfl rfl (ixb_in hq41) dX5_useStandIns_199 (fun H locs hP hD hS => ?_)
          have hP : va_P (dC, dI) cls (List.flatten ([(oX5 (p0a 0) p0a p0k p0w p0l), (oX1 (p1a 0) p1a p1k p1n (upw o23 9 (nn v3_7) o_39) p1l), (oX9 (p1a 3) p1_2a p1_2k p1_2n o96)] : List va_W)) H := hP
          have hD : va_D A (List.flatten ([(oX5 (p0a 0) p0a p0k p0w p0l), (oX1 (p1a 0) p1a p1k p1n (upw o23 9 (nn v3_7) o_39) p1l), (oX9 (p1a 3) p1_2a p1_2k p1_2n o96)] : List va_W)) := hD
          obtain ⟨w42, ew42, hrun⟩ := let9 hrun
          rw [← ew42] at hP hD
          exact J200 w42 _ _ _ hrun hP hD hK hS (lv_sub hl [0, 1, 2, 3] rfl)
  obtain ⟨o7, hc7, hrun⟩ := bnd9 hrun
  refine L7 NF 0 p1w p1_2w o7 _ _ _ hc7 hP hD hK hS (lv_sub hl [2, 3, 1, 0] rfl) ?_
  intro H locs ls hP hD hK hS hl
  have hl := hl
  have ho9 : ((o7.1), (o7.2)) = o := Option.some.inj hrun
  have hP9 : va_P (dC, dI) cls (List.flatten ([(oX5 (p0a 0) p0a p0k p0w p0l), (oX1 (p1a 0) p1a p1k p1n (o.1) p1l), (oX9 (p1a 3) p1_2a p1_2k p1_2n (o.2))] : List va_W)) H := by first | exact hP | (rw [← ho9]; exact hP)
  have hD9 : va_D A (List.flatten ([(oX5 (p0a 0) p0a p0k p0w p0l), (oX1 (p1a 0) p1a p1k p1n (o.1) p1l), (oX9 (p1a 3) p1_2a p1_2k p1_2n (o.2))] : List va_W)) := by first | exact hD | (rw [← ho9]; exact hD)
  subst hQ
  exact W.vret hx hb hr (fun t ht hW => ⟨⟨(), rfl, trivial, ⟨by rw [ht]; exact hP9, va_K.moved hW.alike hK, hD9⟩⟩, hS.F ht⟩) hS.2.2 dX5_useStandIns_206
def fX5_joinEquals_J101 (kk73 : Int32 → Int32 → ST → Option (Int32 × ST)) (v5_73 : Int32) (v2_101 : Int32) (p0w_101 : ST) : Option (Int32 × ST) := (kk73 v2_101 (v5_73 + (-1)) p0w_101)
def fX5_joinEquals_L73 (p1w : ST) (v2_37 : Int32) (p0w_37 : ST) : Nat → Int32 → Int32 → ST → Option (Int32 × ST)
  | 0 => fun _ _ _ => none
  | n_73 + 1 => fun v2_73 v5_73 p0w_73 => (if v5_73 ≤ 0 then some (v2_73, p0w_73) else (if ixb v5_73 60 = true then (if (p1w 12 (nn v5_73)) = (p0w_37 12 (nn (v2_37 + (-1)))) then (if ixb v2_73 60 = true then (lt9 (upw p0w_73 12 (nn v2_73) v5_73) fun (w14 : ST) => (fX5_joinEquals_J101 (fX5_joinEquals_L73 p1w v2_37 p0w_37 n_73) v5_73 (v2_73 + 1) w14)) else none) else (fX5_joinEquals_J101 (fX5_joinEquals_L73 p1w v2_37 p0w_37 n_73) v5_73 v2_73 p0w_73)) else none))
def fX5_joinEquals_L37 (p1n : Nat → Nat) (p1w : ST) (p1l : SL) (p1_2n : Nat → Nat) : Nat → Int32 → Int32 → ST → ST → Option (ST × ST)
  | 0 => fun _ _ _ _ => none
  | n_37 + 1 => fun v2_37 v3_37 p0w_37 p1_2w_37 => (if v2_37 ≤ 0 then some (p0w_37, p1_2w_37) else (if 60 ≤ v3_37 then some (p0w_37, p1_2w_37) else (if ixb (v2_37 + (-1)) 60 = true then ((fX5_joinBlock p0w_37 p1n p1w p1l (p0w_37 12 (nn (v2_37 + (-1)))) p1_2n p1_2w_37).bind fun (o_9 : ST × ST) => ((fX5_joinEquals_L73 p1w v2_37 p0w_37 NF (v2_37 + (-1)) ((p1w 0 0) - 1) (o_9.1)).bind fun (o73 : Int32 × ST) => ((fX5_joinEquals_L37 p1n p1w p1l p1_2n n_37) (o73.1) (v3_37 + 1) (o73.2) (o_9.2)))) else none)))
def fX5_joinEquals_J176 (kk118 : Int32 → Int32 → ST → Option (Int32 × ST)) (v4_118 : Int32) (p0w_118 : ST) (y0_153 : Int32) (y1_153 : Int32) (y0_176 : Int32) (y1_176 : Int32) : Option (Int32 × ST) := (if ixb y1_176 250 = true then (lt9 (upw p0w_118 7 (nn y1_176) y0_176) fun (w19 : ST) => (kk118 (y1_153 + y0_153) (v4_118 + 1) w19)) else none)
def fX5_joinEquals_J153 (kk118 : Int32 → Int32 → ST → Option (Int32 × ST)) (v4_118 : Int32) (p0w_118 : ST) (y0_153 : Int32) (y1_153 : Int32) : Option (Int32 × ST) := (if ixb v4_118 250 = true then (if (p0w_118 6 (nn v4_118)) < 0 then (fX5_joinEquals_J176 kk118 v4_118 p0w_118 y0_153 y1_153 0 v4_118) else (fX5_joinEquals_J176 kk118 v4_118 p0w_118 y0_153 y1_153 1 v4_118)) else none)
def fX5_joinEquals_J148 (kk118 : Int32 → Int32 → ST → Option (Int32 × ST)) (v4_118 : Int32) (p0w_118 : ST) (y0_148 : Int32) : Option (Int32 × ST) := (fX5_joinEquals_J153 kk118 v4_118 p0w_118 1 y0_148)
def fX5_joinEquals_L118 (p1w : ST) : Nat → Int32 → Int32 → ST → Option (Int32 × ST)
  | 0 => fun _ _ _ => none
  | n_118 + 1 => fun v3_118 v4_118 p0w_118 => (if (p1w 0 1) ≤ v4_118 then some (v3_118, p0w_118) else (if ixb v4_118 250 = true then (if 0 ≤ (p0w_118 6 (nn v4_118)) then (fX5_joinEquals_J148 (fX5_joinEquals_L118 p1w n_118) v4_118 p0w_118 v3_118) else (if ixb v4_118 250 = true then (if (p0w_118 7 (nn v4_118)) = 0 then (fX5_joinEquals_J153 (fX5_joinEquals_L118 p1w n_118) v4_118 p0w_118 0 v3_118) else (fX5_joinEquals_J148 (fX5_joinEquals_L118 p1w n_118) v4_118 p0w_118 v3_118)) else none)) else none))
def fX5_joinEquals (p0w : ST) (p1n : Nat → Nat) (p1w : ST) (p1l : SL) (p1_2n : Nat → Nat) (p1_2w : ST) : Option (Int32 × ST × ST × ST) := ((fX5_findGivers p0w p1n p1w p1_2n p1_2w).bind fun (o_1 : ST) => ((fJ7_fill_53178 250 (o_1 6) (-1)).bind fun (o_2 : RI) => ((fJ7_fill_53178 250 ((srw o_1 6 o_2) 7) 0).bind fun (o_3 : RI) => (lt9 (upw (srw (srw o_1 6 o_2) 7 o_3) 0 10 0) fun (w4 : ST) => (lt9 (upw w4 12 (nn 0) 0) fun (w5 : ST) => ((fX5_joinEquals_L37 p1n p1w p1l p1_2n NF 1 0 w5 p1_2w).bind fun (o37 : ST × ST) => ((fX5_joinEquals_L118 p1w NF 0 0 (o37.1)).bind fun (o118 : Int32 × ST) => ((fX1_leaveOut p1n p1w 250 ((o118.2) 7) p1_2n (o37.2)).bind fun (o_24 : ST × ST) => ((fX5_useStandIns (o118.2) p1n (o_24.1) p1_2n (o_24.2)).bind fun (o_25 : ST × ST) => some ((o118.1), (o118.2), (o_25.1), (o_25.2)))))))))))
set_option maxHeartbeats 16000000 in
set_option maxRecDepth 100000 in
theorem kX5_joinEquals {zs : ZS} (l : Launch) (dC : Nat → ClassId) (dI : Nat → Nat → Nat) (p0a : Nat → Nat) (p0k : Nat → ClassId) (p0w : ST) (p0l : SL) (p1a : Nat → Nat) (p1k : Nat → ClassId) (p1n : Nat → Nat) (p1w : ST) (p1l : SL) (p1_2a : Nat → Nat) (p1_2k : Nat → ClassId) (p1_2n : Nat → Nat) (p1_2w : ST) (sz : Nat) (o : Int32 × ST × ST × ST) (hrun : fX5_joinEquals p0w p1n p1w p1l p1_2n p1_2w = some o) : Met l yX5_joinEquals (wz yX5_joinEquals cX5_joinEquals 6 (Option.some Jvm.ClassFile.FieldType.int)) ({ frames := 5, cells := 0, slots := 0, locals := 120 } : Room) (va_Pc [.ref (p0a 0), .ref (p1a 0)] (PRE zs dC dI (List.flatten ([(oX5 (p0a 0) p0a p0k p0w p0l), (oX1 (p1a 0) p1a p1k p1n p1w p1l), (oX9 (p1a 3) p1_2a p1_2k p1_2n p1_2w)] : List va_W)) (List.flatten ([(tX5 p0k), (tX1 p1k), (tX9 p1_2k)] : List (List (ClassId × FieldType)))) sz)) (va_Qi (fun (r : Int32) (_ : Unit) => r = (o.1)) (fun _ t => POST dC dI (List.flatten ([(oX5 (p0a 0) p0a p0k (o.2.1) p0l), (oX1 (p1a 0) p1a p1k p1n (o.2.2.1) p1l), (oX9 (p1a 3) p1_2a p1_2k p1_2n (o.2.2.2))] : List va_W)) (List.flatten ([(tX5 p0k), (tX1 p1k), (tX9 p1_2k)] : List (List (ClassId × FieldType)))) (va_A (List.flatten ([(oX5 (p0a 0) p0a p0k p0w p0l), (oX1 (p1a 0) p1a p1k p1n p1w p1l), (oX9 (p1a 3) p1_2a p1_2k p1_2n p1_2w)] : List va_W)) sz) t) (va_A (List.flatten ([(oX5 (p0a 0) p0a p0k p0w p0l), (oX1 (p1a 0) p1a p1k p1n p1w p1l), (oX9 (p1a 3) p1_2a p1_2k p1_2n p1_2w)] : List va_W)) sz)) 0 0 (va_A (List.flatten ([(oX5 (p0a 0) p0a p0k p0w p0l), (oX1 (p1a 0) p1a p1k p1n p1w p1l), (oX9 (p1a 3) p1_2a p1_2k p1_2n p1_2w)] : List va_W)) sz) := by
  refine Met.ofW (cc := cX5_joinEquals) (maxL := 6) (ret := (Option.some Jvm.ClassFile.FieldType.int)) (by decide) rfl ?_
  intro p e s m args below meth c s₁ B hml hv
  obtain ⟨rfl, hsz, hP, hK, hD0, hE⟩ := hv
  have hx := B.exec
  have hb := B.bytes
  have hr := B.returns
  have hts0 := atoms_spec (ws := wz yX5_joinEquals cX5_joinEquals 6 (Option.some Jvm.ClassFile.FieldType.int)) B.pre
  have hts : ∀ w ∈ gw, w.before _ s = true := fun w h => hts0 w (List.mem_cons_of_mem _ h)
  have hown : s.vm.findClass RX5 = some m.cls := findClass_of_methodNamed B.named
  have hlocks := B.notSynchronized
  subst hsz
  have hD := hD0.self (sz := s.heap.size)
  refine gQ9 ?_
  intro Q hQ
  generalize hAe : va_A (List.flatten ([(oX5 (p0a 0) p0a p0k p0w p0l), (oX1 (p1a 0) p1a p1k p1n p1w p1l), (oX9 (p1a 3) p1_2a p1_2k p1_2n p1_2w)] : List va_W)) s.heap.size = A at hD hE hQ
  have hA : ∀ q : Nat, s.heap.size ≤ q → A q := fun q h => by rw [← hAe]; exact Or.inr h
  have hS : va_S A s.heap s.heap [] := va_S.rf
  have hP : va_P (dC, dI) cls (List.flatten ([(oX5 (p0a 0) p0a p0k p0w p0l), (oX1 (p1a 0) p1a p1k p1n p1w p1l), (oX9 (p1a 3) p1_2a p1_2k p1_2n p1_2w)] : List va_W)) s.heap := hP
  have hl := lv_entry ([.ref (p0a 0), .ref (p1a 0)]) (n := 6) (Nat.le_of_ble_eq_true rfl)
  rw [lg_entry_eq]
  generalize (lg_sl ([.ref (p0a 0), .ref (p1a 0)]) ++ List.replicate (6 - (lg_sl ([.ref (p0a 0), .ref (p1a 0)])).length) Slot.unset).toArray = ls at hl ⊢
  have hl : lv_has ls 6 [(0, .ref (p0a 0)), (1, .ref (p1a 0))] := hl
  obtain ⟨H, hHe⟩ : ∃ H, H = s.heap := ⟨_, rfl⟩
  obtain ⟨locs, hle⟩ : ∃ locs : List Loc, locs = [] := ⟨_, rfl⟩
  rw [← hHe] at hP
  have hS : va_S A s.heap H locs := by rw [hHe, hle]; exact hS
  show W p l e ({ frames := 5, cells := 0, slots := 0, locals := 120 } : Room) s m ([.ref (p0a 0), .ref (p1a 0)] : List Value).toArray below meth c s.heap [] 0 0 Q (F0 m 0 ls [])
  rw [← hle]
  refine wH9 hHe ?_
  unfold fX5_joinEquals at hrun
  refine lv_aload_n hx hb dX5_joinEquals_0 rfl (lv_at hl 0 rfl) ?_
  refine lv_aload_n hx hb dX5_joinEquals_1 rfl (lv_at hl 1 rfl) ?_
  obtain ⟨o_1, hc_1, hrun⟩ := bnd9 hrun
  have hPx : va_P (dC, dI) cls ((List.flatten ([(oX5 (p0a 0) p0a p0k p0w p0l), (oX1 (p1a 0) p1a p1k p1n p1w p1l), (oX9 (p1a 3) p1_2a p1_2k p1_2n p1_2w)] : List va_W)) ++ (List.flatten ([] : List va_W))) H := vP_fa (vP_perm hP (bP (List.Perm.refl _)))
  have hDx : va_D A ((List.flatten ([(oX5 (p0a 0) p0a p0k p0w p0l), (oX1 (p1a 0) p1a p1k p1n p1w p1l), (oX9 (p1a 3) p1_2a p1_2k p1_2n p1_2w)] : List va_W)) ++ (List.flatten ([] : List va_W))) := vD_fa (vD_perm hD (bP (List.Perm.refl _)))
  have hKx : va_K (dC, dI) cls ((List.flatten ([(tX5 p0k), (tX1 p1k), (tX9 p1_2k)] : List (List (ClassId × FieldType)))) ++ (List.flatten ([] : List (List (ClassId × FieldType))))) s := vK_fa (vK_perm hK (bP (List.Perm.refl _)))
  have hPc := vP_l hPx
  have hDc := vD_l hDx
  have hKc := vK_l hKx
  have hFc := vfree hDx hS hA
  refine va_callv (va_runV (As := [.ref (p1a 0)]) (rest := []) ⟨hx, hb, hml, hown, hts⟩ (kX5_findGivers l dC dI (p0a := p0a) (p0k := p0k) (p0w := p0w) (p0l := p0l) (p1a := p1a) (p1k := p1k) (p1n := p1n) (p1w := p1w) (p1l := p1l) (p1_2a := p1_2a) (p1_2k := p1_2k) (p1_2n := p1_2n) (p1_2w := p1_2w) (sz := _) (o := o_1) (hrun := hc_1)) (cwV 1 hts (gi_V qw439 qw440 qw441 qw442 (gi_z qw438)) rfl rfl rfl (by decide +kernel) ⟨Nat.le_of_ble_eq_true rfl, Nat.le_of_ble_eq_true rfl⟩) ⟨PRE.blind, va_recv hKc hPc (ci := 7) (q0 := 0) rfl rfl, PRE.of hE hS hFc hPc hKc hDc⟩ rfl rfl hl.1 rfl (lv_room (Nat.le_of_ble_eq_true rfl)) dX5_joinEquals_2 ⟨(Nat.le_of_ble_eq_true rfl), (Nat.le_of_ble_eq_true rfl)⟩) hS (fun q _ h => hFc q h) hFc (fun u t H locs ht hvm hw hB hz1 hk1 hS => ?_)
  obtain ⟨b1, b2, b3⟩ := hB
  rw [ht] at b1
  obtain ⟨hP, hD, hK⟩ := JOINC (wc := (List.flatten ([(oX5 (p0a 0) p0a p0k p0w p0l), (oX1 (p1a 0) p1a p1k p1n p1w p1l), (oX9 (p1a 3) p1_2a p1_2k p1_2n p1_2w)] : List va_W))) (wr := (List.flatten ([] : List va_W))) (w1 := (List.flatten ([(oX5 (p0a 0) p0a p0k o_1 p0l), (oX1 (p1a 0) p1a p1k p1n p1w p1l), (oX9 (p1a 3) p1_2a p1_2k p1_2n p1_2w)] : List va_W))) (t1 := (List.flatten ([(tX5 p0k), (tX1 p1k), (tX9 p1_2k)] : List (List (ClassId × FieldType))))) hPx hDx hKx hk1 hFc b1 (va_K.moved hvm.symm b2) b3
  have hP : va_P (dC, dI) cls (List.flatten ([(oX5 (p0a 0) p0a p0k o_1 p0l), (oX1 (p1a 0) p1a p1k p1n p1w p1l), (oX9 (p1a 3) p1_2a p1_2k p1_2n p1_2w)] : List va_W)) H := vP_perm (vP_fb hP) (bP (List.Perm.refl _))
  have hD : va_D A (List.flatten ([(oX5 (p0a 0) p0a p0k o_1 p0l), (oX1 (p1a 0) p1a p1k p1n p1w p1l), (oX9 (p1a 3) p1_2a p1_2k p1_2n p1_2w)] : List va_W)) := vD_perm (vD_fb hD) (bP (List.Perm.refl _))
  have hK : va_K (dC, dI) cls (List.flatten ([(tX5 p0k), (tX1 p1k), (tX9 p1_2k)] : List (List (ClassId × FieldType)))) s := vK_perm (vK_fb hK) (bP (List.Perm.refl _))
  refine lv_aload_n hx hb dX5_joinEquals_5 rfl (lv_at hl 0 rfl) ?_
  refine va_get (D := (dC, dI)) (ci := 7) (v := .ref (p0a 6)) (C := RX5) (T := TX5) (N := 12) hx hb hts i_X5 hown hK hP 0 rfl rfl 5 (by decide) (hts _ qw539) (fun _ h9 => h9) rfl dX5_joinEquals_6 ?_
  refine lv_iconst (v := (-1)) hx hb dX5_joinEquals_9 (by decide) ?_
  obtain ⟨o_2, hc_2, hrun⟩ := bnd9 hrun
  have hP2 : va_P (dC, dI) cls (List.flatten ([[((p0a 6), .inl ((p0k 6), 250, .inl (o_1 6)))], [((p0a 0), .inr (7, [.ref (p0a 1), .ref (p0a 2), .ref (p0a 3), .ref (p0a 4), .ref (p0a 5), .ref (p0a 6), .ref (p0a 7), .long (p0l 0 7), .ref (p0a 9), .ref (p0a 10), .int (o_1 0 10), .ref (p0a 12)])), ((p0a 2), .inl ((p0k 2), 250, .inl (o_1 2))), ((p0a 3), .inl ((p0k 3), 250, .inl (o_1 3))), ((p0a 4), .inl ((p0k 4), 250, .inl (o_1 4))), ((p0a 5), .inl ((p0k 5), 250, .inl (o_1 5))), ((p0a 7), .inl ((p0k 7), 250, .inl (o_1 7))), ((p0a 9), .inl ((p0k 9), 250, .inl (o_1 9))), ((p0a 10), .inl ((p0k 10), 250, .inl (o_1 10))), ((p0a 12), .inl ((p0k 12), 60, .inl (o_1 12)))], (oX1 (p1a 0) p1a p1k p1n p1w p1l), (oX9 (p1a 3) p1_2a p1_2k p1_2n p1_2w)] : List va_W)) H := vP_perm hP ((bP (List.Perm.refl _)).trans (List.Perm.append_right _ (List.perm_middle (a := (((p0a 6), .inl ((p0k 6), 250, .inl (o_1 6))) : Nat × va_E)) (l₁ := ([((p0a 0), .inr (7, [.ref (p0a 1), .ref (p0a 2), .ref (p0a 3), .ref (p0a 4), .ref (p0a 5), .ref (p0a 6), .ref (p0a 7), .long (p0l 0 7), .ref (p0a 9), .ref (p0a 10), .int (o_1 0 10), .ref (p0a 12)])), ((p0a 2), .inl ((p0k 2), 250, .inl (o_1 2))), ((p0a 3), .inl ((p0k 3), 250, .inl (o_1 3))), ((p0a 4), .inl ((p0k 4), 250, .inl (o_1 4))), ((p0a 5), .inl ((p0k 5), 250, .inl (o_1 5)))] : va_W)) (l₂ := ([((p0a 7), .inl ((p0k 7), 250, .inl (o_1 7))), ((p0a 9), .inl ((p0k 9), 250, .inl (o_1 9))), ((p0a 10), .inl ((p0k 10), 250, .inl (o_1 10))), ((p0a 12), .inl ((p0k 12), 60, .inl (o_1 12)))] : va_W)))))
  have hD2 : va_D A (List.flatten ([[((p0a 6), .inl ((p0k 6), 250, .inl (o_1 6)))], [((p0a 0), .inr (7, [.ref (p0a 1), .ref (p0a 2), .ref (p0a 3), .ref (p0a 4), .ref (p0a 5), .ref (p0a 6), .ref (p0a 7), .long (p0l 0 7), .ref (p0a 9), .ref (p0a 10), .int (o_1 0 10), .ref (p0a 12)])), ((p0a 2), .inl ((p0k 2), 250, .inl (o_1 2))), ((p0a 3), .inl ((p0k 3), 250, .inl (o_1 3))), ((p0a 4), .inl ((p0k 4), 250, .inl (o_1 4))), ((p0a 5), .inl ((p0k 5), 250, .inl (o_1 5))), ((p0a 7), .inl ((p0k 7), 250, .inl (o_1 7))), ((p0a 9), .inl ((p0k 9), 250, .inl (o_1 9))), ((p0a 10), .inl ((p0k 10), 250, .inl (o_1 10))), ((p0a 12), .inl ((p0k 12), 60, .inl (o_1 12)))], (oX1 (p1a 0) p1a p1k p1n p1w p1l), (oX9 (p1a 3) p1_2a p1_2k p1_2n p1_2w)] : List va_W)) := vD_perm hD ((bP (List.Perm.refl _)).trans (List.Perm.append_right _ (List.perm_middle (a := (((p0a 6), .inl ((p0k 6), 250, .inl (o_1 6))) : Nat × va_E)) (l₁ := ([((p0a 0), .inr (7, [.ref (p0a 1), .ref (p0a 2), .ref (p0a 3), .ref (p0a 4), .ref (p0a 5), .ref (p0a 6), .ref (p0a 7), .long (p0l 0 7), .ref (p0a 9), .ref (p0a 10), .int (o_1 0 10), .ref (p0a 12)])), ((p0a 2), .inl ((p0k 2), 250, .inl (o_1 2))), ((p0a 3), .inl ((p0k 3), 250, .inl (o_1 3))), ((p0a 4), .inl ((p0k 4), 250, .inl (o_1 4))), ((p0a 5), .inl ((p0k 5), 250, .inl (o_1 5)))] : va_W)) (l₂ := ([((p0a 7), .inl ((p0k 7), 250, .inl (o_1 7))), ((p0a 9), .inl ((p0k 9), 250, .inl (o_1 9))), ((p0a 10), .inl ((p0k 10), 250, .inl (o_1 10))), ((p0a 12), .inl ((p0k 12), 60, .inl (o_1 12)))] : va_W)))))
  have hK2 : va_K (dC, dI) cls (List.flatten ([[((p0k 6), .int)], [((p0k 2), .int), ((p0k 3), .int), ((p0k 4), .int), ((p0k 5), .int), ((p0k 7), .int), ((p0k 9), .int), ((p0k 10), .int), ((p0k 12), .int)], (tX1 p1k), (tX9 p1_2k)] : List (List (ClassId × FieldType)))) s := vK_perm hK ((bP (List.Perm.refl _)).trans (List.Perm.append_right _ (List.perm_middle (a := (((p0k 6), .int) : ClassId × FieldType)) (l₁ := ([((p0k 2), .int), ((p0k 3), .int), ((p0k 4), .int), ((p0k 5), .int)] : List (ClassId × FieldType))) (l₂ := ([((p0k 7), .int), ((p0k 9), .int), ((p0k 10), .int), ((p0k 12), .int)] : List (ClassId × FieldType))))))
  have hPx : va_P (dC, dI) cls ((List.flatten ([[((p0a 6), .inl ((p0k 6), 250, .inl (o_1 6)))]] : List va_W)) ++ (List.flatten ([[((p0a 0), .inr (7, [.ref (p0a 1), .ref (p0a 2), .ref (p0a 3), .ref (p0a 4), .ref (p0a 5), .ref (p0a 6), .ref (p0a 7), .long (p0l 0 7), .ref (p0a 9), .ref (p0a 10), .int (o_1 0 10), .ref (p0a 12)])), ((p0a 2), .inl ((p0k 2), 250, .inl (o_1 2))), ((p0a 3), .inl ((p0k 3), 250, .inl (o_1 3))), ((p0a 4), .inl ((p0k 4), 250, .inl (o_1 4))), ((p0a 5), .inl ((p0k 5), 250, .inl (o_1 5))), ((p0a 7), .inl ((p0k 7), 250, .inl (o_1 7))), ((p0a 9), .inl ((p0k 9), 250, .inl (o_1 9))), ((p0a 10), .inl ((p0k 10), 250, .inl (o_1 10))), ((p0a 12), .inl ((p0k 12), 60, .inl (o_1 12)))], (oX1 (p1a 0) p1a p1k p1n p1w p1l), (oX9 (p1a 3) p1_2a p1_2k p1_2n p1_2w)] : List va_W))) H := vP_fa (vP_perm hP2 (bP (List.Perm.refl _)))
  have hDx : va_D A ((List.flatten ([[((p0a 6), .inl ((p0k 6), 250, .inl (o_1 6)))]] : List va_W)) ++ (List.flatten ([[((p0a 0), .inr (7, [.ref (p0a 1), .ref (p0a 2), .ref (p0a 3), .ref (p0a 4), .ref (p0a 5), .ref (p0a 6), .ref (p0a 7), .long (p0l 0 7), .ref (p0a 9), .ref (p0a 10), .int (o_1 0 10), .ref (p0a 12)])), ((p0a 2), .inl ((p0k 2), 250, .inl (o_1 2))), ((p0a 3), .inl ((p0k 3), 250, .inl (o_1 3))), ((p0a 4), .inl ((p0k 4), 250, .inl (o_1 4))), ((p0a 5), .inl ((p0k 5), 250, .inl (o_1 5))), ((p0a 7), .inl ((p0k 7), 250, .inl (o_1 7))), ((p0a 9), .inl ((p0k 9), 250, .inl (o_1 9))), ((p0a 10), .inl ((p0k 10), 250, .inl (o_1 10))), ((p0a 12), .inl ((p0k 12), 60, .inl (o_1 12)))], (oX1 (p1a 0) p1a p1k p1n p1w p1l), (oX9 (p1a 3) p1_2a p1_2k p1_2n p1_2w)] : List va_W))) := vD_fa (vD_perm hD2 (bP (List.Perm.refl _)))
  have hKx : va_K (dC, dI) cls ((List.flatten ([[((p0k 6), .int)]] : List (List (ClassId × FieldType)))) ++ (List.flatten ([[((p0k 2), .int), ((p0k 3), .int), ((p0k 4), .int), ((p0k 5), .int), ((p0k 7), .int), ((p0k 9), .int), ((p0k 10), .int), ((p0k 12), .int)], (tX1 p1k), (tX9 p1_2k)] : List (List (ClassId × FieldType))))) s := vK_fa (vK_perm hK2 (bP (List.Perm.refl _)))
  have hPc := vP_l hPx
  have hDc := vD_l hDx
  have hKc := vK_l hKx
  have hFc := vfree hDx hS hA
  refine va_callv (va_runS (As := [.ref (p0a 6), .int (-1)]) (rest := []) ⟨hx, hb, hml, hown, hts⟩ (kJ7_fill_53178 l dC dI (p0a := (p0a 6)) (p0k := (p0k 6)) (p0n := 250) (p0f := (o_1 6)) (p1 := (-1)) (sz := _) (o := o_2) (hrun := hc_2)) (va_cwS 2 hts (gi_S qw428 qw218 qw109 (gi_z qw216)) rfl rfl rfl (by decide +kernel) ⟨Nat.le_of_ble_eq_true rfl, Nat.le_of_ble_eq_true rfl⟩) ⟨PRE.blind, PRE.of hE hS hFc hPc hKc hDc⟩ rfl rfl hl.1 rfl (lv_room (Nat.le_of_ble_eq_true rfl)) dX5_joinEquals_10 ⟨(Nat.le_of_ble_eq_true rfl), (Nat.le_of_ble_eq_true rfl)⟩) hS (fun q _ h => hFc q h) hFc (fun u t H locs ht hvm hw hB hz1 hk1 hS => ?_)
  obtain ⟨b1, b2, b3⟩ := hB
  rw [ht] at b1
  obtain ⟨hP, hD, hK⟩ := JOINC (wc := (List.flatten ([[((p0a 6), .inl ((p0k 6), 250, .inl (o_1 6)))]] : List va_W))) (wr := (List.flatten ([[((p0a 0), .inr (7, [.ref (p0a 1), .ref (p0a 2), .ref (p0a 3), .ref (p0a 4), .ref (p0a 5), .ref (p0a 6), .ref (p0a 7), .long (p0l 0 7), .ref (p0a 9), .ref (p0a 10), .int (o_1 0 10), .ref (p0a 12)])), ((p0a 2), .inl ((p0k 2), 250, .inl (o_1 2))), ((p0a 3), .inl ((p0k 3), 250, .inl (o_1 3))), ((p0a 4), .inl ((p0k 4), 250, .inl (o_1 4))), ((p0a 5), .inl ((p0k 5), 250, .inl (o_1 5))), ((p0a 7), .inl ((p0k 7), 250, .inl (o_1 7))), ((p0a 9), .inl ((p0k 9), 250, .inl (o_1 9))), ((p0a 10), .inl ((p0k 10), 250, .inl (o_1 10))), ((p0a 12), .inl ((p0k 12), 60, .inl (o_1 12)))], (oX1 (p1a 0) p1a p1k p1n p1w p1l), (oX9 (p1a 3) p1_2a p1_2k p1_2n p1_2w)] : List va_W))) (w1 := (List.flatten ([[((p0a 6), .inl ((p0k 6), 250, .inl ((srw o_1 6 o_2) 6)))]] : List va_W))) (t1 := (List.flatten ([[((p0k 6), .int)]] : List (List (ClassId × FieldType))))) hPx hDx hKx hk1 hFc b1 (va_K.moved hvm.symm b2) b3
  have hP3 : va_P (dC, dI) cls (List.flatten ([(oX5 (p0a 0) p0a p0k (srw o_1 6 o_2) p0l), (oX1 (p1a 0) p1a p1k p1n p1w p1l), (oX9 (p1a 3) p1_2a p1_2k p1_2n p1_2w)] : List va_W)) H := vP_perm (vP_fb hP) ((bP (List.Perm.refl _)).trans (List.Perm.append_right _ (List.perm_middle (a := (((p0a 6), .inl ((p0k 6), 250, .inl ((srw o_1 6 o_2) 6))) : Nat × va_E)) (l₁ := ([((p0a 0), .inr (7, [.ref (p0a 1), .ref (p0a 2), .ref (p0a 3), .ref (p0a 4), .ref (p0a 5), .ref (p0a 6), .ref (p0a 7), .long (p0l 0 7), .ref (p0a 9), .ref (p0a 10), .int ((srw o_1 6 o_2) 0 10), .ref (p0a 12)])), ((p0a 2), .inl ((p0k 2), 250, .inl ((srw o_1 6 o_2) 2))), ((p0a 3), .inl ((p0k 3), 250, .inl ((srw o_1 6 o_2) 3))), ((p0a 4), .inl ((p0k 4), 250, .inl ((srw o_1 6 o_2) 4))), ((p0a 5), .inl ((p0k 5), 250, .inl ((srw o_1 6 o_2) 5)))] : va_W)) (l₂ := ([((p0a 7), .inl ((p0k 7), 250, .inl ((srw o_1 6 o_2) 7))), ((p0a 9), .inl ((p0k 9), 250, .inl ((srw o_1 6 o_2) 9))), ((p0a 10), .inl ((p0k 10), 250, .inl ((srw o_1 6 o_2) 10))), ((p0a 12), .inl ((p0k 12), 60, .inl ((srw o_1 6 o_2) 12)))] : va_W))).symm))
  have hD3 : va_D A (List.flatten ([(oX5 (p0a 0) p0a p0k (srw o_1 6 o_2) p0l), (oX1 (p1a 0) p1a p1k p1n p1w p1l), (oX9 (p1a 3) p1_2a p1_2k p1_2n p1_2w)] : List va_W)) := vD_perm (vD_fb hD) ((bP (List.Perm.refl _)).trans (List.Perm.append_right _ (List.perm_middle (a := (((p0a 6), .inl ((p0k 6), 250, .inl ((srw o_1 6 o_2) 6))) : Nat × va_E)) (l₁ := ([((p0a 0), .inr (7, [.ref (p0a 1), .ref (p0a 2), .ref (p0a 3), .ref (p0a 4), .ref (p0a 5), .ref (p0a 6), .ref (p0a 7), .long (p0l 0 7), .ref (p0a 9), .ref (p0a 10), .int ((srw o_1 6 o_2) 0 10), .ref (p0a 12)])), ((p0a 2), .inl ((p0k 2), 250, .inl ((srw o_1 6 o_2) 2))), ((p0a 3), .inl ((p0k 3), 250, .inl ((srw o_1 6 o_2) 3))), ((p0a 4), .inl ((p0k 4), 250, .inl ((srw o_1 6 o_2) 4))), ((p0a 5), .inl ((p0k 5), 250, .inl ((srw o_1 6 o_2) 5)))] : va_W)) (l₂ := ([((p0a 7), .inl ((p0k 7), 250, .inl ((srw o_1 6 o_2) 7))), ((p0a 9), .inl ((p0k 9), 250, .inl ((srw o_1 6 o_2) 9))), ((p0a 10), .inl ((p0k 10), 250, .inl ((srw o_1 6 o_2) 10))), ((p0a 12), .inl ((p0k 12), 60, .inl ((srw o_1 6 o_2) 12)))] : va_W))).symm))
  have hK3 : va_K (dC, dI) cls (List.flatten ([(tX5 p0k), (tX1 p1k), (tX9 p1_2k)] : List (List (ClassId × FieldType)))) s := vK_perm (vK_fb hK) ((bP (List.Perm.refl _)).trans (List.Perm.append_right _ (List.perm_middle (a := (((p0k 6), .int) : ClassId × FieldType)) (l₁ := ([((p0k 2), .int), ((p0k 3), .int), ((p0k 4), .int), ((p0k 5), .int)] : List (ClassId × FieldType))) (l₂ := ([((p0k 7), .int), ((p0k 9), .int), ((p0k 10), .int), ((p0k 12), .int)] : List (ClassId × FieldType)))).symm))
  have hP : va_P (dC, dI) cls (List.flatten ([(oX5 (p0a 0) p0a p0k (srw o_1 6 o_2) p0l), (oX1 (p1a 0) p1a p1k p1n p1w p1l), (oX9 (p1a 3) p1_2a p1_2k p1_2n p1_2w)] : List va_W)) H := vP_perm hP3 (bP (List.Perm.refl _))
  have hD : va_D A (List.flatten ([(oX5 (p0a 0) p0a p0k (srw o_1 6 o_2) p0l), (oX1 (p1a 0) p1a p1k p1n p1w p1l), (oX9 (p1a 3) p1_2a p1_2k p1_2n p1_2w)] : List va_W)) := vD_perm hD3 (bP (List.Perm.refl _))
  have hK : va_K (dC, dI) cls (List.flatten ([(tX5 p0k), (tX1 p1k), (tX9 p1_2k)] : List (List (ClassId × FieldType)))) s := vK_perm hK3 (bP (List.Perm.refl _))
  refine lv_aload_n hx hb dX5_joinEquals_13 rfl (lv_at hl 0 rfl) ?_
  refine va_get (D := (dC, dI)) (ci := 7) (v := .ref (p0a 7)) (C := RX5) (T := TX5) (N := 12) hx hb hts i_X5 hown hK hP 0 rfl rfl 6 (by decide) (hts _ qw443) (fun _ h9 => h9) rfl dX5_joinEquals_14 ?_
  refine lv_iconst (v := 0) hx hb dX5_joinEquals_17 (by decide) ?_
  obtain ⟨o_3, hc_3, hrun⟩ := bnd9 hrun
  have hP2 : va_P (dC, dI) cls (List.flatten ([[((p0a 7), .inl ((p0k 7), 250, .inl ((srw o_1 6 o_2) 7)))], [((p0a 0), .inr (7, [.ref (p0a 1), .ref (p0a 2), .ref (p0a 3), .ref (p0a 4), .ref (p0a 5), .ref (p0a 6), .ref (p0a 7), .long (p0l 0 7), .ref (p0a 9), .ref (p0a 10), .int ((srw o_1 6 o_2) 0 10), .ref (p0a 12)])), ((p0a 2), .inl ((p0k 2), 250, .inl ((srw o_1 6 o_2) 2))), ((p0a 3), .inl ((p0k 3), 250, .inl ((srw o_1 6 o_2) 3))), ((p0a 4), .inl ((p0k 4), 250, .inl ((srw o_1 6 o_2) 4))), ((p0a 5), .inl ((p0k 5), 250, .inl ((srw o_1 6 o_2) 5))), ((p0a 6), .inl ((p0k 6), 250, .inl ((srw o_1 6 o_2) 6))), ((p0a 9), .inl ((p0k 9), 250, .inl ((srw o_1 6 o_2) 9))), ((p0a 10), .inl ((p0k 10), 250, .inl ((srw o_1 6 o_2) 10))), ((p0a 12), .inl ((p0k 12), 60, .inl ((srw o_1 6 o_2) 12)))], (oX1 (p1a 0) p1a p1k p1n p1w p1l), (oX9 (p1a 3) p1_2a p1_2k p1_2n p1_2w)] : List va_W)) H := vP_perm hP ((bP (List.Perm.refl _)).trans (List.Perm.append_right _ (List.perm_middle (a := (((p0a 7), .inl ((p0k 7), 250, .inl ((srw o_1 6 o_2) 7))) : Nat × va_E)) (l₁ := ([((p0a 0), .inr (7, [.ref (p0a 1), .ref (p0a 2), .ref (p0a 3), .ref (p0a 4), .ref (p0a 5), .ref (p0a 6), .ref (p0a 7), .long (p0l 0 7), .ref (p0a 9), .ref (p0a 10), .int ((srw o_1 6 o_2) 0 10), .ref (p0a 12)])), ((p0a 2), .inl ((p0k 2), 250, .inl ((srw o_1 6 o_2) 2))), ((p0a 3), .inl ((p0k 3), 250, .inl ((srw o_1 6 o_2) 3))), ((p0a 4), .inl ((p0k 4), 250, .inl ((srw o_1 6 o_2) 4))), ((p0a 5), .inl ((p0k 5), 250, .inl ((srw o_1 6 o_2) 5))), ((p0a 6), .inl ((p0k 6), 250, .inl ((srw o_1 6 o_2) 6)))] : va_W)) (l₂ := ([((p0a 9), .inl ((p0k 9), 250, .inl ((srw o_1 6 o_2) 9))), ((p0a 10), .inl ((p0k 10), 250, .inl ((srw o_1 6 o_2) 10))), ((p0a 12), .inl ((p0k 12), 60, .inl ((srw o_1 6 o_2) 12)))] : va_W)))))
  have hD2 : va_D A (List.flatten ([[((p0a 7), .inl ((p0k 7), 250, .inl ((srw o_1 6 o_2) 7)))], [((p0a 0), .inr (7, [.ref (p0a 1), .ref (p0a 2), .ref (p0a 3), .ref (p0a 4), .ref (p0a 5), .ref (p0a 6), .ref (p0a 7), .long (p0l 0 7), .ref (p0a 9), .ref (p0a 10), .int ((srw o_1 6 o_2) 0 10), .ref (p0a 12)])), ((p0a 2), .inl ((p0k 2), 250, .inl ((srw o_1 6 o_2) 2))), ((p0a 3), .inl ((p0k 3), 250, .inl ((srw o_1 6 o_2) 3))), ((p0a 4), .inl ((p0k 4), 250, .inl ((srw o_1 6 o_2) 4))), ((p0a 5), .inl ((p0k 5), 250, .inl ((srw o_1 6 o_2) 5))), ((p0a 6), .inl ((p0k 6), 250, .inl ((srw o_1 6 o_2) 6))), ((p0a 9), .inl ((p0k 9), 250, .inl ((srw o_1 6 o_2) 9))), ((p0a 10), .inl ((p0k 10), 250, .inl ((srw o_1 6 o_2) 10))), ((p0a 12), .inl ((p0k 12), 60, .inl ((srw o_1 6 o_2) 12)))], (oX1 (p1a 0) p1a p1k p1n p1w p1l), (oX9 (p1a 3) p1_2a p1_2k p1_2n p1_2w)] : List va_W)) := vD_perm hD ((bP (List.Perm.refl _)).trans (List.Perm.append_right _ (List.perm_middle (a := (((p0a 7), .inl ((p0k 7), 250, .inl ((srw o_1 6 o_2) 7))) : Nat × va_E)) (l₁ := ([((p0a 0), .inr (7, [.ref (p0a 1), .ref (p0a 2), .ref (p0a 3), .ref (p0a 4), .ref (p0a 5), .ref (p0a 6), .ref (p0a 7), .long (p0l 0 7), .ref (p0a 9), .ref (p0a 10), .int ((srw o_1 6 o_2) 0 10), .ref (p0a 12)])), ((p0a 2), .inl ((p0k 2), 250, .inl ((srw o_1 6 o_2) 2))), ((p0a 3), .inl ((p0k 3), 250, .inl ((srw o_1 6 o_2) 3))), ((p0a 4), .inl ((p0k 4), 250, .inl ((srw o_1 6 o_2) 4))), ((p0a 5), .inl ((p0k 5), 250, .inl ((srw o_1 6 o_2) 5))), ((p0a 6), .inl ((p0k 6), 250, .inl ((srw o_1 6 o_2) 6)))] : va_W)) (l₂ := ([((p0a 9), .inl ((p0k 9), 250, .inl ((srw o_1 6 o_2) 9))), ((p0a 10), .inl ((p0k 10), 250, .inl ((srw o_1 6 o_2) 10))), ((p0a 12), .inl ((p0k 12), 60, .inl ((srw o_1 6 o_2) 12)))] : va_W)))))
  have hK2 : va_K (dC, dI) cls (List.flatten ([[((p0k 7), .int)], [((p0k 2), .int), ((p0k 3), .int), ((p0k 4), .int), ((p0k 5), .int), ((p0k 6), .int), ((p0k 9), .int), ((p0k 10), .int), ((p0k 12), .int)], (tX1 p1k), (tX9 p1_2k)] : List (List (ClassId × FieldType)))) s := vK_perm hK ((bP (List.Perm.refl _)).trans (List.Perm.append_right _ (List.perm_middle (a := (((p0k 7), .int) : ClassId × FieldType)) (l₁ := ([((p0k 2), .int), ((p0k 3), .int), ((p0k 4), .int), ((p0k 5), .int), ((p0k 6), .int)] : List (ClassId × FieldType))) (l₂ := ([((p0k 9), .int), ((p0k 10), .int), ((p0k 12), .int)] : List (ClassId × FieldType))))))
  have hPx : va_P (dC, dI) cls ((List.flatten ([[((p0a 7), .inl ((p0k 7), 250, .inl ((srw o_1 6 o_2) 7)))]] : List va_W)) ++ (List.flatten ([[((p0a 0), .inr (7, [.ref (p0a 1), .ref (p0a 2), .ref (p0a 3), .ref (p0a 4), .ref (p0a 5), .ref (p0a 6), .ref (p0a 7), .long (p0l 0 7), .ref (p0a 9), .ref (p0a 10), .int ((srw o_1 6 o_2) 0 10), .ref (p0a 12)])), ((p0a 2), .inl ((p0k 2), 250, .inl ((srw o_1 6 o_2) 2))), ((p0a 3), .inl ((p0k 3), 250, .inl ((srw o_1 6 o_2) 3))), ((p0a 4), .inl ((p0k 4), 250, .inl ((srw o_1 6 o_2) 4))), ((p0a 5), .inl ((p0k 5), 250, .inl ((srw o_1 6 o_2) 5))), ((p0a 6), .inl ((p0k 6), 250, .inl ((srw o_1 6 o_2) 6))), ((p0a 9), .inl ((p0k 9), 250, .inl ((srw o_1 6 o_2) 9))), ((p0a 10), .inl ((p0k 10), 250, .inl ((srw o_1 6 o_2) 10))), ((p0a 12), .inl ((p0k 12), 60, .inl ((srw o_1 6 o_2) 12)))], (oX1 (p1a 0) p1a p1k p1n p1w p1l), (oX9 (p1a 3) p1_2a p1_2k p1_2n p1_2w)] : List va_W))) H := vP_fa (vP_perm hP2 (bP (List.Perm.refl _)))
  have hDx : va_D A ((List.flatten ([[((p0a 7), .inl ((p0k 7), 250, .inl ((srw o_1 6 o_2) 7)))]] : List va_W)) ++ (List.flatten ([[((p0a 0), .inr (7, [.ref (p0a 1), .ref (p0a 2), .ref (p0a 3), .ref (p0a 4), .ref (p0a 5), .ref (p0a 6), .ref (p0a 7), .long (p0l 0 7), .ref (p0a 9), .ref (p0a 10), .int ((srw o_1 6 o_2) 0 10), .ref (p0a 12)])), ((p0a 2), .inl ((p0k 2), 250, .inl ((srw o_1 6 o_2) 2))), ((p0a 3), .inl ((p0k 3), 250, .inl ((srw o_1 6 o_2) 3))), ((p0a 4), .inl ((p0k 4), 250, .inl ((srw o_1 6 o_2) 4))), ((p0a 5), .inl ((p0k 5), 250, .inl ((srw o_1 6 o_2) 5))), ((p0a 6), .inl ((p0k 6), 250, .inl ((srw o_1 6 o_2) 6))), ((p0a 9), .inl ((p0k 9), 250, .inl ((srw o_1 6 o_2) 9))), ((p0a 10), .inl ((p0k 10), 250, .inl ((srw o_1 6 o_2) 10))), ((p0a 12), .inl ((p0k 12), 60, .inl ((srw o_1 6 o_2) 12)))], (oX1 (p1a 0) p1a p1k p1n p1w p1l), (oX9 (p1a 3) p1_2a p1_2k p1_2n p1_2w)] : List va_W))) := vD_fa (vD_perm hD2 (bP (List.Perm.refl _)))
  have hKx : va_K (dC, dI) cls ((List.flatten ([[((p0k 7), .int)]] : List (List (ClassId × FieldType)))) ++ (List.flatten ([[((p0k 2), .int), ((p0k 3), .int), ((p0k 4), .int), ((p0k 5), .int), ((p0k 6), .int), ((p0k 9), .int), ((p0k 10), .int), ((p0k 12), .int)], (tX1 p1k), (tX9 p1_2k)] : List (List (ClassId × FieldType))))) s := vK_fa (vK_perm hK2 (bP (List.Perm.refl _)))
  have hPc := vP_l hPx
  have hDc := vD_l hDx
  have hKc := vK_l hKx
  have hFc := vfree hDx hS hA
  refine va_callv (va_runS (As := [.ref (p0a 7), .int 0]) (rest := []) ⟨hx, hb, hml, hown, hts⟩ (kJ7_fill_53178 l dC dI (p0a := (p0a 7)) (p0k := (p0k 7)) (p0n := 250) (p0f := ((srw o_1 6 o_2) 7)) (p1 := 0) (sz := _) (o := o_3) (hrun := hc_3)) (va_cwS 2 hts (gi_S qw428 qw218 qw109 (gi_z qw216)) rfl rfl rfl (by decide +kernel) ⟨Nat.le_of_ble_eq_true rfl, Nat.le_of_ble_eq_true rfl⟩) ⟨PRE.blind, PRE.of hE hS hFc hPc hKc hDc⟩ rfl rfl hl.1 rfl (lv_room (Nat.le_of_ble_eq_true rfl)) dX5_joinEquals_18 ⟨(Nat.le_of_ble_eq_true rfl), (Nat.le_of_ble_eq_true rfl)⟩) hS (fun q _ h => hFc q h) hFc (fun u t H locs ht hvm hw hB hz1 hk1 hS => ?_)
  obtain ⟨b1, b2, b3⟩ := hB
  rw [ht] at b1
  obtain ⟨hP, hD, hK⟩ := JOINC (wc := (List.flatten ([[((p0a 7), .inl ((p0k 7), 250, .inl ((srw o_1 6 o_2) 7)))]] : List va_W))) (wr := (List.flatten ([[((p0a 0), .inr (7, [.ref (p0a 1), .ref (p0a 2), .ref (p0a 3), .ref (p0a 4), .ref (p0a 5), .ref (p0a 6), .ref (p0a 7), .long (p0l 0 7), .ref (p0a 9), .ref (p0a 10), .int ((srw o_1 6 o_2) 0 10), .ref (p0a 12)])), ((p0a 2), .inl ((p0k 2), 250, .inl ((srw o_1 6 o_2) 2))), ((p0a 3), .inl ((p0k 3), 250, .inl ((srw o_1 6 o_2) 3))), ((p0a 4), .inl ((p0k 4), 250, .inl ((srw o_1 6 o_2) 4))), ((p0a 5), .inl ((p0k 5), 250, .inl ((srw o_1 6 o_2) 5))), ((p0a 6), .inl ((p0k 6), 250, .inl ((srw o_1 6 o_2) 6))), ((p0a 9), .inl ((p0k 9), 250, .inl ((srw o_1 6 o_2) 9))), ((p0a 10), .inl ((p0k 10), 250, .inl ((srw o_1 6 o_2) 10))), ((p0a 12), .inl ((p0k 12), 60, .inl ((srw o_1 6 o_2) 12)))], (oX1 (p1a 0) p1a p1k p1n p1w p1l), (oX9 (p1a 3) p1_2a p1_2k p1_2n p1_2w)] : List va_W))) (w1 := (List.flatten ([[((p0a 7), .inl ((p0k 7), 250, .inl ((srw (srw o_1 6 o_2) 7 o_3) 7)))]] : List va_W))) (t1 := (List.flatten ([[((p0k 7), .int)]] : List (List (ClassId × FieldType))))) hPx hDx hKx hk1 hFc b1 (va_K.moved hvm.symm b2) b3
  have hP3 : va_P (dC, dI) cls (List.flatten ([(oX5 (p0a 0) p0a p0k (srw (srw o_1 6 o_2) 7 o_3) p0l), (oX1 (p1a 0) p1a p1k p1n p1w p1l), (oX9 (p1a 3) p1_2a p1_2k p1_2n p1_2w)] : List va_W)) H := vP_perm (vP_fb hP) ((bP (List.Perm.refl _)).trans (List.Perm.append_right _ (List.perm_middle (a := (((p0a 7), .inl ((p0k 7), 250, .inl ((srw (srw o_1 6 o_2) 7 o_3) 7))) : Nat × va_E)) (l₁ := ([((p0a 0), .inr (7, [.ref (p0a 1), .ref (p0a 2), .ref (p0a 3), .ref (p0a 4), .ref (p0a 5), .ref (p0a 6), .ref (p0a 7), .long (p0l 0 7), .ref (p0a 9), .ref (p0a 10), .int ((srw (srw o_1 6 o_2) 7 o_3) 0 10), .ref (p0a 12)])), ((p0a 2), .inl ((p0k 2), 250, .inl ((srw (srw o_1 6 o_2) 7 o_3) 2))), ((p0a 3), .inl ((p0k 3), 250, .inl ((srw (srw o_1 6 o_2) 7 o_3) 3))), ((p0a 4), .inl ((p0k 4), 250, .inl ((srw (srw o_1 6 o_2) 7 o_3) 4))), ((p0a 5), .inl ((p0k 5), 250, .inl ((srw (srw o_1 6 o_2) 7 o_3) 5))), ((p0a 6), .inl ((p0k 6), 250, .inl ((srw (srw o_1 6 o_2) 7 o_3) 6)))] : va_W)) (l₂ := ([((p0a 9), .inl ((p0k 9), 250, .inl ((srw (srw o_1 6 o_2) 7 o_3) 9))), ((p0a 10), .inl ((p0k 10), 250, .inl ((srw (srw o_1 6 o_2) 7 o_3) 10))), ((p0a 12), .inl ((p0k 12), 60, .inl ((srw (srw o_1 6 o_2) 7 o_3) 12)))] : va_W))).symm))
  have hD3 : va_D A (List.flatten ([(oX5 (p0a 0) p0a p0k (srw (srw o_1 6 o_2) 7 o_3) p0l), (oX1 (p1a 0) p1a p1k p1n p1w p1l), (oX9 (p1a 3) p1_2a p1_2k p1_2n p1_2w)] : List va_W)) := vD_perm (vD_fb hD) ((bP (List.Perm.refl _)).trans (List.Perm.append_right _ (List.perm_middle (a := (((p0a 7), .inl ((p0k 7), 250, .inl ((srw (srw o_1 6 o_2) 7 o_3) 7))) : Nat × va_E)) (l₁ := ([((p0a 0), .inr (7, [.ref (p0a 1), .ref (p0a 2), .ref (p0a 3), .ref (p0a 4), .ref (p0a 5), .ref (p0a 6), .ref (p0a 7), .long (p0l 0 7), .ref (p0a 9), .ref (p0a 10), .int ((srw (srw o_1 6 o_2) 7 o_3) 0 10), .ref (p0a 12)])), ((p0a 2), .inl ((p0k 2), 250, .inl ((srw (srw o_1 6 o_2) 7 o_3) 2))), ((p0a 3), .inl ((p0k 3), 250, .inl ((srw (srw o_1 6 o_2) 7 o_3) 3))), ((p0a 4), .inl ((p0k 4), 250, .inl ((srw (srw o_1 6 o_2) 7 o_3) 4))), ((p0a 5), .inl ((p0k 5), 250, .inl ((srw (srw o_1 6 o_2) 7 o_3) 5))), ((p0a 6), .inl ((p0k 6), 250, .inl ((srw (srw o_1 6 o_2) 7 o_3) 6)))] : va_W)) (l₂ := ([((p0a 9), .inl ((p0k 9), 250, .inl ((srw (srw o_1 6 o_2) 7 o_3) 9))), ((p0a 10), .inl ((p0k 10), 250, .inl ((srw (srw o_1 6 o_2) 7 o_3) 10))), ((p0a 12), .inl ((p0k 12), 60, .inl ((srw (srw o_1 6 o_2) 7 o_3) 12)))] : va_W))).symm))
  have hK3 : va_K (dC, dI) cls (List.flatten ([(tX5 p0k), (tX1 p1k), (tX9 p1_2k)] : List (List (ClassId × FieldType)))) s := vK_perm (vK_fb hK) ((bP (List.Perm.refl _)).trans (List.Perm.append_right _ (List.perm_middle (a := (((p0k 7), .int) : ClassId × FieldType)) (l₁ := ([((p0k 2), .int), ((p0k 3), .int), ((p0k 4), .int), ((p0k 5), .int), ((p0k 6), .int)] : List (ClassId × FieldType))) (l₂ := ([((p0k 9), .int), ((p0k 10), .int), ((p0k 12), .int)] : List (ClassId × FieldType)))).symm))
  have hP : va_P (dC, dI) cls (List.flatten ([(oX5 (p0a 0) p0a p0k (srw (srw o_1 6 o_2) 7 o_3) p0l), (oX1 (p1a 0) p1a p1k p1n p1w p1l), (oX9 (p1a 3) p1_2a p1_2k p1_2n p1_2w)] : List va_W)) H := vP_perm hP3 (bP (List.Perm.refl _))
  have hD : va_D A (List.flatten ([(oX5 (p0a 0) p0a p0k (srw (srw o_1 6 o_2) 7 o_3) p0l), (oX1 (p1a 0) p1a p1k p1n p1w p1l), (oX9 (p1a 3) p1_2a p1_2k p1_2n p1_2w)] : List va_W)) := vD_perm hD3 (bP (List.Perm.refl _))
  have hK : va_K (dC, dI) cls (List.flatten ([(tX5 p0k), (tX1 p1k), (tX9 p1_2k)] : List (List (ClassId × FieldType)))) s := vK_perm hK3 (bP (List.Perm.refl _))
  refine lv_aload_n hx hb dX5_joinEquals_21 rfl (lv_at hl 0 rfl) ?_
  refine lv_iconst (v := 0) hx hb dX5_joinEquals_22 (by decide) ?_
  refine va_put (D := (dC, dI)) (ci := 7) (v := .int 0) (ty := .int) (C := RX5) (T := TX5) (N := 12) hx hb hts i_X5 tyX5 tyX5_ok nmX5 hown hK hP hD hS 0 rfl rfl 10 (by decide) (hts _ qw556) (fun _ h9 => h9) rfl (by decide +kernel) rfl rfl (Nat.le_of_ble_eq_true rfl) dX5_joinEquals_23 (fun H locs hP hD hS => ?_)
  have hP : va_P (dC, dI) cls (List.flatten ([(oX5 (p0a 0) p0a p0k (upw (srw (srw o_1 6 o_2) 7 o_3) 0 10 0) p0l), (oX1 (p1a 0) p1a p1k p1n p1w p1l), (oX9 (p1a 3) p1_2a p1_2k p1_2n p1_2w)] : List va_W)) H := hP
  have hD : va_D A (List.flatten ([(oX5 (p0a 0) p0a p0k (upw (srw (srw o_1 6 o_2) 7 o_3) 0 10 0) p0l), (oX1 (p1a 0) p1a p1k p1n p1w p1l), (oX9 (p1a 3) p1_2a p1_2k p1_2n p1_2w)] : List va_W)) := hD
  obtain ⟨w4, ew4, hrun⟩ := let9 hrun
  rw [← ew4] at hP hD
  refine lv_iconst (v := 1) hx hb dX5_joinEquals_26 (by decide) ?_
  refine lv_istore_n (lv' := [(2, .int 1), (0, .ref (p0a 0)), (1, .ref (p1a 0))]) hx hb dX5_joinEquals_27 rfl hl (by decide) rfl (fun ls hl => ?_)
  refine lv_aload_n hx hb dX5_joinEquals_28 rfl (lv_at hl 1 rfl) ?_
  refine va_get (D := (dC, dI)) (ci := 7) (v := .ref (p0a 12)) (C := RX5) (T := TX5) (N := 12) hx hb hts i_X5 hown hK hP 0 rfl rfl 11 (by decide) (hts _ qw583) (fun _ h9 => h9) rfl dX5_joinEquals_29 ?_
  refine lv_iconst (v := 0) hx hb dX5_joinEquals_32 (by decide) ?_
  refine lv_iconst (v := 0) hx hb dX5_joinEquals_33 (by decide) ?_
  refine va_iast hx hb hK hP hD hS 9 8 rfl rfl (by unfold vp_in; decide +kernel) dX5_joinEquals_34 (fun H locs hP hD hS => ?_)
  have hP : va_P (dC, dI) cls (List.flatten ([(oX5 (p0a 0) p0a p0k (upw w4 12 (nn 0) 0) p0l), (oX1 (p1a 0) p1a p1k p1n p1w p1l), (oX9 (p1a 3) p1_2a p1_2k p1_2n p1_2w)] : List va_W)) H := hP
  have hD : va_D A (List.flatten ([(oX5 (p0a 0) p0a p0k (upw w4 12 (nn 0) 0) p0l), (oX1 (p1a 0) p1a p1k p1n p1w p1l), (oX9 (p1a 3) p1_2a p1_2k p1_2n p1_2w)] : List va_W)) := hD
  obtain ⟨w5, ew5, hrun⟩ := let9 hrun
  rw [← ew5] at hP hD
  refine lv_iconst (v := 0) hx hb dX5_joinEquals_35 (by decide) ?_
  refine lv_istore_n (lv' := [(3, .int 0), (2, .int 1), (0, .ref (p0a 0)), (1, .ref (p1a 0))]) hx hb dX5_joinEquals_36 rfl hl (by decide) rfl (fun ls hl => ?_)
  have L37 : ∀ (n_37 : Nat) (v2_37 : Int32) (v3_37 : Int32) (p0w_37 : ST) (p1_2w_37 : ST) (o37 : ST × ST) (H : Heap) (locs : List Loc) (ls : Array Slot), (fX5_joinEquals_L37 p1n p1w p1l p1_2n n_37) v2_37 v3_37 p0w_37 p1_2w_37 = some o37 → va_P (dC, dI) cls (List.flatten ([(oX5 (p0a 0) p0a p0k p0w_37 p0l), (oX1 (p1a 0) p1a p1k p1n p1w p1l), (oX9 (p1a 3) p1_2a p1_2k p1_2n p1_2w_37)] : List va_W)) H → va_D A (List.flatten ([(oX5 (p0a 0) p0a p0k p0w_37 p0l), (oX1 (p1a 0) p1a p1k p1n p1w p1l), (oX9 (p1a 3) p1_2a p1_2k p1_2n p1_2w_37)] : List va_W)) → va_K (dC, dI) cls (List.flatten ([(tX5 p0k), (tX1 p1k), (tX9 p1_2k)] : List (List (ClassId × FieldType)))) s → va_S A s.heap H locs → lv_has ls 6 [(0, .ref (p0a 0)), (1, .ref (p1a 0)), (2, .int v2_37), (3, .int v3_37)] → (∀ (H : Heap) (locs : List Loc) (ls : Array Slot), va_P (dC, dI) cls (List.flatten ([(oX5 (p0a 0) p0a p0k (o37.1) p0l), (oX1 (p1a 0) p1a p1k p1n p1w p1l), (oX9 (p1a 3) p1_2a p1_2k p1_2n (o37.2))] : List va_W)) H → va_D A (List.flatten ([(oX5 (p0a 0) p0a p0k (o37.1) p0l), (oX1 (p1a 0) p1a p1k p1n p1w p1l), (oX9 (p1a 3) p1_2a p1_2k p1_2n (o37.2))] : List va_W)) → va_K (dC, dI) cls (List.flatten ([(tX5 p0k), (tX1 p1k), (tX9 p1_2k)] : List (List (ClassId × FieldType)))) s → va_S A s.heap H locs → lv_has ls 6 [(0, .ref (p0a 0)), (1, .ref (p1a 0))] → W p l e ({ frames := 5, cells := 0, slots := 0, locals := 120 } : Room) s m ([.ref (p0a 0), .ref (p1a 0)] : List Value).toArray below meth c H locs 0 0 Q (F0 m 113 ls [])) → W p l e ({ frames := 5, cells := 0, slots := 0, locals := 120 } : Room) s m ([.ref (p0a 0), .ref (p1a 0)] : List Value).toArray below meth c H locs 0 0 Q (F0 m 37 ls []) := by
    intro n_37
    induction n_37 with
    | zero => intro v2_37 v3_37 p0w_37 p1_2w_37 o37 H locs ls hrun; exact (no9 rfl hrun).elim
    | succ n_37 IH37 =>
      intro v2_37 v3_37 p0w_37 p1_2w_37 o37 H locs ls hrun hP hD hK hS hl hk37
      unfold fX5_joinEquals_L37 at hrun
      refine lv_iload_n hx hb dX5_joinEquals_37 rfl (lv_at hl 2 rfl) ?_
      rcases br9 hrun with ⟨hc6, hrun⟩ | ⟨hc6, hrun⟩
      · refine lv_if_le (tgt := 113) hx hb dX5_joinEquals_38 (by decide) (fun _ => ?_) (fun c => absurd hc6 c)
        obtain rfl := (Option.some.inj hrun)
        exact hk37 _ _ _ hP hD hK hS (lv_sub hl [0, 1] rfl)
      · refine lv_if_le (tgt := 113) hx hb dX5_joinEquals_38 (by decide) (fun c => absurd c hc6) (fun _ => ?_)
        refine lv_iload_n hx hb dX5_joinEquals_41 rfl (lv_at hl 3 rfl) ?_
        refine lv_bipush (v := 60) hx hb dX5_joinEquals_42 (by decide) ?_
        rcases br9 hrun with ⟨hc7, hrun⟩ | ⟨hc7, hrun⟩
        · refine lv_icmp_ge (tgt := 113) hx hb dX5_joinEquals_44 (by decide) (fun _ => ?_) (fun c => absurd hc7 c)
          obtain rfl := (Option.some.inj hrun)
          exact hk37 _ _ _ hP hD hK hS (lv_sub hl [0, 1] rfl)
        · refine lv_icmp_ge (tgt := 113) hx hb dX5_joinEquals_44 (by decide) (fun c => absurd c hc7) (fun _ => ?_)
          refine lv_iinc (v := (v2_37 + (-1))) (lv' := [(2, .int (v2_37 + (-1))), (0, .ref (p0a 0)), (1, .ref (p1a 0)), (3, .int v3_37)]) hx hb dX5_joinEquals_47 hl (k := 2) rfl rfl (by decide) rfl (fun ls hl => ?_)
          refine lv_aload_n hx hb dX5_joinEquals_50 rfl (lv_at hl 1 rfl) ?_
          refine va_get (D := (dC, dI)) (ci := 7) (v := .ref (p0a 12)) (C := RX5) (T := TX5) (N := 12) hx hb hts i_X5 hown hK hP 0 rfl rfl 11 (by decide) (hts _ qw583) (fun _ h9 => h9) rfl dX5_joinEquals_51 ?_
          refine lv_iload_n hx hb dX5_joinEquals_54 rfl (lv_at hl 0 rfl) ?_
          obtain ⟨hq8, hrun⟩ := chk9 hrun
          refine va_iald hx hb hK hP 9 8 rfl rfl (ixb_in hq8) dX5_joinEquals_55 ?_
          refine lv_istore (lv' := [(4, .int (p0w_37 12 (nn (v2_37 + (-1))))), (2, .int (v2_37 + (-1))), (0, .ref (p0a 0)), (1, .ref (p1a 0)), (3, .int v3_37)]) hx hb dX5_joinEquals_56 hl (by decide) rfl (fun ls hl => ?_)
          refine lv_aload_n hx hb dX5_joinEquals_58 rfl (lv_at hl 2 rfl) ?_
          refine lv_aload_n hx hb dX5_joinEquals_59 rfl (lv_at hl 3 rfl) ?_
          refine lv_iload hx hb dX5_joinEquals_60 (lv_at hl 0 rfl) ?_
          obtain ⟨o_9, hc_9, hrun⟩ := bnd9 hrun
          have hPx : va_P (dC, dI) cls ((List.flatten ([(oX5 (p0a 0) p0a p0k p0w_37 p0l), (oX1 (p1a 0) p1a p1k p1n p1w p1l), (oX9 (p1a 3) p1_2a p1_2k p1_2n p1_2w_37)] : List va_W)) ++ (List.flatten ([] : List va_W))) H := vP_fa (vP_perm hP (bP (List.Perm.refl _)))
          have hDx : va_D A ((List.flatten ([(oX5 (p0a 0) p0a p0k p0w_37 p0l), (oX1 (p1a 0) p1a p1k p1n p1w p1l), (oX9 (p1a 3) p1_2a p1_2k p1_2n p1_2w_37)] : List va_W)) ++ (List.flatten ([] : List va_W))) := vD_fa (vD_perm hD (bP (List.Perm.refl _)))
          have hKx : va_K (dC, dI) cls ((List.flatten ([(tX5 p0k), (tX1 p1k), (tX9 p1_2k)] : List (List (ClassId × FieldType)))) ++ (List.flatten ([] : List (List (ClassId × FieldType))))) s := vK_fa (vK_perm hK (bP (List.Perm.refl _)))
          have hPc := vP_l hPx
          have hDc := vD_l hDx
          have hKc := vK_l hKx
          have hFc := vfree hDx hS hA
          refine va_callv (va_runV (As := [.ref (p1a 0), .int (p0w_37 12 (nn (v2_37 + (-1))))]) (rest := []) ⟨hx, hb, hml, hown, hts⟩ (kX5_joinBlock l dC dI (p0a := p0a) (p0k := p0k) (p0w := p0w_37) (p0l := p0l) (p1a := p1a) (p1k := p1k) (p1n := p1n) (p1w := p1w) (p1l := p1l) (p2 := (p0w_37 12 (nn (v2_37 + (-1))))) (p1_2a := p1_2a) (p1_2k := p1_2k) (p1_2n := p1_2n) (p1_2w := p1_2w_37) (sz := _) (o := o_9) (hrun := hc_9)) (cwV 2 hts (gi_V qw585 qw586 qw587 qw442 (gi_z qw584)) rfl rfl rfl (by decide +kernel) ⟨Nat.le_of_ble_eq_true rfl, Nat.le_of_ble_eq_true rfl⟩) ⟨PRE.blind, va_recv hKc hPc (ci := 7) (q0 := 0) rfl rfl, PRE.of hE hS hFc hPc hKc hDc⟩ rfl rfl hl.1 rfl (lv_room (Nat.le_of_ble_eq_true rfl)) dX5_joinEquals_62 ⟨(Nat.le_of_ble_eq_true rfl), (Nat.le_of_ble_eq_true rfl)⟩) hS (fun q _ h => hFc q h) hFc (fun u t H locs ht hvm hw hB hz1 hk1 hS => ?_)
          obtain ⟨b1, b2, b3⟩ := hB
          rw [ht] at b1
          obtain ⟨hP, hD, hK⟩ := JOINC (wc := (List.flatten ([(oX5 (p0a 0) p0a p0k p0w_37 p0l), (oX1 (p1a 0) p1a p1k p1n p1w p1l), (oX9 (p1a 3) p1_2a p1_2k p1_2n p1_2w_37)] : List va_W))) (wr := (List.flatten ([] : List va_W))) (w1 := (List.flatten ([(oX5 (p0a 0) p0a p0k (o_9.1) p0l), (oX1 (p1a 0) p1a p1k p1n p1w p1l), (oX9 (p1a 3) p1_2a p1_2k p1_2n (o_9.2))] : List va_W))) (t1 := (List.flatten ([(tX5 p0k), (tX1 p1k), (tX9 p1_2k)] : List (List (ClassId × FieldType))))) hPx hDx hKx hk1 hFc b1 (va_K.moved hvm.symm b2) b3
          have hP : va_P (dC, dI) cls (List.flatten ([(oX5 (p0a 0) p0a p0k (o_9.1) p0l), (oX1 (p1a 0) p1a p1k p1n p1w p1l), (oX9 (p1a 3) p1_2a p1_2k p1_2n (o_9.2))] : List va_W)) H := vP_perm (vP_fb hP) (bP (List.Perm.refl _))
          have hD : va_D A (List.flatten ([(oX5 (p0a 0) p0a p0k (o_9.1) p0l), (oX1 (p1a 0) p1a p1k p1n p1w p1l), (oX9 (p1a 3) p1_2a p1_2k p1_2n (o_9.2))] : List va_W)) := vD_perm (vD_fb hD) (bP (List.Perm.refl _))
          have hK : va_K (dC, dI) cls (List.flatten ([(tX5 p0k), (tX1 p1k), (tX9 p1_2k)] : List (List (ClassId × FieldType)))) s := vK_perm (vK_fb hK) (bP (List.Perm.refl _))
          refine lv_aload_n hx hb dX5_joinEquals_65 rfl (lv_at hl 3 rfl) ?_
          refine va_get (D := (dC, dI)) (ci := 4) (v := .int (p1w 0 0)) (C := RX1) (T := TX1) (N := 21) hx hb hts i_X1 hown hK hP 10 rfl rfl 0 (by decide) (hts _ qw430) (fun _ h9 => h9) rfl dX5_joinEquals_66 ?_
          refine lv_iconst (v := 1) hx hb dX5_joinEquals_69 (by decide) ?_
          refine lv_isub hx hb dX5_joinEquals_70 ?_
          refine lv_istore (lv' := [(5, .int ((p1w 0 0) - 1)), (4, .int (p0w_37 12 (nn (v2_37 + (-1))))), (2, .int (v2_37 + (-1))), (0, .ref (p0a 0)), (1, .ref (p1a 0)), (3, .int v3_37)]) hx hb dX5_joinEquals_71 hl (by decide) rfl (fun ls hl => ?_)
          have L73 : ∀ (n_73 : Nat) (v2_73 : Int32) (v5_73 : Int32) (p0w_73 : ST) (o73 : Int32 × ST) (H : Heap) (locs : List Loc) (ls : Array Slot), (fX5_joinEquals_L73 p1w v2_37 p0w_37 n_73) v2_73 v5_73 p0w_73 = some o73 → va_P (dC, dI) cls (List.flatten ([(oX5 (p0a 0) p0a p0k p0w_73 p0l), (oX1 (p1a 0) p1a p1k p1n p1w p1l), (oX9 (p1a 3) p1_2a p1_2k p1_2n (o_9.2))] : List va_W)) H → va_D A (List.flatten ([(oX5 (p0a 0) p0a p0k p0w_73 p0l), (oX1 (p1a 0) p1a p1k p1n p1w p1l), (oX9 (p1a 3) p1_2a p1_2k p1_2n (o_9.2))] : List va_W)) → va_K (dC, dI) cls (List.flatten ([(tX5 p0k), (tX1 p1k), (tX9 p1_2k)] : List (List (ClassId × FieldType)))) s → va_S A s.heap H locs → lv_has ls 6 [(0, .ref (p0a 0)), (1, .ref (p1a 0)), (2, .int v2_73), (3, .int v3_37), (4, .int (p0w_37 12 (nn (v2_37 + (-1))))), (5, .int v5_73)] → (∀ (H : Heap) (locs : List Loc) (ls : Array Slot), va_P (dC, dI) cls (List.flatten ([(oX5 (p0a 0) p0a p0k (o73.2) p0l), (oX1 (p1a 0) p1a p1k p1n p1w p1l), (oX9 (p1a 3) p1_2a p1_2k p1_2n (o_9.2))] : List va_W)) H → va_D A (List.flatten ([(oX5 (p0a 0) p0a p0k (o73.2) p0l), (oX1 (p1a 0) p1a p1k p1n p1w p1l), (oX9 (p1a 3) p1_2a p1_2k p1_2n (o_9.2))] : List va_W)) → va_K (dC, dI) cls (List.flatten ([(tX5 p0k), (tX1 p1k), (tX9 p1_2k)] : List (List (ClassId × FieldType)))) s → va_S A s.heap H locs → lv_has ls 6 [(0, .ref (p0a 0)), (1, .ref (p1a 0)), (2, .int (o73.1)), (3, .int v3_37)] → W p l e ({ frames := 5, cells := 0, slots := 0, locals := 120 } : Room) s m ([.ref (p0a 0), .ref (p1a 0)] : List Value).toArray below meth c H locs 0 0 Q (F0 m 107 ls [])) → W p l e ({ frames := 5, cells := 0, slots := 0, locals := 120 } : Room) s m ([.ref (p0a 0), .ref (p1a 0)] : List Value).toArray below meth c H locs 0 0 Q (F0 m 73 ls []) := by
            intro n_73
            induction n_73 with
            | zero => intro v2_73 v5_73 p0w_73 o73 H locs ls hrun; exact (no9 rfl hrun).elim
            | succ n_73 IH73 =>
              intro v2_73 v5_73 p0w_73 o73 H locs ls hrun hP hD hK hS hl hk73
              unfold fX5_joinEquals_L73 at hrun
              refine lv_iload hx hb dX5_joinEquals_73 (lv_at hl 5 rfl) ?_
              rcases br9 hrun with ⟨hc10, hrun⟩ | ⟨hc10, hrun⟩
              · refine lv_if_le (tgt := 107) hx hb dX5_joinEquals_75 (by decide) (fun _ => ?_) (fun c => absurd hc10 c)
                obtain rfl := (Option.some.inj hrun)
                exact hk73 _ _ _ hP hD hK hS (lv_sub hl [0, 1, 2, 3] rfl)
              · refine lv_if_le (tgt := 107) hx hb dX5_joinEquals_75 (by decide) (fun c => absurd c hc10) (fun _ => ?_)
                refine lv_aload_n hx hb dX5_joinEquals_78 rfl (lv_at hl 1 rfl) ?_
                refine va_get (D := (dC, dI)) (ci := 4) (v := .ref (p1a 12)) (C := RX1) (T := TX1) (N := 21) hx hb hts i_X1 hown hK hP 10 rfl rfl 11 (by decide) (hts _ qw588) (fun _ h9 => h9) rfl dX5_joinEquals_79 ?_
                refine lv_iload hx hb dX5_joinEquals_82 (lv_at hl 5 rfl) ?_
                obtain ⟨hq11, hrun⟩ := chk9 hrun
                refine va_iald hx hb hK hP 19 17 rfl rfl (ixb_in hq11) dX5_joinEquals_84 ?_
                refine lv_iload hx hb dX5_joinEquals_85 (lv_at hl 4 rfl) ?_
                have J101 : ∀ (v2_101 : Int32) (p0w_101 : ST) (H : Heap) (locs : List Loc) (ls : Array Slot), (fX5_joinEquals_J101 (fX5_joinEquals_L73 p1w v2_37 p0w_37 n_73) v5_73 v2_101 p0w_101) = some o73 → va_P (dC, dI) cls (List.flatten ([(oX5 (p0a 0) p0a p0k p0w_101 p0l), (oX1 (p1a 0) p1a p1k p1n p1w p1l), (oX9 (p1a 3) p1_2a p1_2k p1_2n (o_9.2))] : List va_W)) H → va_D A (List.flatten ([(oX5 (p0a 0) p0a p0k p0w_101 p0l), (oX1 (p1a 0) p1a p1k p1n p1w p1l), (oX9 (p1a 3) p1_2a p1_2k p1_2n (o_9.2))] : List va_W)) → va_K (dC, dI) cls (List.flatten ([(tX5 p0k), (tX1 p1k), (tX9 p1_2k)] : List (List (ClassId × FieldType)))) s → va_S A s.heap H locs → lv_has ls 6 [(0, .ref (p0a 0)), (1, .ref (p1a 0)), (2, .int v2_101), (3, .int v3_37), (4, .int (p0w_37 12 (nn (v2_37 + (-1))))), (5, .int v5_73)] → W p l e ({ frames := 5, cells := 0, slots := 0, locals := 120 } : Room) s m ([.ref (p0a 0), .ref (p1a 0)] : List Value).toArray below meth c H locs 0 0 Q (F0 m 101 ls []) := by
                  intro v2_101 p0w_101 H locs ls hrun hP hD hK hS hl 
                  unfold fX5_joinEquals_J101 at hrun
                  refine lv_iinc (v := (v5_73 + (-1))) (lv' := [(5, .int (v5_73 + (-1))), (0, .ref (p0a 0)), (1, .ref (p1a 0)), (2, .int v2_101), (3, .int v3_37), (4, .int (p0w_37 12 (nn (v2_37 + (-1)))))]) hx hb dX5_joinEquals_101 hl (k := 5) rfl rfl (by decide) rfl (fun ls hl => ?_)
                  refine lv_goto (tgt := 73) hx hb dX5_joinEquals_104 (by decide) ?_
                  exact IH73 v2_101 (v5_73 + (-1)) p0w_101 o73 _ _ _ hrun hP hD hK hS (lv_sub hl [1, 2, 3, 4, 5, 0] rfl) hk73
                rcases br9 hrun with ⟨hc12, hrun⟩ | ⟨hc12, hrun⟩
                · refine lv_icmp_ne (tgt := 101) hx hb dX5_joinEquals_87 (by decide) (fun c => absurd hc12 c) (fun _ => ?_)
                  refine lv_aload_n hx hb dX5_joinEquals_90 rfl (lv_at hl 0 rfl) ?_
                  refine va_get (D := (dC, dI)) (ci := 7) (v := .ref (p0a 12)) (C := RX5) (T := TX5) (N := 12) hx hb hts i_X5 hown hK hP 0 rfl rfl 11 (by decide) (hts _ qw583) (fun _ h9 => h9) rfl dX5_joinEquals_91 ?_
                  refine lv_iload_n hx hb dX5_joinEquals_94 rfl (lv_at hl 2 rfl) ?_
                  refine lv_iload hx hb dX5_joinEquals_95 (lv_at hl 5 rfl) ?_
                  obtain ⟨hq13, hrun⟩ := chk9 hrun
                  refine va_iast hx hb hK hP hD hS 9 8 rfl rfl (ixb_in hq13) dX5_joinEquals_97 (fun H locs hP hD hS => ?_)
                  have hP : va_P (dC, dI) cls (List.flatten ([(oX5 (p0a 0) p0a p0k (upw p0w_73 12 (nn v2_73) v5_73) p0l), (oX1 (p1a 0) p1a p1k p1n p1w p1l), (oX9 (p1a 3) p1_2a p1_2k p1_2n (o_9.2))] : List va_W)) H := hP
                  have hD : va_D A (List.flatten ([(oX5 (p0a 0) p0a p0k (upw p0w_73 12 (nn v2_73) v5_73) p0l), (oX1 (p1a 0) p1a p1k p1n p1w p1l), (oX9 (p1a 3) p1_2a p1_2k p1_2n (o_9.2))] : List va_W)) := hD
                  obtain ⟨w14, ew14, hrun⟩ := let9 hrun
                  rw [← ew14] at hP hD
                  refine lv_iinc (v := (v2_73 + 1)) (lv' := [(2, .int (v2_73 + 1)), (0, .ref (p0a 0)), (1, .ref (p1a 0)), (3, .int v3_37), (4, .int (p0w_37 12 (nn (v2_37 + (-1))))), (5, .int v5_73)]) hx hb dX5_joinEquals_98 hl (k := 2) rfl rfl (by decide) rfl (fun ls hl => ?_)
                  exact J101 (v2_73 + 1) w14 _ _ _ hrun hP hD hK hS (lv_sub hl [1, 2, 0, 3, 4, 5] rfl)
                · refine lv_icmp_ne (tgt := 101) hx hb dX5_joinEquals_87 (by decide) (fun _ => ?_) (fun c => absurd c hc12)
                  exact J101 v2_73 p0w_73 _ _ _ hrun hP hD hK hS (lv_sub hl [0, 1, 2, 3, 4, 5] rfl)
          obtain ⟨o73, hc73, hrun⟩ := bnd9 hrun
          refine L73 NF (v2_37 + (-1)) ((p1w 0 0) - 1) (o_9.1) o73 _ _ _ hc73 hP hD hK hS (lv_sub hl [3, 4, 2, 5, 1, 0] rfl) ?_
          intro H locs ls hP hD hK hS hl
          have hl := hl
          refine lv_iinc (v := (v3_37 + 1)) (lv' := [(3, .int (v3_37 + 1)), (0, .ref (p0a 0)), (1, .ref (p1a 0)), (2, .int (o73.1))]) hx hb dX5_joinEquals_107 hl (k := 3) rfl rfl (by decide) rfl (fun ls hl => ?_)
          refine lv_goto (tgt := 37) hx hb dX5_joinEquals_110 (by decide) ?_
          exact IH37 (o73.1) (v3_37 + 1) (o73.2) (o_9.2) o37 _ _ _ hrun hP hD hK hS (lv_sub hl [1, 2, 3, 0] rfl) hk37
  obtain ⟨o37, hc37, hrun⟩ := bnd9 hrun
  refine L37 NF 1 0 w5 p1_2w o37 _ _ _ hc37 hP hD hK hS (lv_sub hl [2, 3, 1, 0] rfl) ?_
  intro H locs ls hP hD hK hS hl
  have hl := hl
  refine lv_iconst (v := 0) hx hb dX5_joinEquals_113 (by decide) ?_
  refine lv_istore_n (lv' := [(3, .int 0), (0, .ref (p0a 0)), (1, .ref (p1a 0))]) hx hb dX5_joinEquals_114 rfl hl (by decide) rfl (fun ls hl => ?_)
  refine lv_iconst (v := 0) hx hb dX5_joinEquals_115 (by decide) ?_
  refine lv_istore (lv' := [(4, .int 0), (3, .int 0), (0, .ref (p0a 0)), (1, .ref (p1a 0))]) hx hb dX5_joinEquals_116 hl (by decide) rfl (fun ls hl => ?_)
  have L118 : ∀ (n_118 : Nat) (v3_118 : Int32) (v4_118 : Int32) (p0w_118 : ST) (o118 : Int32 × ST) (H : Heap) (locs : List Loc) (ls : Array Slot), (fX5_joinEquals_L118 p1w n_118) v3_118 v4_118 p0w_118 = some o118 → va_P (dC, dI) cls (List.flatten ([(oX5 (p0a 0) p0a p0k p0w_118 p0l), (oX1 (p1a 0) p1a p1k p1n p1w p1l), (oX9 (p1a 3) p1_2a p1_2k p1_2n (o37.2))] : List va_W)) H → va_D A (List.flatten ([(oX5 (p0a 0) p0a p0k p0w_118 p0l), (oX1 (p1a 0) p1a p1k p1n p1w p1l), (oX9 (p1a 3) p1_2a p1_2k p1_2n (o37.2))] : List va_W)) → va_K (dC, dI) cls (List.flatten ([(tX5 p0k), (tX1 p1k), (tX9 p1_2k)] : List (List (ClassId × FieldType)))) s → va_S A s.heap H locs → lv_has ls 6 [(0, .ref (p0a 0)), (1, .ref (p1a 0)), (3, .int v3_118), (4, .int v4_118)] → (∀ (H : Heap) (locs : List Loc) (ls : Array Slot), va_P (dC, dI) cls (List.flatten ([(oX5 (p0a 0) p0a p0k (o118.2) p0l), (oX1 (p1a 0) p1a p1k p1n p1w p1l), (oX9 (p1a 3) p1_2a p1_2k p1_2n (o37.2))] : List va_W)) H → va_D A (List.flatten ([(oX5 (p0a 0) p0a p0k (o118.2) p0l), (oX1 (p1a 0) p1a p1k p1n p1w p1l), (oX9 (p1a 3) p1_2a p1_2k p1_2n (o37.2))] : List va_W)) → va_K (dC, dI) cls (List.flatten ([(tX5 p0k), (tX1 p1k), (tX9 p1_2k)] : List (List (ClassId × FieldType)))) s → va_S A s.heap H locs → lv_has ls 6 [(0, .ref (p0a 0)), (1, .ref (p1a 0)), (3, .int (o118.1))] → W p l e ({ frames := 5, cells := 0, slots := 0, locals := 120 } : Room) s m ([.ref (p0a 0), .ref (p1a 0)] : List Value).toArray below meth c H locs 0 0 Q (F0 m 183 ls [])) → W p l e ({ frames := 5, cells := 0, slots := 0, locals := 120 } : Room) s m ([.ref (p0a 0), .ref (p1a 0)] : List Value).toArray below meth c H locs 0 0 Q (F0 m 118 ls []) := by
    intro n_118
    induction n_118 with
    | zero => intro v3_118 v4_118 p0w_118 o118 H locs ls hrun; exact (no9 rfl hrun).elim
    | succ n_118 IH118 =>
      intro v3_118 v4_118 p0w_118 o118 H locs ls hrun hP hD hK hS hl hk118
      unfold fX5_joinEquals_L118 at hrun
      refine lv_iload hx hb dX5_joinEquals_118 (lv_at hl 3 rfl) ?_
      refine lv_aload_n hx hb dX5_joinEquals_120 rfl (lv_at hl 1 rfl) ?_
      refine va_get (D := (dC, dI)) (ci := 4) (v := .int (p1w 0 1)) (C := RX1) (T := TX1) (N := 21) hx hb hts i_X1 hown hK hP 10 rfl rfl 1 (by decide) (hts _ qw589) (fun _ h9 => h9) rfl dX5_joinEquals_121 ?_
      rcases br9 hrun with ⟨hc15, hrun⟩ | ⟨hc15, hrun⟩
      · refine lv_icmp_ge (tgt := 183) hx hb dX5_joinEquals_124 (by decide) (fun _ => ?_) (fun c => absurd hc15 c)
        obtain rfl := (Option.some.inj hrun)
        exact hk118 _ _ _ hP hD hK hS (lv_sub hl [0, 1, 2] rfl)
      · refine lv_icmp_ge (tgt := 183) hx hb dX5_joinEquals_124 (by decide) (fun c => absurd c hc15) (fun _ => ?_)
        refine lv_iload_n hx hb dX5_joinEquals_127 rfl (lv_at hl 2 rfl) ?_
        refine lv_aload_n hx hb dX5_joinEquals_128 rfl (lv_at hl 0 rfl) ?_
        refine va_get (D := (dC, dI)) (ci := 7) (v := .ref (p0a 6)) (C := RX5) (T := TX5) (N := 12) hx hb hts i_X5 hown hK hP 0 rfl rfl 5 (by decide) (hts _ qw539) (fun _ h9 => h9) rfl dX5_joinEquals_129 ?_
        refine lv_iload hx hb dX5_joinEquals_132 (lv_at hl 3 rfl) ?_
        obtain ⟨hq16, hrun⟩ := chk9 hrun
        refine va_iald hx hb hK hP 5 4 rfl rfl (ixb_in hq16) dX5_joinEquals_134 ?_
        have J153 : ∀ (y0_153 : Int32) (y1_153 : Int32) (H : Heap) (locs : List Loc) (ls : Array Slot), (fX5_joinEquals_J153 (fX5_joinEquals_L118 p1w n_118) v4_118 p0w_118 y0_153 y1_153) = some o118 → va_P (dC, dI) cls (List.flatten ([(oX5 (p0a 0) p0a p0k p0w_118 p0l), (oX1 (p1a 0) p1a p1k p1n p1w p1l), (oX9 (p1a 3) p1_2a p1_2k p1_2n (o37.2))] : List va_W)) H → va_D A (List.flatten ([(oX5 (p0a 0) p0a p0k p0w_118 p0l), (oX1 (p1a 0) p1a p1k p1n p1w p1l), (oX9 (p1a 3) p1_2a p1_2k p1_2n (o37.2))] : List va_W)) → va_K (dC, dI) cls (List.flatten ([(tX5 p0k), (tX1 p1k), (tX9 p1_2k)] : List (List (ClassId × FieldType)))) s → va_S A s.heap H locs → lv_has ls 6 [(0, .ref (p0a 0)), (1, .ref (p1a 0)), (4, .int v4_118)] → W p l e ({ frames := 5, cells := 0, slots := 0, locals := 120 } : Room) s m ([.ref (p0a 0), .ref (p1a 0)] : List Value).toArray below meth c H locs 0 0 Q (F0 m 153 ls [.int y0_153, .int y1_153]) := by
          intro y0_153 y1_153 H locs ls hrun hP hD hK hS hl 
          unfold fX5_joinEquals_J153 at hrun
          refine lv_iadd hx hb dX5_joinEquals_153 ?_
          refine lv_istore_n (lv' := [(3, .int (y1_153 + y0_153)), (0, .ref (p0a 0)), (1, .ref (p1a 0)), (4, .int v4_118)]) hx hb dX5_joinEquals_154 rfl hl (by decide) rfl (fun ls hl => ?_)
          refine lv_aload_n hx hb dX5_joinEquals_155 rfl (lv_at hl 1 rfl) ?_
          refine va_get (D := (dC, dI)) (ci := 7) (v := .ref (p0a 7)) (C := RX5) (T := TX5) (N := 12) hx hb hts i_X5 hown hK hP 0 rfl rfl 6 (by decide) (hts _ qw443) (fun _ h9 => h9) rfl dX5_joinEquals_156 ?_
          refine lv_iload hx hb dX5_joinEquals_159 (lv_at hl 3 rfl) ?_
          refine lv_aload_n hx hb dX5_joinEquals_161 rfl (lv_at hl 1 rfl) ?_
          refine va_get (D := (dC, dI)) (ci := 7) (v := .ref (p0a 6)) (C := RX5) (T := TX5) (N := 12) hx hb hts i_X5 hown hK hP 0 rfl rfl 5 (by decide) (hts _ qw539) (fun _ h9 => h9) rfl dX5_joinEquals_162 ?_
          refine lv_iload hx hb dX5_joinEquals_165 (lv_at hl 3 rfl) ?_
          obtain ⟨hq17, hrun⟩ := chk9 hrun
          refine va_iald hx hb hK hP 5 4 rfl rfl (ixb_in hq17) dX5_joinEquals_167 ?_
          have J176 : ∀ (y0_176 : Int32) (y1_176 : Int32) (H : Heap) (locs : List Loc) (ls : Array Slot), (fX5_joinEquals_J176 (fX5_joinEquals_L118 p1w n_118) v4_118 p0w_118 y0_153 y1_153 y0_176 y1_176) = some o118 → va_P (dC, dI) cls (List.flatten ([(oX5 (p0a 0) p0a p0k p0w_118 p0l), (oX1 (p1a 0) p1a p1k p1n p1w p1l), (oX9 (p1a 3) p1_2a p1_2k p1_2n (o37.2))] : List va_W)) H → va_D A (List.flatten ([(oX5 (p0a 0) p0a p0k p0w_118 p0l), (oX1 (p1a 0) p1a p1k p1n p1w p1l), (oX9 (p1a 3) p1_2a p1_2k p1_2n (o37.2))] : List va_W)) → va_K (dC, dI) cls (List.flatten ([(tX5 p0k), (tX1 p1k), (tX9 p1_2k)] : List (List (ClassId × FieldType)))) s → va_S A s.heap H locs → lv_has ls 6 [(0, .ref (p0a 0)), (1, .ref (p1a 0)), (3, .int (y1_153 + y0_153)), (4, .int v4_118)] → W p l e ({ frames := 5, cells := 0, slots := 0, locals := 120 } : Room) s m ([.ref (p0a 0), .ref (p1a 0)] : List Value).toArray below meth c H locs 0 0 Q (F0 m 176 ls [.int y0_176, .int y1_176, .ref (p0a 7)]) := by
            intro y0_176 y1_176 H locs ls hrun hP hD hK hS hl 
            unfold fX5_joinEquals_J176 at hrun
            obtain ⟨hq18, hrun⟩ := chk9 hrun
            refine va_iast hx hb hK hP hD hS 6 5 rfl rfl (ixb_in hq18) dX5_joinEquals_176 (fun H locs hP hD hS => ?_)
            have hP : va_P (dC, dI) cls (List.flatten ([(oX5 (p0a 0) p0a p0k (upw p0w_118 7 (nn y1_176) y0_176) p0l), (oX1 (p1a 0) p1a p1k p1n p1w p1l), (oX9 (p1a 3) p1_2a p1_2k p1_2n (o37.2))] : List va_W)) H := hP
            have hD : va_D A (List.flatten ([(oX5 (p0a 0) p0a p0k (upw p0w_118 7 (nn y1_176) y0_176) p0l), (oX1 (p1a 0) p1a p1k p1n p1w p1l), (oX9 (p1a 3) p1_2a p1_2k p1_2n (o37.2))] : List va_W)) := hD
            obtain ⟨w19, ew19, hrun⟩ := let9 hrun
            rw [← ew19] at hP hD
            refine lv_iinc (v := (v4_118 + 1)) (lv' := [(4, .int (v4_118 + 1)), (0, .ref (p0a 0)), (1, .ref (p1a 0)), (3, .int (y1_153 + y0_153))]) hx hb dX5_joinEquals_177 hl (k := 3) rfl rfl (by decide) rfl (fun ls hl => ?_)
            refine lv_goto (tgt := 118) hx hb dX5_joinEquals_180 (by decide) ?_
            exact IH118 (y1_153 + y0_153) (v4_118 + 1) w19 o118 _ _ _ hrun hP hD hK hS (lv_sub hl [1, 2, 3, 0] rfl) hk118
          rcases br9 hrun with ⟨hc20, hrun⟩ | ⟨hc20, hrun⟩
          · refine lv_if_lt (tgt := 175) hx hb dX5_joinEquals_168 (by decide) (fun _ => ?_) (fun c => absurd hc20 c)
            refine lv_iconst (v := 0) hx hb dX5_joinEquals_175 (by decide) ?_
            exact J176 0 v4_118 _ _ _ hrun hP hD hK hS (lv_sub hl [1, 2, 0, 3] rfl)
          · refine lv_if_lt (tgt := 175) hx hb dX5_joinEquals_168 (by decide) (fun c => absurd c hc20) (fun _ => ?_)
            refine lv_iconst (v := 1) hx hb dX5_joinEquals_171 (by decide) ?_
            refine lv_goto (tgt := 176) hx hb dX5_joinEquals_172 (by decide) ?_
            exact J176 1 v4_118 _ _ _ hrun hP hD hK hS (lv_sub hl [1, 2, 0, 3] rfl)
        have J148 : ∀ (y0_148 : Int32) (H : Heap) (locs : List Loc) (ls : Array Slot), (fX5_joinEquals_J148 (fX5_joinEquals_L118 p1w n_118) v4_118 p0w_118 y0_148) = some o118 → va_P (dC, dI) cls (List.flatten ([(oX5 (p0a 0) p0a p0k p0w_118 p0l), (oX1 (p1a 0) p1a p1k p1n p1w p1l), (oX9 (p1a 3) p1_2a p1_2k p1_2n (o37.2))] : List va_W)) H → va_D A (List.flatten ([(oX5 (p0a 0) p0a p0k p0w_118 p0l), (oX1 (p1a 0) p1a p1k p1n p1w p1l), (oX9 (p1a 3) p1_2a p1_2k p1_2n (o37.2))] : List va_W)) → va_K (dC, dI) cls (List.flatten ([(tX5 p0k), (tX1 p1k), (tX9 p1_2k)] : List (List (ClassId × FieldType)))) s → va_S A s.heap H locs → lv_has ls 6 [(0, .ref (p0a 0)), (1, .ref (p1a 0)), (4, .int v4_118)] → W p l e ({ frames := 5, cells := 0, slots := 0, locals := 120 } : Room) s m ([.ref (p0a 0), .ref (p1a 0)] : List Value).toArray below meth c H locs 0 0 Q (F0 m 148 ls [.int y0_148]) := by
          intro y0_148 H locs ls hrun hP hD hK hS hl 
          unfold fX5_joinEquals_J148 at hrun
          refine lv_iconst (v := 1) hx hb dX5_joinEquals_148 (by decide) ?_
          refine lv_goto (tgt := 153) hx hb dX5_joinEquals_149 (by decide) ?_
          exact J153 1 y0_148 _ _ _ hrun hP hD hK hS (lv_sub hl [0, 1, 2] rfl)
        rcases br9 hrun with ⟨hc21, hrun⟩ | ⟨hc21, hrun⟩
        · refine lv_if_ge (tgt := 148) hx hb dX5_joinEquals_135 (by decide) (fun _ => ?_) (fun c => absurd hc21 c)
          exact J148 v3_118 _ _ _ hrun hP hD hK hS (lv_sub hl [0, 1, 3] rfl)
        · refine lv_if_ge (tgt := 148) hx hb dX5_joinEquals_135 (by decide) (fun c => absurd c hc21) (fun _ => ?_)
          refine lv_aload_n hx hb dX5_joinEquals_138 rfl (lv_at hl 0 rfl) ?_
          refine va_get (D := (dC, dI)) (ci := 7) (v := .ref (p0a 7)) (C := RX5) (T := TX5) (N := 12) hx hb hts i_X5 hown hK hP 0 rfl rfl 6 (by decide) (hts _ qw443) (fun _ h9 => h9) rfl dX5_joinEquals_139 ?_
          refine lv_iload hx hb dX5_joinEquals_142 (lv_at hl 3 rfl) ?_
          obtain ⟨hq22, hrun⟩ := chk9 hrun
          refine va_iald hx hb hK hP 6 5 rfl rfl (ixb_in hq22) dX5_joinEquals_144 ?_
          rcases br9 hrun with ⟨hc23, hrun⟩ | ⟨hc23, hrun⟩
          · refine lv_if_eq (tgt := 152) hx hb dX5_joinEquals_145 (by decide) (fun _ => ?_) (fun c => absurd hc23 c)
            refine lv_iconst (v := 0) hx hb dX5_joinEquals_152 (by decide) ?_
            exact J153 0 v3_118 _ _ _ hrun hP hD hK hS (lv_sub hl [0, 1, 3] rfl)
          · refine lv_if_eq (tgt := 152) hx hb dX5_joinEquals_145 (by decide) (fun c => absurd c hc23) (fun _ => ?_)
            exact J148 v3_118 _ _ _ hrun hP hD hK hS (lv_sub hl [0, 1, 3] rfl)
  obtain ⟨o118, hc118, hrun⟩ := bnd9 hrun
  refine L118 NF 0 0 (o37.1) o118 _ _ _ hc118 hP hD hK hS (lv_sub hl [2, 3, 1, 0] rfl) ?_
  intro H locs ls hP hD hK hS hl
  have hl := hl
  refine lv_aload_n hx hb dX5_joinEquals_183 rfl (lv_at hl 1 rfl) ?_
  refine lv_aload_n hx hb dX5_joinEquals_184 rfl (lv_at hl 0 rfl) ?_
  refine va_get (D := (dC, dI)) (ci := 7) (v := .ref (p0a 7)) (C := RX5) (T := TX5) (N := 12) hx hb hts i_X5 hown hK hP 0 rfl rfl 6 (by decide) (hts _ qw443) (fun _ h9 => h9) rfl dX5_joinEquals_185 ?_
  obtain ⟨o_24, hc_24, hrun⟩ := bnd9 hrun
  have hP2 : va_P (dC, dI) cls (List.flatten ([[((p0a 7), .inl ((p0k 7), 250, .inl ((o118.2) 7)))], [((p0a 0), .inr (7, [.ref (p0a 1), .ref (p0a 2), .ref (p0a 3), .ref (p0a 4), .ref (p0a 5), .ref (p0a 6), .ref (p0a 7), .long (p0l 0 7), .ref (p0a 9), .ref (p0a 10), .int ((o118.2) 0 10), .ref (p0a 12)])), ((p0a 2), .inl ((p0k 2), 250, .inl ((o118.2) 2))), ((p0a 3), .inl ((p0k 3), 250, .inl ((o118.2) 3))), ((p0a 4), .inl ((p0k 4), 250, .inl ((o118.2) 4))), ((p0a 5), .inl ((p0k 5), 250, .inl ((o118.2) 5))), ((p0a 6), .inl ((p0k 6), 250, .inl ((o118.2) 6))), ((p0a 9), .inl ((p0k 9), 250, .inl ((o118.2) 9))), ((p0a 10), .inl ((p0k 10), 250, .inl ((o118.2) 10))), ((p0a 12), .inl ((p0k 12), 60, .inl ((o118.2) 12)))], (oX1 (p1a 0) p1a p1k p1n p1w p1l), (oX9 (p1a 3) p1_2a p1_2k p1_2n (o37.2))] : List va_W)) H := vP_perm hP ((bP (List.Perm.refl _)).trans (List.Perm.append_right _ (List.perm_middle (a := (((p0a 7), .inl ((p0k 7), 250, .inl ((o118.2) 7))) : Nat × va_E)) (l₁ := ([((p0a 0), .inr (7, [.ref (p0a 1), .ref (p0a 2), .ref (p0a 3), .ref (p0a 4), .ref (p0a 5), .ref (p0a 6), .ref (p0a 7), .long (p0l 0 7), .ref (p0a 9), .ref (p0a 10), .int ((o118.2) 0 10), .ref (p0a 12)])), ((p0a 2), .inl ((p0k 2), 250, .inl ((o118.2) 2))), ((p0a 3), .inl ((p0k 3), 250, .inl ((o118.2) 3))), ((p0a 4), .inl ((p0k 4), 250, .inl ((o118.2) 4))), ((p0a 5), .inl ((p0k 5), 250, .inl ((o118.2) 5))), ((p0a 6), .inl ((p0k 6), 250, .inl ((o118.2) 6)))] : va_W)) (l₂ := ([((p0a 9), .inl ((p0k 9), 250, .inl ((o118.2) 9))), ((p0a 10), .inl ((p0k 10), 250, .inl ((o118.2) 10))), ((p0a 12), .inl ((p0k 12), 60, .inl ((o118.2) 12)))] : va_W)))))
  have hD2 : va_D A (List.flatten ([[((p0a 7), .inl ((p0k 7), 250, .inl ((o118.2) 7)))], [((p0a 0), .inr (7, [.ref (p0a 1), .ref (p0a 2), .ref (p0a 3), .ref (p0a 4), .ref (p0a 5), .ref (p0a 6), .ref (p0a 7), .long (p0l 0 7), .ref (p0a 9), .ref (p0a 10), .int ((o118.2) 0 10), .ref (p0a 12)])), ((p0a 2), .inl ((p0k 2), 250, .inl ((o118.2) 2))), ((p0a 3), .inl ((p0k 3), 250, .inl ((o118.2) 3))), ((p0a 4), .inl ((p0k 4), 250, .inl ((o118.2) 4))), ((p0a 5), .inl ((p0k 5), 250, .inl ((o118.2) 5))), ((p0a 6), .inl ((p0k 6), 250, .inl ((o118.2) 6))), ((p0a 9), .inl ((p0k 9), 250, .inl ((o118.2) 9))), ((p0a 10), .inl ((p0k 10), 250, .inl ((o118.2) 10))), ((p0a 12), .inl ((p0k 12), 60, .inl ((o118.2) 12)))], (oX1 (p1a 0) p1a p1k p1n p1w p1l), (oX9 (p1a 3) p1_2a p1_2k p1_2n (o37.2))] : List va_W)) := vD_perm hD ((bP (List.Perm.refl _)).trans (List.Perm.append_right _ (List.perm_middle (a := (((p0a 7), .inl ((p0k 7), 250, .inl ((o118.2) 7))) : Nat × va_E)) (l₁ := ([((p0a 0), .inr (7, [.ref (p0a 1), .ref (p0a 2), .ref (p0a 3), .ref (p0a 4), .ref (p0a 5), .ref (p0a 6), .ref (p0a 7), .long (p0l 0 7), .ref (p0a 9), .ref (p0a 10), .int ((o118.2) 0 10), .ref (p0a 12)])), ((p0a 2), .inl ((p0k 2), 250, .inl ((o118.2) 2))), ((p0a 3), .inl ((p0k 3), 250, .inl ((o118.2) 3))), ((p0a 4), .inl ((p0k 4), 250, .inl ((o118.2) 4))), ((p0a 5), .inl ((p0k 5), 250, .inl ((o118.2) 5))), ((p0a 6), .inl ((p0k 6), 250, .inl ((o118.2) 6)))] : va_W)) (l₂ := ([((p0a 9), .inl ((p0k 9), 250, .inl ((o118.2) 9))), ((p0a 10), .inl ((p0k 10), 250, .inl ((o118.2) 10))), ((p0a 12), .inl ((p0k 12), 60, .inl ((o118.2) 12)))] : va_W)))))
  have hK2 : va_K (dC, dI) cls (List.flatten ([[((p0k 7), .int)], [((p0k 2), .int), ((p0k 3), .int), ((p0k 4), .int), ((p0k 5), .int), ((p0k 6), .int), ((p0k 9), .int), ((p0k 10), .int), ((p0k 12), .int)], (tX1 p1k), (tX9 p1_2k)] : List (List (ClassId × FieldType)))) s := vK_perm hK ((bP (List.Perm.refl _)).trans (List.Perm.append_right _ (List.perm_middle (a := (((p0k 7), .int) : ClassId × FieldType)) (l₁ := ([((p0k 2), .int), ((p0k 3), .int), ((p0k 4), .int), ((p0k 5), .int), ((p0k 6), .int)] : List (ClassId × FieldType))) (l₂ := ([((p0k 9), .int), ((p0k 10), .int), ((p0k 12), .int)] : List (ClassId × FieldType))))))
  have hPx : va_P (dC, dI) cls ((List.flatten ([(oX1 (p1a 0) p1a p1k p1n p1w p1l), (oX9 (p1a 3) p1_2a p1_2k p1_2n (o37.2)), [((p0a 7), .inl ((p0k 7), 250, .inl ((o118.2) 7)))]] : List va_W)) ++ (List.flatten ([[((p0a 0), .inr (7, [.ref (p0a 1), .ref (p0a 2), .ref (p0a 3), .ref (p0a 4), .ref (p0a 5), .ref (p0a 6), .ref (p0a 7), .long (p0l 0 7), .ref (p0a 9), .ref (p0a 10), .int ((o118.2) 0 10), .ref (p0a 12)])), ((p0a 2), .inl ((p0k 2), 250, .inl ((o118.2) 2))), ((p0a 3), .inl ((p0k 3), 250, .inl ((o118.2) 3))), ((p0a 4), .inl ((p0k 4), 250, .inl ((o118.2) 4))), ((p0a 5), .inl ((p0k 5), 250, .inl ((o118.2) 5))), ((p0a 6), .inl ((p0k 6), 250, .inl ((o118.2) 6))), ((p0a 9), .inl ((p0k 9), 250, .inl ((o118.2) 9))), ((p0a 10), .inl ((p0k 10), 250, .inl ((o118.2) 10))), ((p0a 12), .inl ((p0k 12), 60, .inl ((o118.2) 12)))]] : List va_W))) H := vP_fa (vP_perm hP2 (bP (((((((((List.Perm.refl _)).cons _).trans (List.Perm.swap _ _ _))).cons _).trans (List.Perm.swap _ _ _))).trans (((((((((List.Perm.refl _)).cons _).trans (List.Perm.swap _ _ _))).cons _).trans (List.Perm.swap _ _ _))).cons _))))
  have hDx : va_D A ((List.flatten ([(oX1 (p1a 0) p1a p1k p1n p1w p1l), (oX9 (p1a 3) p1_2a p1_2k p1_2n (o37.2)), [((p0a 7), .inl ((p0k 7), 250, .inl ((o118.2) 7)))]] : List va_W)) ++ (List.flatten ([[((p0a 0), .inr (7, [.ref (p0a 1), .ref (p0a 2), .ref (p0a 3), .ref (p0a 4), .ref (p0a 5), .ref (p0a 6), .ref (p0a 7), .long (p0l 0 7), .ref (p0a 9), .ref (p0a 10), .int ((o118.2) 0 10), .ref (p0a 12)])), ((p0a 2), .inl ((p0k 2), 250, .inl ((o118.2) 2))), ((p0a 3), .inl ((p0k 3), 250, .inl ((o118.2) 3))), ((p0a 4), .inl ((p0k 4), 250, .inl ((o118.2) 4))), ((p0a 5), .inl ((p0k 5), 250, .inl ((o118.2) 5))), ((p0a 6), .inl ((p0k 6), 250, .inl ((o118.2) 6))), ((p0a 9), .inl ((p0k 9), 250, .inl ((o118.2) 9))), ((p0a 10), .inl ((p0k 10), 250, .inl ((o118.2) 10))), ((p0a 12), .inl ((p0k 12), 60, .inl ((o118.2) 12)))]] : List va_W))) := vD_fa (vD_perm hD2 (bP (((((((((List.Perm.refl _)).cons _).trans (List.Perm.swap _ _ _))).cons _).trans (List.Perm.swap _ _ _))).trans (((((((((List.Perm.refl _)).cons _).trans (List.Perm.swap _ _ _))).cons _).trans (List.Perm.swap _ _ _))).cons _))))
  have hKx : va_K (dC, dI) cls ((List.flatten ([(tX1 p1k), (tX9 p1_2k), [((p0k 7), .int)]] : List (List (ClassId × FieldType)))) ++ (List.flatten ([[((p0k 2), .int), ((p0k 3), .int), ((p0k 4), .int), ((p0k 5), .int), ((p0k 6), .int), ((p0k 9), .int), ((p0k 10), .int), ((p0k 12), .int)]] : List (List (ClassId × FieldType))))) s := vK_fa (vK_perm hK2 (bP (((((((((List.Perm.refl _)).cons _).trans (List.Perm.swap _ _ _))).cons _).trans (List.Perm.swap _ _ _))).trans (((((((((List.Perm.refl _)).cons _).trans (List.Perm.swap _ _ _))).cons _).trans (List.Perm.swap _ _ _))).cons _))))
  have hPc := vP_l hPx
  have hDc := vD_l hDx
  have hKc := vK_l hKx
  have hFc := vfree hDx hS hA
  refine va_callv (va_runV (As := [.ref (p0a 7)]) (rest := []) ⟨hx, hb, hml, hown, hts⟩ (kX1_leaveOut l dC dI (p0a := p1a) (p0k := p1k) (p0n := p1n) (p0w := p1w) (p0l := p1l) (p1a := (p0a 7)) (p1k := (p0k 7)) (p1n := 250) (p1f := ((o118.2) 7)) (p0_2a := p1_2a) (p0_2k := p1_2k) (p0_2n := p1_2n) (p0_2w := (o37.2)) (sz := _) (o := o_24) (hrun := hc_24)) (cwV 1 hts (gi_V qw485 qw486 qw487 qw126 (gi_z qw484)) rfl rfl rfl (by decide +kernel) ⟨Nat.le_of_ble_eq_true rfl, Nat.le_of_ble_eq_true rfl⟩) ⟨PRE.blind, va_recv hKc hPc (ci := 4) (q0 := 0) rfl rfl, PRE.of hE hS hFc hPc hKc hDc⟩ rfl rfl hl.1 rfl (lv_room (Nat.le_of_ble_eq_true rfl)) dX5_joinEquals_188 ⟨(Nat.le_of_ble_eq_true rfl), (Nat.le_of_ble_eq_true rfl)⟩) hS (fun q _ h => hFc q h) hFc (fun u t H locs ht hvm hw hB hz1 hk1 hS => ?_)
  obtain ⟨b1, b2, b3⟩ := hB
  rw [ht] at b1
  obtain ⟨hP, hD, hK⟩ := JOINC (wc := (List.flatten ([(oX1 (p1a 0) p1a p1k p1n p1w p1l), (oX9 (p1a 3) p1_2a p1_2k p1_2n (o37.2)), [((p0a 7), .inl ((p0k 7), 250, .inl ((o118.2) 7)))]] : List va_W))) (wr := (List.flatten ([[((p0a 0), .inr (7, [.ref (p0a 1), .ref (p0a 2), .ref (p0a 3), .ref (p0a 4), .ref (p0a 5), .ref (p0a 6), .ref (p0a 7), .long (p0l 0 7), .ref (p0a 9), .ref (p0a 10), .int ((o118.2) 0 10), .ref (p0a 12)])), ((p0a 2), .inl ((p0k 2), 250, .inl ((o118.2) 2))), ((p0a 3), .inl ((p0k 3), 250, .inl ((o118.2) 3))), ((p0a 4), .inl ((p0k 4), 250, .inl ((o118.2) 4))), ((p0a 5), .inl ((p0k 5), 250, .inl ((o118.2) 5))), ((p0a 6), .inl ((p0k 6), 250, .inl ((o118.2) 6))), ((p0a 9), .inl ((p0k 9), 250, .inl ((o118.2) 9))), ((p0a 10), .inl ((p0k 10), 250, .inl ((o118.2) 10))), ((p0a 12), .inl ((p0k 12), 60, .inl ((o118.2) 12)))]] : List va_W))) (w1 := (List.flatten ([(oX1 (p1a 0) p1a p1k p1n (o_24.1) p1l), (oX9 (p1a 3) p1_2a p1_2k p1_2n (o_24.2)), [((p0a 7), .inl ((p0k 7), 250, .inl ((o118.2) 7)))]] : List va_W))) (t1 := (List.flatten ([(tX1 p1k), (tX9 p1_2k), [((p0k 7), .int)]] : List (List (ClassId × FieldType))))) hPx hDx hKx hk1 hFc b1 (va_K.moved hvm.symm b2) b3
  have hP3 : va_P (dC, dI) cls (List.flatten ([(oX5 (p0a 0) p0a p0k (o118.2) p0l), (oX1 (p1a 0) p1a p1k p1n (o_24.1) p1l), (oX9 (p1a 3) p1_2a p1_2k p1_2n (o_24.2))] : List va_W)) H := vP_perm (vP_fb hP) ((bP (((((((((List.Perm.refl _)).cons _).trans (List.Perm.swap _ _ _))).cons _).trans (List.Perm.swap _ _ _))).trans (((((((((List.Perm.refl _)).cons _).trans (List.Perm.swap _ _ _))).cons _).trans (List.Perm.swap _ _ _))).cons _))).trans (List.Perm.append_right _ (List.perm_middle (a := (((p0a 7), .inl ((p0k 7), 250, .inl ((o118.2) 7))) : Nat × va_E)) (l₁ := ([((p0a 0), .inr (7, [.ref (p0a 1), .ref (p0a 2), .ref (p0a 3), .ref (p0a 4), .ref (p0a 5), .ref (p0a 6), .ref (p0a 7), .long (p0l 0 7), .ref (p0a 9), .ref (p0a 10), .int ((o118.2) 0 10), .ref (p0a 12)])), ((p0a 2), .inl ((p0k 2), 250, .inl ((o118.2) 2))), ((p0a 3), .inl ((p0k 3), 250, .inl ((o118.2) 3))), ((p0a 4), .inl ((p0k 4), 250, .inl ((o118.2) 4))), ((p0a 5), .inl ((p0k 5), 250, .inl ((o118.2) 5))), ((p0a 6), .inl ((p0k 6), 250, .inl ((o118.2) 6)))] : va_W)) (l₂ := ([((p0a 9), .inl ((p0k 9), 250, .inl ((o118.2) 9))), ((p0a 10), .inl ((p0k 10), 250, .inl ((o118.2) 10))), ((p0a 12), .inl ((p0k 12), 60, .inl ((o118.2) 12)))] : va_W))).symm))
  have hD3 : va_D A (List.flatten ([(oX5 (p0a 0) p0a p0k (o118.2) p0l), (oX1 (p1a 0) p1a p1k p1n (o_24.1) p1l), (oX9 (p1a 3) p1_2a p1_2k p1_2n (o_24.2))] : List va_W)) := vD_perm (vD_fb hD) ((bP (((((((((List.Perm.refl _)).cons _).trans (List.Perm.swap _ _ _))).cons _).trans (List.Perm.swap _ _ _))).trans (((((((((List.Perm.refl _)).cons _).trans (List.Perm.swap _ _ _))).cons _).trans (List.Perm.swap _ _ _))).cons _))).trans (List.Perm.append_right _ (List.perm_middle (a := (((p0a 7), .inl ((p0k 7), 250, .inl ((o118.2) 7))) : Nat × va_E)) (l₁ := ([((p0a 0), .inr (7, [.ref (p0a 1), .ref (p0a 2), .ref (p0a 3), .ref (p0a 4), .ref (p0a 5), .ref (p0a 6), .ref (p0a 7), .long (p0l 0 7), .ref (p0a 9), .ref (p0a 10), .int ((o118.2) 0 10), .ref (p0a 12)])), ((p0a 2), .inl ((p0k 2), 250, .inl ((o118.2) 2))), ((p0a 3), .inl ((p0k 3), 250, .inl ((o118.2) 3))), ((p0a 4), .inl ((p0k 4), 250, .inl ((o118.2) 4))), ((p0a 5), .inl ((p0k 5), 250, .inl ((o118.2) 5))), ((p0a 6), .inl ((p0k 6), 250, .inl ((o118.2) 6)))] : va_W)) (l₂ := ([((p0a 9), .inl ((p0k 9), 250, .inl ((o118.2) 9))), ((p0a 10), .inl ((p0k 10), 250, .inl ((o118.2) 10))), ((p0a 12), .inl ((p0k 12), 60, .inl ((o118.2) 12)))] : va_W))).symm))
  have hK3 : va_K (dC, dI) cls (List.flatten ([(tX5 p0k), (tX1 p1k), (tX9 p1_2k)] : List (List (ClassId × FieldType)))) s := vK_perm (vK_fb hK) ((bP (((((((((List.Perm.refl _)).cons _).trans (List.Perm.swap _ _ _))).cons _).trans (List.Perm.swap _ _ _))).trans (((((((((List.Perm.refl _)).cons _).trans (List.Perm.swap _ _ _))).cons _).trans (List.Perm.swap _ _ _))).cons _))).trans (List.Perm.append_right _ (List.perm_middle (a := (((p0k 7), .int) : ClassId × FieldType)) (l₁ := ([((p0k 2), .int), ((p0k 3), .int), ((p0k 4), .int), ((p0k 5), .int), ((p0k 6), .int)] : List (ClassId × FieldType))) (l₂ := ([((p0k 9), .int), ((p0k 10), .int), ((p0k 12), .int)] : List (ClassId × FieldType)))).symm))
  have hP : va_P (dC, dI) cls (List.flatten ([(oX5 (p0a 0) p0a p0k (o118.2) p0l), (oX1 (p1a 0) p1a p1k p1n (o_24.1) p1l), (oX9 (p1a 3) p1_2a p1_2k p1_2n (o_24.2))] : List va_W)) H := vP_perm hP3 (bP (List.Perm.refl _))
  have hD : va_D A (List.flatten ([(oX5 (p0a 0) p0a p0k (o118.2) p0l), (oX1 (p1a 0) p1a p1k p1n (o_24.1) p1l), (oX9 (p1a 3) p1_2a p1_2k p1_2n (o_24.2))] : List va_W)) := vD_perm hD3 (bP (List.Perm.refl _))
  have hK : va_K (dC, dI) cls (List.flatten ([(tX5 p0k), (tX1 p1k), (tX9 p1_2k)] : List (List (ClassId × FieldType)))) s := vK_perm hK3 (bP (List.Perm.refl _))
  refine lv_aload_n hx hb dX5_joinEquals_191 rfl (lv_at hl 0 rfl) ?_
  refine lv_aload_n hx hb dX5_joinEquals_192 rfl (lv_at hl 1 rfl) ?_
  obtain ⟨o_25, hc_25, hrun⟩ := bnd9 hrun
  have hPx : va_P (dC, dI) cls ((List.flatten ([(oX5 (p0a 0) p0a p0k (o118.2) p0l), (oX1 (p1a 0) p1a p1k p1n (o_24.1) p1l), (oX9 (p1a 3) p1_2a p1_2k p1_2n (o_24.2))] : List va_W)) ++ (List.flatten ([] : List va_W))) H := vP_fa (vP_perm hP (bP (List.Perm.refl _)))
  have hDx : va_D A ((List.flatten ([(oX5 (p0a 0) p0a p0k (o118.2) p0l), (oX1 (p1a 0) p1a p1k p1n (o_24.1) p1l), (oX9 (p1a 3) p1_2a p1_2k p1_2n (o_24.2))] : List va_W)) ++ (List.flatten ([] : List va_W))) := vD_fa (vD_perm hD (bP (List.Perm.refl _)))
  have hKx : va_K (dC, dI) cls ((List.flatten ([(tX5 p0k), (tX1 p1k), (tX9 p1_2k)] : List (List (ClassId × FieldType)))) ++ (List.flatten ([] : List (List (ClassId × FieldType))))) s := vK_fa (vK_perm hK (bP (List.Perm.refl _)))
  have hPc := vP_l hPx
  have hDc := vD_l hDx
  have hKc := vK_l hKx
  have hFc := vfree hDx hS hA
  refine va_callv (va_runV (As := [.ref (p1a 0)]) (rest := []) ⟨hx, hb, hml, hown, hts⟩ (kX5_useStandIns l dC dI (p0a := p0a) (p0k := p0k) (p0w := (o118.2)) (p0l := p0l) (p1a := p1a) (p1k := p1k) (p1n := p1n) (p1w := (o_24.1)) (p1l := p1l) (p1_2a := p1_2a) (p1_2k := p1_2k) (p1_2n := p1_2n) (p1_2w := (o_24.2)) (sz := _) (o := o_25) (hrun := hc_25)) (cwV 1 hts (gi_V qw592 qw593 qw594 qw442 (gi_z qw591)) rfl rfl rfl (by decide +kernel) ⟨Nat.le_of_ble_eq_true rfl, Nat.le_of_ble_eq_true rfl⟩) ⟨PRE.blind, va_recv hKc hPc (ci := 7) (q0 := 0) rfl rfl, PRE.of hE hS hFc hPc hKc hDc⟩ rfl rfl hl.1 rfl (lv_room (Nat.le_of_ble_eq_true rfl)) dX5_joinEquals_193 ⟨(Nat.le_of_ble_eq_true rfl), (Nat.le_of_ble_eq_true rfl)⟩) hS (fun q _ h => hFc q h) hFc (fun u t H locs ht hvm hw hB hz1 hk1 hS => ?_)
  obtain ⟨b1, b2, b3⟩ := hB
  rw [ht] at b1
  obtain ⟨hP, hD, hK⟩ := JOINC (wc := (List.flatten ([(oX5 (p0a 0) p0a p0k (o118.2) p0l), (oX1 (p1a 0) p1a p1k p1n (o_24.1) p1l), (oX9 (p1a 3) p1_2a p1_2k p1_2n (o_24.2))] : List va_W))) (wr := (List.flatten ([] : List va_W))) (w1 := (List.flatten ([(oX5 (p0a 0) p0a p0k (o118.2) p0l), (oX1 (p1a 0) p1a p1k p1n (o_25.1) p1l), (oX9 (p1a 3) p1_2a p1_2k p1_2n (o_25.2))] : List va_W))) (t1 := (List.flatten ([(tX5 p0k), (tX1 p1k), (tX9 p1_2k)] : List (List (ClassId × FieldType))))) hPx hDx hKx hk1 hFc b1 (va_K.moved hvm.symm b2) b3
  have hP : va_P (dC, dI) cls (List.flatten ([(oX5 (p0a 0) p0a p0k (o118.2) p0l), (oX1 (p1a 0) p1a p1k p1n (o_25.1) p1l), (oX9 (p1a 3) p1_2a p1_2k p1_2n (o_25.2))] : List va_W)) H := vP_perm (vP_fb hP) (bP (List.Perm.refl _))
  have hD : va_D A (List.flatten ([(oX5 (p0a 0) p0a p0k (o118.2) p0l), (oX1 (p1a 0) p1a p1k p1n (o_25.1) p1l), (oX9 (p1a 3) p1_2a p1_2k p1_2n (o_25.2))] : List va_W)) := vD_perm (vD_fb hD) (bP (List.Perm.refl _))
  have hK : va_K (dC, dI) cls (List.flatten ([(tX5 p0k), (tX1 p1k), (tX9 p1_2k)] : List (List (ClassId × FieldType)))) s := vK_perm (vK_fb hK) (bP (List.Perm.refl _))
  refine lv_iload_n hx hb dX5_joinEquals_196 rfl (lv_at hl 2 rfl) ?_
  have ho9 : ((o118.1), (o118.2), (o_25.1), (o_25.2)) = o := Option.some.inj hrun
  have hP9 : va_P (dC, dI) cls (List.flatten ([(oX5 (p0a 0) p0a p0k (o.2.1) p0l), (oX1 (p1a 0) p1a p1k p1n (o.2.2.1) p1l), (oX9 (p1a 3) p1_2a p1_2k p1_2n (o.2.2.2))] : List va_W)) H := by first | exact hP | (rw [← ho9]; exact hP)
  have hD9 : va_D A (List.flatten ([(oX5 (p0a 0) p0a p0k (o.2.1) p0l), (oX1 (p1a 0) p1a p1k p1n (o.2.2.1) p1l), (oX9 (p1a 3) p1_2a p1_2k p1_2n (o.2.2.2))] : List va_W)) := by first | exact hD | (rw [← ho9]; exact hD)
  subst hQ
  exact W.iret (v := (o118.1)) hx hb hr (fun t ht hW => ⟨⟨(o118.1), (), rfl, (by rw [← ho9]), ⟨by rw [ht]; exact hP9, va_K.moved hW.alike hK, hD9⟩⟩, hS.F ht⟩) hS.2.2 dX5_joinEquals_197
def fX5_mayLift_J82 (y0_82 : Int32) : Option Int32 := (if y0_82 = 0 ∨ y0_82 = 1 then some y0_82 else none)
def fX5_mayLift_J81  : Option Int32 := (fX5_mayLift_J82 0)
def fX5_mayLift (p0w : ST) (p2 : Int32) (p3 : Int64) (p1_2n : Nat → Nat) (p1_2w : ST) : Option Int32 := (if ixb p2 (p1_2n 2) = true then (if (p1_2w 2 (nn p2)) = 0 then some 1 else ((fX11_isOperator (p1_2w 2 (nn p2))).bind fun (o_3 : Int32) => (if o_3 = 0 then (fX5_mayLift_J81) else ((fX5_mayFail p0w p2 p1_2n p1_2w).bind fun (o_6 : Int32) => (if o_6 = 0 then (if ixb p2 (p1_2n 4) = true then (if ixb (p1_2w 4 (nn p2)) 250 = true then ((fX11_holds p3 (p0w 3 (nn (p1_2w 4 (nn p2))))).bind fun (o_11 : Int32) => (if o_11 = 0 then (if ixb p2 (p1_2n 5) = true then (if ixb (p1_2w 5 (nn p2)) 250 = true then ((fX11_holds p3 (p0w 3 (nn (p1_2w 5 (nn p2))))).bind fun (o_16 : Int32) => (if o_16 = 0 then (fX5_mayLift_J82 1) else (fX5_mayLift_J81))) else none) else none) else (fX5_mayLift_J81))) else none) else none) else (fX5_mayLift_J81)))))) else none)
set_option maxHeartbeats 16000000 in
set_option maxRecDepth 100000 in
theorem kX5_mayLift {zs : ZS} (l : Launch) (dC : Nat → ClassId) (dI : Nat → Nat → Nat) (p0a : Nat → Nat) (p0k : Nat → ClassId) (p0w : ST) (p0l : SL) (p1a : Nat → Nat) (p1k : Nat → ClassId) (p1n : Nat → Nat) (p1w : ST) (p1l : SL) (p2 : Int32) (p3 : Int64) (p1_2a : Nat → Nat) (p1_2k : Nat → ClassId) (p1_2n : Nat → Nat) (p1_2w : ST) (sz : Nat) (o : Int32) (hrun : fX5_mayLift p0w p2 p3 p1_2n p1_2w = some o) : Met l yX5_mayLift (wz yX5_mayLift cX5_mayLift 6 (Option.some Jvm.ClassFile.FieldType.boolean)) ({ frames := 2, cells := 0, slots := 0, locals := 46 } : Room) (va_Pc [.ref (p0a 0), .ref (p1a 0), .int p2, .long p3] (PRE zs dC dI (List.flatten ([(oX5 (p0a 0) p0a p0k p0w p0l), (oX1 (p1a 0) p1a p1k p1n p1w p1l), (oX9 (p1a 3) p1_2a p1_2k p1_2n p1_2w)] : List va_W)) (List.flatten ([(tX5 p0k), (tX1 p1k), (tX9 p1_2k)] : List (List (ClassId × FieldType)))) sz)) (va_Qi (fun (r : Int32) (_ : Unit) => r = o) (fun _ t => POST dC dI (List.flatten ([(oX5 (p0a 0) p0a p0k p0w p0l), (oX1 (p1a 0) p1a p1k p1n p1w p1l), (oX9 (p1a 3) p1_2a p1_2k p1_2n p1_2w)] : List va_W)) (List.flatten ([(tX5 p0k), (tX1 p1k), (tX9 p1_2k)] : List (List (ClassId × FieldType)))) (va_A (List.flatten ([(oX5 (p0a 0) p0a p0k p0w p0l), (oX1 (p1a 0) p1a p1k p1n p1w p1l), (oX9 (p1a 3) p1_2a p1_2k p1_2n p1_2w)] : List va_W)) sz) t) (va_A (List.flatten ([(oX5 (p0a 0) p0a p0k p0w p0l), (oX1 (p1a 0) p1a p1k p1n p1w p1l), (oX9 (p1a 3) p1_2a p1_2k p1_2n p1_2w)] : List va_W)) sz)) 0 0 (va_A (List.flatten ([(oX5 (p0a 0) p0a p0k p0w p0l), (oX1 (p1a 0) p1a p1k p1n p1w p1l), (oX9 (p1a 3) p1_2a p1_2k p1_2n p1_2w)] : List va_W)) sz) := by
  refine Met.ofW (cc := cX5_mayLift) (maxL := 6) (ret := (Option.some Jvm.ClassFile.FieldType.boolean)) (by decide) rfl ?_
  intro p e s m args below meth c s₁ B hml hv
  obtain ⟨rfl, hsz, hP, hK, hD0, hE⟩ := hv
  have hx := B.exec
  have hb := B.bytes
  have hr := B.returns
  have hts0 := atoms_spec (ws := wz yX5_mayLift cX5_mayLift 6 (Option.some Jvm.ClassFile.FieldType.boolean)) B.pre
  have hts : ∀ w ∈ gw, w.before _ s = true := fun w h => hts0 w (List.mem_cons_of_mem _ h)
  have hown : s.vm.findClass RX5 = some m.cls := findClass_of_methodNamed B.named
  have hlocks := B.notSynchronized
  subst hsz
  have hD := hD0.self (sz := s.heap.size)
  refine gQ9 ?_
  intro Q hQ
  generalize hAe : va_A (List.flatten ([(oX5 (p0a 0) p0a p0k p0w p0l), (oX1 (p1a 0) p1a p1k p1n p1w p1l), (oX9 (p1a 3) p1_2a p1_2k p1_2n p1_2w)] : List va_W)) s.heap.size = A at hD hE hQ
  have hA : ∀ q : Nat, s.heap.size ≤ q → A q := fun q h => by rw [← hAe]; exact Or.inr h
  have hS : va_S A s.heap s.heap [] := va_S.rf
  have hP : va_P (dC, dI) cls (List.flatten ([(oX5 (p0a 0) p0a p0k p0w p0l), (oX1 (p1a 0) p1a p1k p1n p1w p1l), (oX9 (p1a 3) p1_2a p1_2k p1_2n p1_2w)] : List va_W)) s.heap := hP
  have hl := lv_entry ([.ref (p0a 0), .ref (p1a 0), .int p2, .long p3]) (n := 6) (Nat.le_of_ble_eq_true rfl)
  rw [lg_entry_eq]
  generalize (lg_sl ([.ref (p0a 0), .ref (p1a 0), .int p2, .long p3]) ++ List.replicate (6 - (lg_sl ([.ref (p0a 0), .ref (p1a 0), .int p2, .long p3])).length) Slot.unset).toArray = ls at hl ⊢
  have hl : lv_has ls 6 [(0, .ref (p0a 0)), (1, .ref (p1a 0)), (2, .int p2), (3, .long p3)] := hl
  obtain ⟨H, hHe⟩ : ∃ H, H = s.heap := ⟨_, rfl⟩
  obtain ⟨locs, hle⟩ : ∃ locs : List Loc, locs = [] := ⟨_, rfl⟩
  rw [← hHe] at hP
  have hS : va_S A s.heap H locs := by rw [hHe, hle]; exact hS
  show W p l e ({ frames := 2, cells := 0, slots := 0, locals := 46 } : Room) s m ([.ref (p0a 0), .ref (p1a 0), .int p2, .long p3] : List Value).toArray below meth c s.heap [] 0 0 Q (F0 m 0 ls [])
  rw [← hle]
  refine wH9 hHe ?_
  unfold fX5_mayLift at hrun
  refine lv_aload_n hx hb dX5_mayLift_0 rfl (lv_at hl 1 rfl) ?_
  refine va_get (D := (dC, dI)) (ci := 4) (v := .ref (p1a 3)) (C := RX1) (T := TX1) (N := 21) hx hb hts i_X1 hown hK hP 10 rfl rfl 2 (by decide) (hts _ qw435) (fun _ h9 => h9) rfl dX5_mayLift_1 ?_
  refine va_get (D := (dC, dI)) (ci := 3) (v := .ref (p1_2a 2)) (C := RX9) (T := TX9) (N := 6) hx hb hts i_X9 hown hK hP 28 rfl rfl 1 (by decide) (hts _ qw420) (fun _ h9 => h9) rfl dX5_mayLift_4 ?_
  refine lv_iload_n hx hb dX5_mayLift_7 rfl (lv_at hl 2 rfl) ?_
  obtain ⟨hq1, hrun⟩ := chk9 hrun
  refine va_iald hx hb hK hP 29 26 rfl rfl (ixb_in hq1) dX5_mayLift_8 ?_
  refine lv_istore (lv' := [(5, .int (p1_2w 2 (nn p2))), (0, .ref (p0a 0)), (1, .ref (p1a 0)), (2, .int p2), (3, .long p3)]) hx hb dX5_mayLift_9 hl (by decide) rfl (fun ls hl => ?_)
  refine lv_iload hx hb dX5_mayLift_11 (lv_at hl 0 rfl) ?_
  rcases br9 hrun with ⟨hc2, hrun⟩ | ⟨hc2, hrun⟩
  · refine lv_if_ne (tgt := 18) hx hb dX5_mayLift_13 (by decide) (fun c => absurd hc2 c) (fun _ => ?_)
    refine lv_iconst (v := 1) hx hb dX5_mayLift_16 (by decide) ?_
    have ho9 : 1 = o := Option.some.inj hrun
    have hP9 : va_P (dC, dI) cls (List.flatten ([(oX5 (p0a 0) p0a p0k p0w p0l), (oX1 (p1a 0) p1a p1k p1n p1w p1l), (oX9 (p1a 3) p1_2a p1_2k p1_2n p1_2w)] : List va_W)) H := by first | exact hP | (rw [← ho9]; exact hP)
    have hD9 : va_D A (List.flatten ([(oX5 (p0a 0) p0a p0k p0w p0l), (oX1 (p1a 0) p1a p1k p1n p1w p1l), (oX9 (p1a 3) p1_2a p1_2k p1_2n p1_2w)] : List va_W)) := by first | exact hD | (rw [← ho9]; exact hD)
    subst hQ
    exact W.zret (v := 1) hx hb hr (by decide) (fun t ht hW => ⟨⟨1, (), rfl, (by rw [← ho9]), ⟨by rw [ht]; exact hP9, va_K.moved hW.alike hK, hD9⟩⟩, hS.F ht⟩) hS.2.2 dX5_mayLift_17
  · refine lv_if_ne (tgt := 18) hx hb dX5_mayLift_13 (by decide) (fun _ => ?_) (fun c => absurd c hc2)
    refine lv_iload hx hb dX5_mayLift_18 (lv_at hl 0 rfl) ?_
    obtain ⟨o_3, hc_3, hrun⟩ := bnd9 hrun
    have hPx : va_P (dC, dI) cls ((List.flatten ([] : List va_W)) ++ (List.flatten ([(oX5 (p0a 0) p0a p0k p0w p0l), (oX1 (p1a 0) p1a p1k p1n p1w p1l), (oX9 (p1a 3) p1_2a p1_2k p1_2n p1_2w)] : List va_W))) H := vP_fa (vP_perm hP (bP (List.Perm.refl _)))
    have hDx : va_D A ((List.flatten ([] : List va_W)) ++ (List.flatten ([(oX5 (p0a 0) p0a p0k p0w p0l), (oX1 (p1a 0) p1a p1k p1n p1w p1l), (oX9 (p1a 3) p1_2a p1_2k p1_2n p1_2w)] : List va_W))) := vD_fa (vD_perm hD (bP (List.Perm.refl _)))
    have hKx : va_K (dC, dI) cls ((List.flatten ([] : List (List (ClassId × FieldType)))) ++ (List.flatten ([(tX5 p0k), (tX1 p1k), (tX9 p1_2k)] : List (List (ClassId × FieldType))))) s := vK_fa (vK_perm hK (bP (List.Perm.refl _)))
    have hPc := vP_l hPx
    have hDc := vD_l hDx
    have hKc := vK_l hKx
    have hFc := vfree hDx hS hA
    refine va_calli (va_runSN (As := [.int (p1_2w 2 (nn p2))]) (rest := []) ⟨hx, hb, hml, hown, hts⟩ (kX11_isOperator l dC dI (p0 := (p1_2w 2 (nn p2))) (sz := _) (o := o_3) (hrun := hc_3)) ⟨(va_cnB 1 hts (gi_z qw348) rfl rfl rfl (hE.nw (List.mem_append_right _ (tbl_7 (i := 173) rfl)) rfl) (hts _ qw129) (by decide +kernel) ⟨Nat.le_of_ble_eq_true rfl, Nat.le_of_ble_eq_true rfl⟩), (hts _ qw350), trivial⟩ ⟨PRE.blind, PRE.of hE hS hFc hPc hKc hDc⟩ rfl rfl hl.1 rfl (lv_room (Nat.le_of_ble_eq_true rfl)) dX5_mayLift_20 ⟨(Nat.le_of_ble_eq_true rfl), (Nat.le_of_ble_eq_true rfl)⟩) hS (fun q _ h => hFc q h) hFc (fun r4 u t H locs ht hvm hw hB hz1 hk1 hS => ?_)
    obtain ⟨b1, b2, b3⟩ := hB
    rw [ht] at b1
    obtain ⟨hP, hD, hK⟩ := JOINC (wc := (List.flatten ([] : List va_W))) (wr := (List.flatten ([(oX5 (p0a 0) p0a p0k p0w p0l), (oX1 (p1a 0) p1a p1k p1n p1w p1l), (oX9 (p1a 3) p1_2a p1_2k p1_2n p1_2w)] : List va_W))) (w1 := (List.flatten ([] : List va_W))) (t1 := (List.flatten ([] : List (List (ClassId × FieldType))))) hPx hDx hKx hk1 hFc b1 (va_K.moved hvm.symm b2) b3
    have hP : va_P (dC, dI) cls (List.flatten ([(oX5 (p0a 0) p0a p0k p0w p0l), (oX1 (p1a 0) p1a p1k p1n p1w p1l), (oX9 (p1a 3) p1_2a p1_2k p1_2n p1_2w)] : List va_W)) H := vP_perm (vP_fb hP) (bP (List.Perm.refl _))
    have hD : va_D A (List.flatten ([(oX5 (p0a 0) p0a p0k p0w p0l), (oX1 (p1a 0) p1a p1k p1n p1w p1l), (oX9 (p1a 3) p1_2a p1_2k p1_2n p1_2w)] : List va_W)) := vD_perm (vD_fb hD) (bP (List.Perm.refl _))
    have hK : va_K (dC, dI) cls (List.flatten ([(tX5 p0k), (tX1 p1k), (tX9 p1_2k)] : List (List (ClassId × FieldType)))) s := vK_perm (vK_fb hK) (bP (List.Perm.refl _))
    obtain rfl : o_3 = r4 := hw.symm
    have J82 : ∀ (y0_82 : Int32) (H : Heap) (locs : List Loc) (ls : Array Slot), (fX5_mayLift_J82 y0_82) = some o → va_P (dC, dI) cls (List.flatten ([(oX5 (p0a 0) p0a p0k p0w p0l), (oX1 (p1a 0) p1a p1k p1n p1w p1l), (oX9 (p1a 3) p1_2a p1_2k p1_2n p1_2w)] : List va_W)) H → va_D A (List.flatten ([(oX5 (p0a 0) p0a p0k p0w p0l), (oX1 (p1a 0) p1a p1k p1n p1w p1l), (oX9 (p1a 3) p1_2a p1_2k p1_2n p1_2w)] : List va_W)) → va_K (dC, dI) cls (List.flatten ([(tX5 p0k), (tX1 p1k), (tX9 p1_2k)] : List (List (ClassId × FieldType)))) s → va_S A s.heap H locs → lv_has ls 6 [] → W p l e ({ frames := 2, cells := 0, slots := 0, locals := 46 } : Room) s m ([.ref (p0a 0), .ref (p1a 0), .int p2, .long p3] : List Value).toArray below meth c H locs 0 0 Q (F0 m 82 ls [.int y0_82]) := by
      intro y0_82 H locs ls hrun hP hD hK hS hl 
      unfold fX5_mayLift_J82 at hrun
      obtain ⟨hz9, hrun⟩ := chk9 hrun
      have ho9 : y0_82 = o := Option.some.inj hrun
      have hP9 : va_P (dC, dI) cls (List.flatten ([(oX5 (p0a 0) p0a p0k p0w p0l), (oX1 (p1a 0) p1a p1k p1n p1w p1l), (oX9 (p1a 3) p1_2a p1_2k p1_2n p1_2w)] : List va_W)) H := by first | exact hP | (rw [← ho9]; exact hP)
      have hD9 : va_D A (List.flatten ([(oX5 (p0a 0) p0a p0k p0w p0l), (oX1 (p1a 0) p1a p1k p1n p1w p1l), (oX9 (p1a 3) p1_2a p1_2k p1_2n p1_2w)] : List va_W)) := by first | exact hD | (rw [← ho9]; exact hD)
      subst hQ
      exact W.zret (v := y0_82) hx hb hr (bz9 hz9) (fun t ht hW => ⟨⟨y0_82, (), rfl, (by rw [← ho9]), ⟨by rw [ht]; exact hP9, va_K.moved hW.alike hK, hD9⟩⟩, hS.F ht⟩) hS.2.2 dX5_mayLift_82
    have J81 : ∀ (H : Heap) (locs : List Loc) (ls : Array Slot), (fX5_mayLift_J81) = some o → va_P (dC, dI) cls (List.flatten ([(oX5 (p0a 0) p0a p0k p0w p0l), (oX1 (p1a 0) p1a p1k p1n p1w p1l), (oX9 (p1a 3) p1_2a p1_2k p1_2n p1_2w)] : List va_W)) H → va_D A (List.flatten ([(oX5 (p0a 0) p0a p0k p0w p0l), (oX1 (p1a 0) p1a p1k p1n p1w p1l), (oX9 (p1a 3) p1_2a p1_2k p1_2n p1_2w)] : List va_W)) → va_K (dC, dI) cls (List.flatten ([(tX5 p0k), (tX1 p1k), (tX9 p1_2k)] : List (List (ClassId × FieldType)))) s → va_S A s.heap H locs → lv_has ls 6 [] → W p l e ({ frames := 2, cells := 0, slots := 0, locals := 46 } : Room) s m ([.ref (p0a 0), .ref (p1a 0), .int p2, .long p3] : List Value).toArray below meth c H locs 0 0 Q (F0 m 81 ls []) := by
      intro  H locs ls hrun hP hD hK hS hl 
      unfold fX5_mayLift_J81 at hrun
      refine lv_iconst (v := 0) hx hb dX5_mayLift_81 (by decide) ?_
      exact J82 0 _ _ _ hrun hP hD hK hS (lv_sub hl [] rfl)
    rcases br9 hrun with ⟨hc5, hrun⟩ | ⟨hc5, hrun⟩
    · refine lv_if_eq (tgt := 81) hx hb dX5_mayLift_23 (by decide) (fun _ => ?_) (fun c => absurd hc5 c)
      exact J81 _ _ _ hrun hP hD hK hS (lv_sub hl [] rfl)
    · refine lv_if_eq (tgt := 81) hx hb dX5_mayLift_23 (by decide) (fun c => absurd c hc5) (fun _ => ?_)
      refine lv_aload_n hx hb dX5_mayLift_26 rfl (lv_at hl 1 rfl) ?_
      refine lv_aload_n hx hb dX5_mayLift_27 rfl (lv_at hl 2 rfl) ?_
      refine lv_iload_n hx hb dX5_mayLift_28 rfl (lv_at hl 3 rfl) ?_
      obtain ⟨o_6, hc_6, hrun⟩ := bnd9 hrun
      have hPx : va_P (dC, dI) cls ((List.flatten ([(oX5 (p0a 0) p0a p0k p0w p0l), (oX1 (p1a 0) p1a p1k p1n p1w p1l), (oX9 (p1a 3) p1_2a p1_2k p1_2n p1_2w)] : List va_W)) ++ (List.flatten ([] : List va_W))) H := vP_fa (vP_perm hP (bP (List.Perm.refl _)))
      have hDx : va_D A ((List.flatten ([(oX5 (p0a 0) p0a p0k p0w p0l), (oX1 (p1a 0) p1a p1k p1n p1w p1l), (oX9 (p1a 3) p1_2a p1_2k p1_2n p1_2w)] : List va_W)) ++ (List.flatten ([] : List va_W))) := vD_fa (vD_perm hD (bP (List.Perm.refl _)))
      have hKx : va_K (dC, dI) cls ((List.flatten ([(tX5 p0k), (tX1 p1k), (tX9 p1_2k)] : List (List (ClassId × FieldType)))) ++ (List.flatten ([] : List (List (ClassId × FieldType))))) s := vK_fa (vK_perm hK (bP (List.Perm.refl _)))
      have hPc := vP_l hPx
      have hDc := vD_l hDx
      have hKc := vK_l hKx
      have hFc := vfree hDx hS hA
      refine va_calli (va_runV (As := [.ref (p1a 0), .int p2]) (rest := []) ⟨hx, hb, hml, hown, hts⟩ (kX5_mayFail l dC dI (p0a := p0a) (p0k := p0k) (p0w := p0w) (p0l := p0l) (p1a := p1a) (p1k := p1k) (p1n := p1n) (p1w := p1w) (p1l := p1l) (p2 := p2) (p1_2a := p1_2a) (p1_2k := p1_2k) (p1_2n := p1_2n) (p1_2w := p1_2w) (sz := _) (o := o_6) (hrun := hc_6)) (cwV 2 hts (gi_V qw465 qw466 qw467 qw442 (gi_z qw464)) rfl rfl rfl (by decide +kernel) ⟨Nat.le_of_ble_eq_true rfl, Nat.le_of_ble_eq_true rfl⟩) ⟨PRE.blind, va_recv hKc hPc (ci := 7) (q0 := 0) rfl rfl, PRE.of hE hS hFc hPc hKc hDc⟩ rfl rfl hl.1 rfl (lv_room (Nat.le_of_ble_eq_true rfl)) dX5_mayLift_29 ⟨(Nat.le_of_ble_eq_true rfl), (Nat.le_of_ble_eq_true rfl)⟩) hS (fun q _ h => hFc q h) hFc (fun r7 u t H locs ht hvm hw hB hz1 hk1 hS => ?_)
      obtain ⟨b1, b2, b3⟩ := hB
      rw [ht] at b1
      obtain ⟨hP, hD, hK⟩ := JOINC (wc := (List.flatten ([(oX5 (p0a 0) p0a p0k p0w p0l), (oX1 (p1a 0) p1a p1k p1n p1w p1l), (oX9 (p1a 3) p1_2a p1_2k p1_2n p1_2w)] : List va_W))) (wr := (List.flatten ([] : List va_W))) (w1 := (List.flatten ([(oX5 (p0a 0) p0a p0k p0w p0l), (oX1 (p1a 0) p1a p1k p1n p1w p1l), (oX9 (p1a 3) p1_2a p1_2k p1_2n p1_2w)] : List va_W))) (t1 := (List.flatten ([(tX5 p0k), (tX1 p1k), (tX9 p1_2k)] : List (List (ClassId × FieldType))))) hPx hDx hKx hk1 hFc b1 (va_K.moved hvm.symm b2) b3
      have hP : va_P (dC, dI) cls (List.flatten ([(oX5 (p0a 0) p0a p0k p0w p0l), (oX1 (p1a 0) p1a p1k p1n p1w p1l), (oX9 (p1a 3) p1_2a p1_2k p1_2n p1_2w)] : List va_W)) H := vP_perm (vP_fb hP) (bP (List.Perm.refl _))
      have hD : va_D A (List.flatten ([(oX5 (p0a 0) p0a p0k p0w p0l), (oX1 (p1a 0) p1a p1k p1n p1w p1l), (oX9 (p1a 3) p1_2a p1_2k p1_2n p1_2w)] : List va_W)) := vD_perm (vD_fb hD) (bP (List.Perm.refl _))
      have hK : va_K (dC, dI) cls (List.flatten ([(tX5 p0k), (tX1 p1k), (tX9 p1_2k)] : List (List (ClassId × FieldType)))) s := vK_perm (vK_fb hK) (bP (List.Perm.refl _))
      obtain rfl : o_6 = r7 := hw.symm
      rcases br9 hrun with ⟨hc8, hrun⟩ | ⟨hc8, hrun⟩
      · refine lv_if_ne (tgt := 81) hx hb dX5_mayLift_32 (by decide) (fun c => absurd hc8 c) (fun _ => ?_)
        refine lv_lload_n hx hb dX5_mayLift_35 rfl (lv_at hl 4 rfl) ?_
        refine lv_aload_n hx hb dX5_mayLift_36 rfl (lv_at hl 1 rfl) ?_
        refine va_get (D := (dC, dI)) (ci := 7) (v := .ref (p0a 3)) (C := RX5) (T := TX5) (N := 12) hx hb hts i_X5 hown hK hP 0 rfl rfl 2 (by decide) (hts _ qw429) (fun _ h9 => h9) rfl dX5_mayLift_37 ?_
        refine lv_aload_n hx hb dX5_mayLift_40 rfl (lv_at hl 2 rfl) ?_
        refine va_get (D := (dC, dI)) (ci := 4) (v := .ref (p1a 3)) (C := RX1) (T := TX1) (N := 21) hx hb hts i_X1 hown hK hP 10 rfl rfl 2 (by decide) (hts _ qw435) (fun _ h9 => h9) rfl dX5_mayLift_41 ?_
        refine va_get (D := (dC, dI)) (ci := 3) (v := .ref (p1_2a 4)) (C := RX9) (T := TX9) (N := 6) hx hb hts i_X9 hown hK hP 28 rfl rfl 3 (by decide) (hts _ qw421) (fun _ h9 => h9) rfl dX5_mayLift_44 ?_
        refine lv_iload_n hx hb dX5_mayLift_47 rfl (lv_at hl 3 rfl) ?_
        obtain ⟨hq9, hrun⟩ := chk9 hrun
        refine va_iald hx hb hK hP 31 28 rfl rfl (ixb_in hq9) dX5_mayLift_48 ?_
        obtain ⟨hq10, hrun⟩ := chk9 hrun
        refine va_iald hx hb hK hP 2 1 rfl rfl (ixb_in hq10) dX5_mayLift_49 ?_
        obtain ⟨o_11, hc_11, hrun⟩ := bnd9 hrun
        have hPx : va_P (dC, dI) cls ((List.flatten ([] : List va_W)) ++ (List.flatten ([(oX5 (p0a 0) p0a p0k p0w p0l), (oX1 (p1a 0) p1a p1k p1n p1w p1l), (oX9 (p1a 3) p1_2a p1_2k p1_2n p1_2w)] : List va_W))) H := vP_fa (vP_perm hP (bP (List.Perm.refl _)))
        have hDx : va_D A ((List.flatten ([] : List va_W)) ++ (List.flatten ([(oX5 (p0a 0) p0a p0k p0w p0l), (oX1 (p1a 0) p1a p1k p1n p1w p1l), (oX9 (p1a 3) p1_2a p1_2k p1_2n p1_2w)] : List va_W))) := vD_fa (vD_perm hD (bP (List.Perm.refl _)))
        have hKx : va_K (dC, dI) cls ((List.flatten ([] : List (List (ClassId × FieldType)))) ++ (List.flatten ([(tX5 p0k), (tX1 p1k), (tX9 p1_2k)] : List (List (ClassId × FieldType))))) s := vK_fa (vK_perm hK (bP (List.Perm.refl _)))
        have hPc := vP_l hPx
        have hDc := vD_l hDx
        have hKc := vK_l hKx
        have hFc := vfree hDx hS hA
        refine va_calli (va_runSN (As := [.long p3, .int (p0w 3 (nn (p1_2w 4 (nn p2))))]) (rest := []) ⟨hx, hb, hml, hown, hts⟩ (kX11_holds l dC dI (p0 := p3) (p1 := (p0w 3 (nn (p1_2w 4 (nn p2))))) (sz := _) (o := o_11) (hrun := hc_11)) ⟨(va_cnB 2 hts (gi_z qw192) rfl rfl rfl (hE.nw (List.mem_append_right _ (tbl_7 (i := 146) rfl)) rfl) (hts _ qw129) (by decide +kernel) ⟨Nat.le_of_ble_eq_true rfl, Nat.le_of_ble_eq_true rfl⟩), (hts _ qw193), trivial⟩ ⟨PRE.blind, PRE.of hE hS hFc hPc hKc hDc⟩ rfl rfl hl.1 rfl (lv_room (Nat.le_of_ble_eq_true rfl)) dX5_mayLift_50 ⟨(Nat.le_of_ble_eq_true rfl), (Nat.le_of_ble_eq_true rfl)⟩) hS (fun q _ h => hFc q h) hFc (fun r12 u t H locs ht hvm hw hB hz1 hk1 hS => ?_)
        obtain ⟨b1, b2, b3⟩ := hB
        rw [ht] at b1
        obtain ⟨hP, hD, hK⟩ := JOINC (wc := (List.flatten ([] : List va_W))) (wr := (List.flatten ([(oX5 (p0a 0) p0a p0k p0w p0l), (oX1 (p1a 0) p1a p1k p1n p1w p1l), (oX9 (p1a 3) p1_2a p1_2k p1_2n p1_2w)] : List va_W))) (w1 := (List.flatten ([] : List va_W))) (t1 := (List.flatten ([] : List (List (ClassId × FieldType))))) hPx hDx hKx hk1 hFc b1 (va_K.moved hvm.symm b2) b3
        have hP : va_P (dC, dI) cls (List.flatten ([(oX5 (p0a 0) p0a p0k p0w p0l), (oX1 (p1a 0) p1a p1k p1n p1w p1l), (oX9 (p1a 3) p1_2a p1_2k p1_2n p1_2w)] : List va_W)) H := vP_perm (vP_fb hP) (bP (List.Perm.refl _))
        have hD : va_D A (List.flatten ([(oX5 (p0a 0) p0a p0k p0w p0l), (oX1 (p1a 0) p1a p1k p1n p1w p1l), (oX9 (p1a 3) p1_2a p1_2k p1_2n p1_2w)] : List va_W)) := vD_perm (vD_fb hD) (bP (List.Perm.refl _))
        have hK : va_K (dC, dI) cls (List.flatten ([(tX5 p0k), (tX1 p1k), (tX9 p1_2k)] : List (List (ClassId × FieldType)))) s := vK_perm (vK_fb hK) (bP (List.Perm.refl _))
        obtain rfl : o_11 = r12 := hw.symm
        rcases br9 hrun with ⟨hc13, hrun⟩ | ⟨hc13, hrun⟩
        · refine lv_if_ne (tgt := 81) hx hb dX5_mayLift_53 (by decide) (fun c => absurd hc13 c) (fun _ => ?_)
          refine lv_lload_n hx hb dX5_mayLift_56 rfl (lv_at hl 4 rfl) ?_
          refine lv_aload_n hx hb dX5_mayLift_57 rfl (lv_at hl 1 rfl) ?_
          refine va_get (D := (dC, dI)) (ci := 7) (v := .ref (p0a 3)) (C := RX5) (T := TX5) (N := 12) hx hb hts i_X5 hown hK hP 0 rfl rfl 2 (by decide) (hts _ qw429) (fun _ h9 => h9) rfl dX5_mayLift_58 ?_
          refine lv_aload_n hx hb dX5_mayLift_61 rfl (lv_at hl 2 rfl) ?_
          refine va_get (D := (dC, dI)) (ci := 4) (v := .ref (p1a 3)) (C := RX1) (T := TX1) (N := 21) hx hb hts i_X1 hown hK hP 10 rfl rfl 2 (by decide) (hts _ qw435) (fun _ h9 => h9) rfl dX5_mayLift_62 ?_
          refine va_get (D := (dC, dI)) (ci := 3) (v := .ref (p1_2a 5)) (C := RX9) (T := TX9) (N := 6) hx hb hts i_X9 hown hK hP 28 rfl rfl 4 (by decide) (hts _ qw422) (fun _ h9 => h9) rfl dX5_mayLift_65 ?_
          refine lv_iload_n hx hb dX5_mayLift_68 rfl (lv_at hl 3 rfl) ?_
          obtain ⟨hq14, hrun⟩ := chk9 hrun
          refine va_iald hx hb hK hP 32 29 rfl rfl (ixb_in hq14) dX5_mayLift_69 ?_
          obtain ⟨hq15, hrun⟩ := chk9 hrun
          refine va_iald hx hb hK hP 2 1 rfl rfl (ixb_in hq15) dX5_mayLift_70 ?_
          obtain ⟨o_16, hc_16, hrun⟩ := bnd9 hrun
          have hPx : va_P (dC, dI) cls ((List.flatten ([] : List va_W)) ++ (List.flatten ([(oX5 (p0a 0) p0a p0k p0w p0l), (oX1 (p1a 0) p1a p1k p1n p1w p1l), (oX9 (p1a 3) p1_2a p1_2k p1_2n p1_2w)] : List va_W))) H := vP_fa (vP_perm hP (bP (List.Perm.refl _)))
          have hDx : va_D A ((List.flatten ([] : List va_W)) ++ (List.flatten ([(oX5 (p0a 0) p0a p0k p0w p0l), (oX1 (p1a 0) p1a p1k p1n p1w p1l), (oX9 (p1a 3) p1_2a p1_2k p1_2n p1_2w)] : List va_W))) := vD_fa (vD_perm hD (bP (List.Perm.refl _)))
          have hKx : va_K (dC, dI) cls ((List.flatten ([] : List (List (ClassId × FieldType)))) ++ (List.flatten ([(tX5 p0k), (tX1 p1k), (tX9 p1_2k)] : List (List (ClassId × FieldType))))) s := vK_fa (vK_perm hK (bP (List.Perm.refl _)))
          have hPc := vP_l hPx
          have hDc := vD_l hDx
          have hKc := vK_l hKx
          have hFc := vfree hDx hS hA
          refine va_calli (va_runSN (As := [.long p3, .int (p0w 3 (nn (p1_2w 5 (nn p2))))]) (rest := []) ⟨hx, hb, hml, hown, hts⟩ (kX11_holds l dC dI (p0 := p3) (p1 := (p0w 3 (nn (p1_2w 5 (nn p2))))) (sz := _) (o := o_16) (hrun := hc_16)) ⟨(va_cnB 2 hts (gi_z qw192) rfl rfl rfl (hE.nw (List.mem_append_right _ (tbl_7 (i := 146) rfl)) rfl) (hts _ qw129) (by decide +kernel) ⟨Nat.le_of_ble_eq_true rfl, Nat.le_of_ble_eq_true rfl⟩), (hts _ qw193), trivial⟩ ⟨PRE.blind, PRE.of hE hS hFc hPc hKc hDc⟩ rfl rfl hl.1 rfl (lv_room (Nat.le_of_ble_eq_true rfl)) dX5_mayLift_71 ⟨(Nat.le_of_ble_eq_true rfl), (Nat.le_of_ble_eq_true rfl)⟩) hS (fun q _ h => hFc q h) hFc (fun r17 u t H locs ht hvm hw hB hz1 hk1 hS => ?_)
          obtain ⟨b1, b2, b3⟩ := hB
          rw [ht] at b1
          obtain ⟨hP, hD, hK⟩ := JOINC (wc := (List.flatten ([] : List va_W))) (wr := (List.flatten ([(oX5 (p0a 0) p0a p0k p0w p0l), (oX1 (p1a 0) p1a p1k p1n p1w p1l), (oX9 (p1a 3) p1_2a p1_2k p1_2n p1_2w)] : List va_W))) (w1 := (List.flatten ([] : List va_W))) (t1 := (List.flatten ([] : List (List (ClassId × FieldType))))) hPx hDx hKx hk1 hFc b1 (va_K.moved hvm.symm b2) b3
          have hP : va_P (dC, dI) cls (List.flatten ([(oX5 (p0a 0) p0a p0k p0w p0l), (oX1 (p1a 0) p1a p1k p1n p1w p1l), (oX9 (p1a 3) p1_2a p1_2k p1_2n p1_2w)] : List va_W)) H := vP_perm (vP_fb hP) (bP (List.Perm.refl _))
          have hD : va_D A (List.flatten ([(oX5 (p0a 0) p0a p0k p0w p0l), (oX1 (p1a 0) p1a p1k p1n p1w p1l), (oX9 (p1a 3) p1_2a p1_2k p1_2n p1_2w)] : List va_W)) := vD_perm (vD_fb hD) (bP (List.Perm.refl _))
          have hK : va_K (dC, dI) cls (List.flatten ([(tX5 p0k), (tX1 p1k), (tX9 p1_2k)] : List (List (ClassId × FieldType)))) s := vK_perm (vK_fb hK) (bP (List.Perm.refl _))
          obtain rfl : o_16 = r17 := hw.symm
          rcases br9 hrun with ⟨hc18, hrun⟩ | ⟨hc18, hrun⟩
          · refine lv_if_ne (tgt := 81) hx hb dX5_mayLift_74 (by decide) (fun c => absurd hc18 c) (fun _ => ?_)
            refine lv_iconst (v := 1) hx hb dX5_mayLift_77 (by decide) ?_
            refine lv_goto (tgt := 82) hx hb dX5_mayLift_78 (by decide) ?_
            exact J82 1 _ _ _ hrun hP hD hK hS (lv_sub hl [] rfl)
          · refine lv_if_ne (tgt := 81) hx hb dX5_mayLift_74 (by decide) (fun _ => ?_) (fun c => absurd c hc18)
            exact J81 _ _ _ hrun hP hD hK hS (lv_sub hl [] rfl)
        · refine lv_if_ne (tgt := 81) hx hb dX5_mayLift_53 (by decide) (fun _ => ?_) (fun c => absurd c hc13)
          exact J81 _ _ _ hrun hP hD hK hS (lv_sub hl [] rfl)
      · refine lv_if_ne (tgt := 81) hx hb dX5_mayLift_32 (by decide) (fun _ => ?_) (fun c => absurd c hc8)
        exact J81 _ _ _ hrun hP hD hK hS (lv_sub hl [] rfl)
