abbrev cX5_joinEquals : ByteArray := prog_7_method_16_code
def yX5_joinEquals : MethodName := ⟨RX5, "joinEquals", "(LGearbox$Flow;)I"⟩
abbrev cX5_useStandIns : ByteArray := prog_7_method_18_code
def yX5_useStandIns : MethodName := ⟨RX5, "useStandIns", "(LGearbox$Flow;)V"⟩
abbrev cX5_liftBlock : ByteArray := prog_7_method_36_code
def yX5_liftBlock : MethodName := ⟨RX5, "liftBlock", "(LGearbox$Flow;IJI)I"⟩
abbrev cX5_mayLift : ByteArray := prog_7_method_37_code
def yX5_mayLift : MethodName := ⟨RX5, "mayLift", "(LGearbox$Flow;IJ)Z"⟩
abbrev cX5_liftFromLoops : ByteArray := prog_7_method_34_code
def yX5_liftFromLoops : MethodName := ⟨RX5, "liftFromLoops", "(LGearbox$Flow;)I"⟩
abbrev cX5_mergeable : ByteArray := prog_7_method_39_code
def yX5_mergeable : MethodName := ⟨RX5, "mergeable", "(LGearbox$Flow;)I"⟩
abbrev cX5_mergeInto : ByteArray := prog_7_method_40_code
def yX5_mergeInto : MethodName := ⟨RX5, "mergeInto", "(LGearbox$Flow;II)V"⟩
abbrev cX5_takeFrom : ByteArray := prog_7_method_41_code
def yX5_takeFrom : MethodName := ⟨RX5, "takeFrom", "(LGearbox$Flow;III)V"⟩
theorem dX5_joinEquals_0 : decode cX5_joinEquals 0 = .ok (.aload_n 0, 1) := by decide +kernel
theorem dX5_joinEquals_1 : decode cX5_joinEquals 1 = .ok (.aload_n 1, 1) := by decide +kernel
theorem dX5_joinEquals_2 : decode cX5_joinEquals 2 = .ok (.invokevirtual 191, 3) := by decide +kernel
theorem dX5_joinEquals_5 : decode cX5_joinEquals 5 = .ok (.aload_n 0, 1) := by decide +kernel
theorem dX5_joinEquals_6 : decode cX5_joinEquals 6 = .ok (.getfield 24, 3) := by decide +kernel
theorem dX5_joinEquals_9 : decode cX5_joinEquals 9 = .ok (.iconst (-1), 1) := by decide +kernel
theorem dX5_joinEquals_10 : decode cX5_joinEquals 10 = .ok (.invokestatic 43, 3) := by decide +kernel
theorem dX5_joinEquals_13 : decode cX5_joinEquals 13 = .ok (.aload_n 0, 1) := by decide +kernel
theorem dX5_joinEquals_14 : decode cX5_joinEquals 14 = .ok (.getfield 27, 3) := by decide +kernel
theorem dX5_joinEquals_17 : decode cX5_joinEquals 17 = .ok (.iconst 0, 1) := by decide +kernel
theorem dX5_joinEquals_18 : decode cX5_joinEquals 18 = .ok (.invokestatic 43, 3) := by decide +kernel
theorem dX5_joinEquals_21 : decode cX5_joinEquals 21 = .ok (.aload_n 0, 1) := by decide +kernel
theorem dX5_joinEquals_22 : decode cX5_joinEquals 22 = .ok (.iconst 0, 1) := by decide +kernel
theorem dX5_joinEquals_23 : decode cX5_joinEquals 23 = .ok (.putfield 194, 3) := by decide +kernel
theorem dX5_joinEquals_26 : decode cX5_joinEquals 26 = .ok (.iconst 1, 1) := by decide +kernel
theorem dX5_joinEquals_27 : decode cX5_joinEquals 27 = .ok (.istore_n 2, 1) := by decide +kernel
theorem dX5_joinEquals_28 : decode cX5_joinEquals 28 = .ok (.aload_n 0, 1) := by decide +kernel
theorem dX5_joinEquals_29 : decode cX5_joinEquals 29 = .ok (.getfield 36, 3) := by decide +kernel
theorem dX5_joinEquals_32 : decode cX5_joinEquals 32 = .ok (.iconst 0, 1) := by decide +kernel
theorem dX5_joinEquals_33 : decode cX5_joinEquals 33 = .ok (.iconst 0, 1) := by decide +kernel
theorem dX5_joinEquals_34 : decode cX5_joinEquals 34 = .ok (.iastore, 1) := by decide +kernel
theorem dX5_joinEquals_35 : decode cX5_joinEquals 35 = .ok (.iconst 0, 1) := by decide +kernel
theorem dX5_joinEquals_36 : decode cX5_joinEquals 36 = .ok (.istore_n 3, 1) := by decide +kernel
theorem dX5_joinEquals_37 : decode cX5_joinEquals 37 = .ok (.iload_n 2, 1) := by decide +kernel
theorem dX5_joinEquals_38 : decode cX5_joinEquals 38 = .ok (.ifCond .le 75, 3) := by decide +kernel
theorem dX5_joinEquals_41 : decode cX5_joinEquals 41 = .ok (.iload_n 3, 1) := by decide +kernel
theorem dX5_joinEquals_42 : decode cX5_joinEquals 42 = .ok (.bipush 60, 2) := by decide +kernel
theorem dX5_joinEquals_44 : decode cX5_joinEquals 44 = .ok (.if_icmp .ge 69, 3) := by decide +kernel
theorem dX5_joinEquals_47 : decode cX5_joinEquals 47 = .ok (.iinc 2 (-1), 3) := by decide +kernel
theorem dX5_joinEquals_50 : decode cX5_joinEquals 50 = .ok (.aload_n 0, 1) := by decide +kernel
theorem dX5_joinEquals_51 : decode cX5_joinEquals 51 = .ok (.getfield 36, 3) := by decide +kernel
theorem dX5_joinEquals_54 : decode cX5_joinEquals 54 = .ok (.iload_n 2, 1) := by decide +kernel
theorem dX5_joinEquals_55 : decode cX5_joinEquals 55 = .ok (.iaload, 1) := by decide +kernel
theorem dX5_joinEquals_56 : decode cX5_joinEquals 56 = .ok (.istore 4, 2) := by decide +kernel
theorem dX5_joinEquals_58 : decode cX5_joinEquals 58 = .ok (.aload_n 0, 1) := by decide +kernel
theorem dX5_joinEquals_59 : decode cX5_joinEquals 59 = .ok (.aload_n 1, 1) := by decide +kernel
theorem dX5_joinEquals_60 : decode cX5_joinEquals 60 = .ok (.iload 4, 2) := by decide +kernel
theorem dX5_joinEquals_62 : decode cX5_joinEquals 62 = .ok (.invokevirtual 197, 3) := by decide +kernel
theorem dX5_joinEquals_65 : decode cX5_joinEquals 65 = .ok (.aload_n 1, 1) := by decide +kernel
theorem dX5_joinEquals_66 : decode cX5_joinEquals 66 = .ok (.getfield 49, 3) := by decide +kernel
theorem dX5_joinEquals_69 : decode cX5_joinEquals 69 = .ok (.iconst 1, 1) := by decide +kernel
theorem dX5_joinEquals_70 : decode cX5_joinEquals 70 = .ok (.isub, 1) := by decide +kernel
theorem dX5_joinEquals_71 : decode cX5_joinEquals 71 = .ok (.istore 5, 2) := by decide +kernel
theorem dX5_joinEquals_73 : decode cX5_joinEquals 73 = .ok (.iload 5, 2) := by decide +kernel
theorem dX5_joinEquals_75 : decode cX5_joinEquals 75 = .ok (.ifCond .le 32, 3) := by decide +kernel
theorem dX5_joinEquals_78 : decode cX5_joinEquals 78 = .ok (.aload_n 1, 1) := by decide +kernel
theorem dX5_joinEquals_79 : decode cX5_joinEquals 79 = .ok (.getfield 201, 3) := by decide +kernel
theorem dX5_joinEquals_82 : decode cX5_joinEquals 82 = .ok (.iload 5, 2) := by decide +kernel
theorem dX5_joinEquals_84 : decode cX5_joinEquals 84 = .ok (.iaload, 1) := by decide +kernel
theorem dX5_joinEquals_85 : decode cX5_joinEquals 85 = .ok (.iload 4, 2) := by decide +kernel
theorem dX5_joinEquals_87 : decode cX5_joinEquals 87 = .ok (.if_icmp .ne 14, 3) := by decide +kernel
theorem dX5_joinEquals_90 : decode cX5_joinEquals 90 = .ok (.aload_n 0, 1) := by decide +kernel
theorem dX5_joinEquals_91 : decode cX5_joinEquals 91 = .ok (.getfield 36, 3) := by decide +kernel
theorem dX5_joinEquals_94 : decode cX5_joinEquals 94 = .ok (.iload_n 2, 1) := by decide +kernel
theorem dX5_joinEquals_95 : decode cX5_joinEquals 95 = .ok (.iload 5, 2) := by decide +kernel
theorem dX5_joinEquals_97 : decode cX5_joinEquals 97 = .ok (.iastore, 1) := by decide +kernel
theorem dX5_joinEquals_98 : decode cX5_joinEquals 98 = .ok (.iinc 2 1, 3) := by decide +kernel
theorem dX5_joinEquals_101 : decode cX5_joinEquals 101 = .ok (.iinc 5 (-1), 3) := by decide +kernel
theorem dX5_joinEquals_104 : decode cX5_joinEquals 104 = .ok (.goto (-31), 3) := by decide +kernel
theorem dX5_joinEquals_107 : decode cX5_joinEquals 107 = .ok (.iinc 3 1, 3) := by decide +kernel
theorem dX5_joinEquals_110 : decode cX5_joinEquals 110 = .ok (.goto (-73), 3) := by decide +kernel
theorem dX5_joinEquals_113 : decode cX5_joinEquals 113 = .ok (.iconst 0, 1) := by decide +kernel
theorem dX5_joinEquals_114 : decode cX5_joinEquals 114 = .ok (.istore_n 3, 1) := by decide +kernel
theorem dX5_joinEquals_115 : decode cX5_joinEquals 115 = .ok (.iconst 0, 1) := by decide +kernel
theorem dX5_joinEquals_116 : decode cX5_joinEquals 116 = .ok (.istore 4, 2) := by decide +kernel
theorem dX5_joinEquals_118 : decode cX5_joinEquals 118 = .ok (.iload 4, 2) := by decide +kernel
theorem dX5_joinEquals_120 : decode cX5_joinEquals 120 = .ok (.aload_n 1, 1) := by decide +kernel
theorem dX5_joinEquals_121 : decode cX5_joinEquals 121 = .ok (.getfield 204, 3) := by decide +kernel
theorem dX5_joinEquals_124 : decode cX5_joinEquals 124 = .ok (.if_icmp .ge 59, 3) := by decide +kernel
theorem dX5_joinEquals_127 : decode cX5_joinEquals 127 = .ok (.iload_n 3, 1) := by decide +kernel
theorem dX5_joinEquals_128 : decode cX5_joinEquals 128 = .ok (.aload_n 0, 1) := by decide +kernel
theorem dX5_joinEquals_129 : decode cX5_joinEquals 129 = .ok (.getfield 24, 3) := by decide +kernel
theorem dX5_joinEquals_132 : decode cX5_joinEquals 132 = .ok (.iload 4, 2) := by decide +kernel
theorem dX5_joinEquals_134 : decode cX5_joinEquals 134 = .ok (.iaload, 1) := by decide +kernel
theorem dX5_joinEquals_135 : decode cX5_joinEquals 135 = .ok (.ifCond .ge 13, 3) := by decide +kernel
theorem dX5_joinEquals_138 : decode cX5_joinEquals 138 = .ok (.aload_n 0, 1) := by decide +kernel
theorem dX5_joinEquals_139 : decode cX5_joinEquals 139 = .ok (.getfield 27, 3) := by decide +kernel
theorem dX5_joinEquals_142 : decode cX5_joinEquals 142 = .ok (.iload 4, 2) := by decide +kernel
theorem dX5_joinEquals_144 : decode cX5_joinEquals 144 = .ok (.iaload, 1) := by decide +kernel
theorem dX5_joinEquals_145 : decode cX5_joinEquals 145 = .ok (.ifCond .eq 7, 3) := by decide +kernel
theorem dX5_joinEquals_148 : decode cX5_joinEquals 148 = .ok (.iconst 1, 1) := by decide +kernel
theorem dX5_joinEquals_149 : decode cX5_joinEquals 149 = .ok (.goto 4, 3) := by decide +kernel
theorem dX5_joinEquals_152 : decode cX5_joinEquals 152 = .ok (.iconst 0, 1) := by decide +kernel
theorem dX5_joinEquals_153 : decode cX5_joinEquals 153 = .ok (.iadd, 1) := by decide +kernel
theorem dX5_joinEquals_154 : decode cX5_joinEquals 154 = .ok (.istore_n 3, 1) := by decide +kernel
theorem dX5_joinEquals_155 : decode cX5_joinEquals 155 = .ok (.aload_n 0, 1) := by decide +kernel
theorem dX5_joinEquals_156 : decode cX5_joinEquals 156 = .ok (.getfield 27, 3) := by decide +kernel
theorem dX5_joinEquals_159 : decode cX5_joinEquals 159 = .ok (.iload 4, 2) := by decide +kernel
theorem dX5_joinEquals_161 : decode cX5_joinEquals 161 = .ok (.aload_n 0, 1) := by decide +kernel
theorem dX5_joinEquals_162 : decode cX5_joinEquals 162 = .ok (.getfield 24, 3) := by decide +kernel
theorem dX5_joinEquals_165 : decode cX5_joinEquals 165 = .ok (.iload 4, 2) := by decide +kernel
theorem dX5_joinEquals_167 : decode cX5_joinEquals 167 = .ok (.iaload, 1) := by decide +kernel
theorem dX5_joinEquals_168 : decode cX5_joinEquals 168 = .ok (.ifCond .lt 7, 3) := by decide +kernel
theorem dX5_joinEquals_171 : decode cX5_joinEquals 171 = .ok (.iconst 1, 1) := by decide +kernel
theorem dX5_joinEquals_172 : decode cX5_joinEquals 172 = .ok (.goto 4, 3) := by decide +kernel
theorem dX5_joinEquals_175 : decode cX5_joinEquals 175 = .ok (.iconst 0, 1) := by decide +kernel
theorem dX5_joinEquals_176 : decode cX5_joinEquals 176 = .ok (.iastore, 1) := by decide +kernel
theorem dX5_joinEquals_177 : decode cX5_joinEquals 177 = .ok (.iinc 4 1, 3) := by decide +kernel
theorem dX5_joinEquals_180 : decode cX5_joinEquals 180 = .ok (.goto (-62), 3) := by decide +kernel
theorem dX5_joinEquals_183 : decode cX5_joinEquals 183 = .ok (.aload_n 1, 1) := by decide +kernel
theorem dX5_joinEquals_184 : decode cX5_joinEquals 184 = .ok (.aload_n 0, 1) := by decide +kernel
theorem dX5_joinEquals_185 : decode cX5_joinEquals 185 = .ok (.getfield 27, 3) := by decide +kernel
theorem dX5_joinEquals_188 : decode cX5_joinEquals 188 = .ok (.invokevirtual 207, 3) := by decide +kernel
theorem dX5_joinEquals_191 : decode cX5_joinEquals 191 = .ok (.aload_n 0, 1) := by decide +kernel
theorem dX5_joinEquals_192 : decode cX5_joinEquals 192 = .ok (.aload_n 1, 1) := by decide +kernel
theorem dX5_joinEquals_193 : decode cX5_joinEquals 193 = .ok (.invokevirtual 211, 3) := by decide +kernel
theorem dX5_joinEquals_196 : decode cX5_joinEquals 196 = .ok (.iload_n 3, 1) := by decide +kernel
theorem dX5_joinEquals_197 : decode cX5_joinEquals 197 = .ok (.ireturn, 1) := by decide +kernel
theorem dX5_liftBlock_0 : decode cX5_liftBlock 0 = .ok (.iconst 0, 1) := by decide +kernel
theorem dX5_liftBlock_1 : decode cX5_liftBlock 1 = .ok (.istore 6, 2) := by decide +kernel
theorem dX5_liftBlock_3 : decode cX5_liftBlock 3 = .ok (.aload_n 1, 1) := by decide +kernel
theorem dX5_liftBlock_4 : decode cX5_liftBlock 4 = .ok (.iload_n 2, 1) := by decide +kernel
theorem dX5_liftBlock_5 : decode cX5_liftBlock 5 = .ok (.invokevirtual 167, 3) := by decide +kernel
theorem dX5_liftBlock_8 : decode cX5_liftBlock 8 = .ok (.istore 8, 2) := by decide +kernel
theorem dX5_liftBlock_10 : decode cX5_liftBlock 10 = .ok (.iload 8, 2) := by decide +kernel
theorem dX5_liftBlock_12 : decode cX5_liftBlock 12 = .ok (.ifCond .lt 71, 3) := by decide +kernel
theorem dX5_liftBlock_15 : decode cX5_liftBlock 15 = .ok (.aload_n 1, 1) := by decide +kernel
theorem dX5_liftBlock_16 : decode cX5_liftBlock 16 = .ok (.getfield 67, 3) := by decide +kernel
theorem dX5_liftBlock_19 : decode cX5_liftBlock 19 = .ok (.getfield 76, 3) := by decide +kernel
theorem dX5_liftBlock_22 : decode cX5_liftBlock 22 = .ok (.iload 8, 2) := by decide +kernel
theorem dX5_liftBlock_24 : decode cX5_liftBlock 24 = .ok (.iaload, 1) := by decide +kernel
theorem dX5_liftBlock_25 : decode cX5_liftBlock 25 = .ok (.istore 7, 2) := by decide +kernel
theorem dX5_liftBlock_27 : decode cX5_liftBlock 27 = .ok (.aload_n 0, 1) := by decide +kernel
theorem dX5_liftBlock_28 : decode cX5_liftBlock 28 = .ok (.aload_n 1, 1) := by decide +kernel
theorem dX5_liftBlock_29 : decode cX5_liftBlock 29 = .ok (.iload 8, 2) := by decide +kernel
theorem dX5_liftBlock_31 : decode cX5_liftBlock 31 = .ok (.lload_n 3, 1) := by decide +kernel
theorem dX5_liftBlock_32 : decode cX5_liftBlock 32 = .ok (.invokevirtual 292, 3) := by decide +kernel
theorem dX5_liftBlock_35 : decode cX5_liftBlock 35 = .ok (.ifCond .eq 34, 3) := by decide +kernel
theorem dX5_liftBlock_38 : decode cX5_liftBlock 38 = .ok (.aload_n 1, 1) := by decide +kernel
theorem dX5_liftBlock_39 : decode cX5_liftBlock 39 = .ok (.iload 5, 2) := by decide +kernel
theorem dX5_liftBlock_41 : decode cX5_liftBlock 41 = .ok (.iload 8, 2) := by decide +kernel
theorem dX5_liftBlock_43 : decode cX5_liftBlock 43 = .ok (.invokevirtual 185, 3) := by decide +kernel
theorem dX5_liftBlock_46 : decode cX5_liftBlock 46 = .ok (.aload_n 0, 1) := by decide +kernel
theorem dX5_liftBlock_47 : decode cX5_liftBlock 47 = .ok (.getfield 15, 3) := by decide +kernel
theorem dX5_liftBlock_50 : decode cX5_liftBlock 50 = .ok (.aload_n 1, 1) := by decide +kernel
theorem dX5_liftBlock_51 : decode cX5_liftBlock 51 = .ok (.getfield 67, 3) := by decide +kernel
theorem dX5_liftBlock_54 : decode cX5_liftBlock 54 = .ok (.getfield 71, 3) := by decide +kernel
theorem dX5_liftBlock_57 : decode cX5_liftBlock 57 = .ok (.iload 8, 2) := by decide +kernel
theorem dX5_liftBlock_59 : decode cX5_liftBlock 59 = .ok (.iaload, 1) := by decide +kernel
theorem dX5_liftBlock_60 : decode cX5_liftBlock 60 = .ok (.iload 5, 2) := by decide +kernel
theorem dX5_liftBlock_62 : decode cX5_liftBlock 62 = .ok (.iastore, 1) := by decide +kernel
theorem dX5_liftBlock_63 : decode cX5_liftBlock 63 = .ok (.iinc 6 1, 3) := by decide +kernel
theorem dX5_liftBlock_66 : decode cX5_liftBlock 66 = .ok (.goto 10, 3) := by decide +kernel
theorem dX5_liftBlock_69 : decode cX5_liftBlock 69 = .ok (.aload_n 1, 1) := by decide +kernel
theorem dX5_liftBlock_70 : decode cX5_liftBlock 70 = .ok (.iload_n 2, 1) := by decide +kernel
theorem dX5_liftBlock_71 : decode cX5_liftBlock 71 = .ok (.iload 8, 2) := by decide +kernel
theorem dX5_liftBlock_73 : decode cX5_liftBlock 73 = .ok (.invokevirtual 185, 3) := by decide +kernel
theorem dX5_liftBlock_76 : decode cX5_liftBlock 76 = .ok (.iload 7, 2) := by decide +kernel
theorem dX5_liftBlock_78 : decode cX5_liftBlock 78 = .ok (.istore 8, 2) := by decide +kernel
theorem dX5_liftBlock_80 : decode cX5_liftBlock 80 = .ok (.goto (-70), 3) := by decide +kernel
theorem dX5_liftBlock_83 : decode cX5_liftBlock 83 = .ok (.iload 6, 2) := by decide +kernel
theorem dX5_liftBlock_85 : decode cX5_liftBlock 85 = .ok (.ireturn, 1) := by decide +kernel
theorem dX5_liftFromLoops_0 : decode cX5_liftFromLoops 0 = .ok (.aload_n 0, 1) := by decide +kernel
theorem dX5_liftFromLoops_1 : decode cX5_liftFromLoops 1 = .ok (.aload_n 1, 1) := by decide +kernel
theorem dX5_liftFromLoops_2 : decode cX5_liftFromLoops 2 = .ok (.invokevirtual 191, 3) := by decide +kernel
theorem dX5_liftFromLoops_5 : decode cX5_liftFromLoops 5 = .ok (.iconst 0, 1) := by decide +kernel
theorem dX5_liftFromLoops_6 : decode cX5_liftFromLoops 6 = .ok (.istore_n 2, 1) := by decide +kernel
theorem dX5_liftFromLoops_7 : decode cX5_liftFromLoops 7 = .ok (.aload_n 1, 1) := by decide +kernel
theorem dX5_liftFromLoops_8 : decode cX5_liftFromLoops 8 = .ok (.getfield 49, 3) := by decide +kernel
theorem dX5_liftFromLoops_11 : decode cX5_liftFromLoops 11 = .ok (.iconst 1, 1) := by decide +kernel
theorem dX5_liftFromLoops_12 : decode cX5_liftFromLoops 12 = .ok (.isub, 1) := by decide +kernel
theorem dX5_liftFromLoops_13 : decode cX5_liftFromLoops 13 = .ok (.istore_n 3, 1) := by decide +kernel
theorem dX5_liftFromLoops_14 : decode cX5_liftFromLoops 14 = .ok (.iload_n 3, 1) := by decide +kernel
theorem dX5_liftFromLoops_15 : decode cX5_liftFromLoops 15 = .ok (.ifCond .lt 86, 3) := by decide +kernel
theorem dX5_liftFromLoops_18 : decode cX5_liftFromLoops 18 = .ok (.aload_n 1, 1) := by decide +kernel
theorem dX5_liftFromLoops_19 : decode cX5_liftFromLoops 19 = .ok (.getfield 282, 3) := by decide +kernel
theorem dX5_liftFromLoops_22 : decode cX5_liftFromLoops 22 = .ok (.iload_n 3, 1) := by decide +kernel
theorem dX5_liftFromLoops_23 : decode cX5_liftFromLoops 23 = .ok (.laload, 1) := by decide +kernel
theorem dX5_liftFromLoops_24 : decode cX5_liftFromLoops 24 = .ok (.lconst 0, 1) := by decide +kernel
theorem dX5_liftFromLoops_25 : decode cX5_liftFromLoops 25 = .ok (.lcmp, 1) := by decide +kernel
theorem dX5_liftFromLoops_26 : decode cX5_liftFromLoops 26 = .ok (.ifCond .ne 7, 3) := by decide +kernel
theorem dX5_liftFromLoops_29 : decode cX5_liftFromLoops 29 = .ok (.iconst (-1), 1) := by decide +kernel
theorem dX5_liftFromLoops_30 : decode cX5_liftFromLoops 30 = .ok (.goto 8, 3) := by decide +kernel
theorem dX5_liftFromLoops_33 : decode cX5_liftFromLoops 33 = .ok (.aload_n 1, 1) := by decide +kernel
theorem dX5_liftFromLoops_34 : decode cX5_liftFromLoops 34 = .ok (.iload_n 3, 1) := by decide +kernel
theorem dX5_liftFromLoops_35 : decode cX5_liftFromLoops 35 = .ok (.invokestatic 285, 3) := by decide +kernel
theorem dX5_liftFromLoops_38 : decode cX5_liftFromLoops 38 = .ok (.istore 4, 2) := by decide +kernel
theorem dX5_liftFromLoops_40 : decode cX5_liftFromLoops 40 = .ok (.iload 4, 2) := by decide +kernel
theorem dX5_liftFromLoops_42 : decode cX5_liftFromLoops 42 = .ok (.ifCond .lt 53, 3) := by decide +kernel
theorem dX5_liftFromLoops_45 : decode cX5_liftFromLoops 45 = .ok (.iconst 0, 1) := by decide +kernel
theorem dX5_liftFromLoops_46 : decode cX5_liftFromLoops 46 = .ok (.istore 5, 2) := by decide +kernel
theorem dX5_liftFromLoops_48 : decode cX5_liftFromLoops 48 = .ok (.iload 5, 2) := by decide +kernel
theorem dX5_liftFromLoops_50 : decode cX5_liftFromLoops 50 = .ok (.aload_n 1, 1) := by decide +kernel
theorem dX5_liftFromLoops_51 : decode cX5_liftFromLoops 51 = .ok (.getfield 49, 3) := by decide +kernel
theorem dX5_liftFromLoops_54 : decode cX5_liftFromLoops 54 = .ok (.if_icmp .ge 41, 3) := by decide +kernel
theorem dX5_liftFromLoops_57 : decode cX5_liftFromLoops 57 = .ok (.aload_n 1, 1) := by decide +kernel
theorem dX5_liftFromLoops_58 : decode cX5_liftFromLoops 58 = .ok (.getfield 282, 3) := by decide +kernel
theorem dX5_liftFromLoops_61 : decode cX5_liftFromLoops 61 = .ok (.iload_n 3, 1) := by decide +kernel
theorem dX5_liftFromLoops_62 : decode cX5_liftFromLoops 62 = .ok (.laload, 1) := by decide +kernel
theorem dX5_liftFromLoops_63 : decode cX5_liftFromLoops 63 = .ok (.iload 5, 2) := by decide +kernel
theorem dX5_liftFromLoops_65 : decode cX5_liftFromLoops 65 = .ok (.invokestatic 101, 3) := by decide +kernel
theorem dX5_liftFromLoops_68 : decode cX5_liftFromLoops 68 = .ok (.ifCond .eq 21, 3) := by decide +kernel
theorem dX5_liftFromLoops_71 : decode cX5_liftFromLoops 71 = .ok (.iload_n 2, 1) := by decide +kernel
theorem dX5_liftFromLoops_72 : decode cX5_liftFromLoops 72 = .ok (.aload_n 0, 1) := by decide +kernel
theorem dX5_liftFromLoops_73 : decode cX5_liftFromLoops 73 = .ok (.aload_n 1, 1) := by decide +kernel
theorem dX5_liftFromLoops_74 : decode cX5_liftFromLoops 74 = .ok (.iload 5, 2) := by decide +kernel
theorem dX5_liftFromLoops_76 : decode cX5_liftFromLoops 76 = .ok (.aload_n 1, 1) := by decide +kernel
theorem dX5_liftFromLoops_77 : decode cX5_liftFromLoops 77 = .ok (.getfield 282, 3) := by decide +kernel
theorem dX5_liftFromLoops_80 : decode cX5_liftFromLoops 80 = .ok (.iload_n 3, 1) := by decide +kernel
theorem dX5_liftFromLoops_81 : decode cX5_liftFromLoops 81 = .ok (.laload, 1) := by decide +kernel
theorem dX5_liftFromLoops_82 : decode cX5_liftFromLoops 82 = .ok (.iload 4, 2) := by decide +kernel
theorem dX5_liftFromLoops_84 : decode cX5_liftFromLoops 84 = .ok (.invokevirtual 288, 3) := by decide +kernel
theorem dX5_liftFromLoops_87 : decode cX5_liftFromLoops 87 = .ok (.iadd, 1) := by decide +kernel
theorem dX5_liftFromLoops_88 : decode cX5_liftFromLoops 88 = .ok (.istore_n 2, 1) := by decide +kernel
theorem dX5_liftFromLoops_89 : decode cX5_liftFromLoops 89 = .ok (.iinc 5 1, 3) := by decide +kernel
theorem dX5_liftFromLoops_92 : decode cX5_liftFromLoops 92 = .ok (.goto (-44), 3) := by decide +kernel
theorem dX5_liftFromLoops_95 : decode cX5_liftFromLoops 95 = .ok (.iinc 3 (-1), 3) := by decide +kernel
theorem dX5_liftFromLoops_98 : decode cX5_liftFromLoops 98 = .ok (.goto (-84), 3) := by decide +kernel
theorem dX5_liftFromLoops_101 : decode cX5_liftFromLoops 101 = .ok (.iload_n 2, 1) := by decide +kernel
theorem dX5_liftFromLoops_102 : decode cX5_liftFromLoops 102 = .ok (.ireturn, 1) := by decide +kernel
theorem dX5_mayLift_0 : decode cX5_mayLift 0 = .ok (.aload_n 1, 1) := by decide +kernel
theorem dX5_mayLift_1 : decode cX5_mayLift 1 = .ok (.getfield 67, 3) := by decide +kernel
theorem dX5_mayLift_4 : decode cX5_mayLift 4 = .ok (.getfield 79, 3) := by decide +kernel
theorem dX5_mayLift_7 : decode cX5_mayLift 7 = .ok (.iload_n 2, 1) := by decide +kernel
theorem dX5_mayLift_8 : decode cX5_mayLift 8 = .ok (.iaload, 1) := by decide +kernel
theorem dX5_mayLift_9 : decode cX5_mayLift 9 = .ok (.istore 5, 2) := by decide +kernel
theorem dX5_mayLift_11 : decode cX5_mayLift 11 = .ok (.iload 5, 2) := by decide +kernel
theorem dX5_mayLift_13 : decode cX5_mayLift 13 = .ok (.ifCond .ne 5, 3) := by decide +kernel
theorem dX5_mayLift_16 : decode cX5_mayLift 16 = .ok (.iconst 1, 1) := by decide +kernel
theorem dX5_mayLift_17 : decode cX5_mayLift 17 = .ok (.ireturn, 1) := by decide +kernel
theorem dX5_mayLift_18 : decode cX5_mayLift 18 = .ok (.iload 5, 2) := by decide +kernel
theorem dX5_mayLift_20 : decode cX5_mayLift 20 = .ok (.invokestatic 149, 3) := by decide +kernel
theorem dX5_mayLift_23 : decode cX5_mayLift 23 = .ok (.ifCond .eq 58, 3) := by decide +kernel
theorem dX5_mayLift_26 : decode cX5_mayLift 26 = .ok (.aload_n 0, 1) := by decide +kernel
theorem dX5_mayLift_27 : decode cX5_mayLift 27 = .ok (.aload_n 1, 1) := by decide +kernel
theorem dX5_mayLift_28 : decode cX5_mayLift 28 = .ok (.iload_n 2, 1) := by decide +kernel
theorem dX5_mayLift_29 : decode cX5_mayLift 29 = .ok (.invokevirtual 276, 3) := by decide +kernel
theorem dX5_mayLift_32 : decode cX5_mayLift 32 = .ok (.ifCond .ne 49, 3) := by decide +kernel
theorem dX5_mayLift_35 : decode cX5_mayLift 35 = .ok (.lload_n 3, 1) := by decide +kernel
theorem dX5_mayLift_36 : decode cX5_mayLift 36 = .ok (.aload_n 0, 1) := by decide +kernel
theorem dX5_mayLift_37 : decode cX5_mayLift 37 = .ok (.getfield 15, 3) := by decide +kernel
theorem dX5_mayLift_40 : decode cX5_mayLift 40 = .ok (.aload_n 1, 1) := by decide +kernel
theorem dX5_mayLift_41 : decode cX5_mayLift 41 = .ok (.getfield 67, 3) := by decide +kernel
theorem dX5_mayLift_44 : decode cX5_mayLift 44 = .ok (.getfield 82, 3) := by decide +kernel
theorem dX5_mayLift_47 : decode cX5_mayLift 47 = .ok (.iload_n 2, 1) := by decide +kernel
theorem dX5_mayLift_48 : decode cX5_mayLift 48 = .ok (.iaload, 1) := by decide +kernel
theorem dX5_mayLift_49 : decode cX5_mayLift 49 = .ok (.iaload, 1) := by decide +kernel
theorem dX5_mayLift_50 : decode cX5_mayLift 50 = .ok (.invokestatic 101, 3) := by decide +kernel
theorem dX5_mayLift_53 : decode cX5_mayLift 53 = .ok (.ifCond .ne 28, 3) := by decide +kernel
theorem dX5_mayLift_56 : decode cX5_mayLift 56 = .ok (.lload_n 3, 1) := by decide +kernel
theorem dX5_mayLift_57 : decode cX5_mayLift 57 = .ok (.aload_n 0, 1) := by decide +kernel
theorem dX5_mayLift_58 : decode cX5_mayLift 58 = .ok (.getfield 15, 3) := by decide +kernel
theorem dX5_mayLift_61 : decode cX5_mayLift 61 = .ok (.aload_n 1, 1) := by decide +kernel
theorem dX5_mayLift_62 : decode cX5_mayLift 62 = .ok (.getfield 67, 3) := by decide +kernel
theorem dX5_mayLift_65 : decode cX5_mayLift 65 = .ok (.getfield 93, 3) := by decide +kernel
theorem dX5_mayLift_68 : decode cX5_mayLift 68 = .ok (.iload_n 2, 1) := by decide +kernel
theorem dX5_mayLift_69 : decode cX5_mayLift 69 = .ok (.iaload, 1) := by decide +kernel
theorem dX5_mayLift_70 : decode cX5_mayLift 70 = .ok (.iaload, 1) := by decide +kernel
theorem dX5_mayLift_71 : decode cX5_mayLift 71 = .ok (.invokestatic 101, 3) := by decide +kernel
theorem dX5_mayLift_74 : decode cX5_mayLift 74 = .ok (.ifCond .ne 7, 3) := by decide +kernel
theorem dX5_mayLift_77 : decode cX5_mayLift 77 = .ok (.iconst 1, 1) := by decide +kernel
theorem dX5_mayLift_78 : decode cX5_mayLift 78 = .ok (.goto 4, 3) := by decide +kernel
theorem dX5_mayLift_81 : decode cX5_mayLift 81 = .ok (.iconst 0, 1) := by decide +kernel
theorem dX5_mayLift_82 : decode cX5_mayLift 82 = .ok (.ireturn, 1) := by decide +kernel
theorem dX5_mergeInto_0 : decode cX5_mergeInto 0 = .ok (.aload_n 1, 1) := by decide +kernel
theorem dX5_mergeInto_1 : decode cX5_mergeInto 1 = .ok (.iload_n 3, 1) := by decide +kernel
theorem dX5_mergeInto_2 : decode cX5_mergeInto 2 = .ok (.iconst 0, 1) := by decide +kernel
theorem dX5_mergeInto_3 : decode cX5_mergeInto 3 = .ok (.invokevirtual 138, 3) := by decide +kernel
theorem dX5_mergeInto_6 : decode cX5_mergeInto 6 = .ok (.istore 4, 2) := by decide +kernel
theorem dX5_mergeInto_8 : decode cX5_mergeInto 8 = .ok (.aload_n 1, 1) := by decide +kernel
theorem dX5_mergeInto_9 : decode cX5_mergeInto 9 = .ok (.iload_n 3, 1) := by decide +kernel
theorem dX5_mergeInto_10 : decode cX5_mergeInto 10 = .ok (.invokevirtual 170, 3) := by decide +kernel
theorem dX5_mergeInto_13 : decode cX5_mergeInto 13 = .ok (.istore 5, 2) := by decide +kernel
theorem dX5_mergeInto_15 : decode cX5_mergeInto 15 = .ok (.iload 5, 2) := by decide +kernel
theorem dX5_mergeInto_17 : decode cX5_mergeInto 17 = .ok (.ifCond .lt 35, 3) := by decide +kernel
theorem dX5_mergeInto_20 : decode cX5_mergeInto 20 = .ok (.aload_n 0, 1) := by decide +kernel
theorem dX5_mergeInto_21 : decode cX5_mergeInto 21 = .ok (.getfield 24, 3) := by decide +kernel
theorem dX5_mergeInto_24 : decode cX5_mergeInto 24 = .ok (.aload_n 1, 1) := by decide +kernel
theorem dX5_mergeInto_25 : decode cX5_mergeInto 25 = .ok (.getfield 58, 3) := by decide +kernel
theorem dX5_mergeInto_28 : decode cX5_mergeInto 28 = .ok (.iload 5, 2) := by decide +kernel
theorem dX5_mergeInto_30 : decode cX5_mergeInto 30 = .ok (.iaload, 1) := by decide +kernel
theorem dX5_mergeInto_31 : decode cX5_mergeInto 31 = .ok (.aload_n 1, 1) := by decide +kernel
theorem dX5_mergeInto_32 : decode cX5_mergeInto 32 = .ok (.iload 5, 2) := by decide +kernel
theorem dX5_mergeInto_34 : decode cX5_mergeInto 34 = .ok (.iload 4, 2) := by decide +kernel
theorem dX5_mergeInto_36 : decode cX5_mergeInto 36 = .ok (.invokevirtual 142, 3) := by decide +kernel
theorem dX5_mergeInto_39 : decode cX5_mergeInto 39 = .ok (.iastore, 1) := by decide +kernel
theorem dX5_mergeInto_40 : decode cX5_mergeInto 40 = .ok (.aload_n 1, 1) := by decide +kernel
theorem dX5_mergeInto_41 : decode cX5_mergeInto 41 = .ok (.getfield 61, 3) := by decide +kernel
theorem dX5_mergeInto_44 : decode cX5_mergeInto 44 = .ok (.iload 5, 2) := by decide +kernel
theorem dX5_mergeInto_46 : decode cX5_mergeInto 46 = .ok (.iaload, 1) := by decide +kernel
theorem dX5_mergeInto_47 : decode cX5_mergeInto 47 = .ok (.istore 5, 2) := by decide +kernel
theorem dX5_mergeInto_49 : decode cX5_mergeInto 49 = .ok (.goto (-34), 3) := by decide +kernel
theorem dX5_mergeInto_52 : decode cX5_mergeInto 52 = .ok (.aload_n 1, 1) := by decide +kernel
theorem dX5_mergeInto_53 : decode cX5_mergeInto 53 = .ok (.iload_n 3, 1) := by decide +kernel
theorem dX5_mergeInto_54 : decode cX5_mergeInto 54 = .ok (.invokevirtual 167, 3) := by decide +kernel
theorem dX5_mergeInto_57 : decode cX5_mergeInto 57 = .ok (.istore 6, 2) := by decide +kernel
theorem dX5_mergeInto_59 : decode cX5_mergeInto 59 = .ok (.iload 6, 2) := by decide +kernel
theorem dX5_mergeInto_61 : decode cX5_mergeInto 61 = .ok (.ifCond .lt 29, 3) := by decide +kernel
theorem dX5_mergeInto_64 : decode cX5_mergeInto 64 = .ok (.aload_n 1, 1) := by decide +kernel
theorem dX5_mergeInto_65 : decode cX5_mergeInto 65 = .ok (.getfield 67, 3) := by decide +kernel
theorem dX5_mergeInto_68 : decode cX5_mergeInto 68 = .ok (.getfield 76, 3) := by decide +kernel
theorem dX5_mergeInto_71 : decode cX5_mergeInto 71 = .ok (.iload 6, 2) := by decide +kernel
theorem dX5_mergeInto_73 : decode cX5_mergeInto 73 = .ok (.iaload, 1) := by decide +kernel
theorem dX5_mergeInto_74 : decode cX5_mergeInto 74 = .ok (.istore 5, 2) := by decide +kernel
theorem dX5_mergeInto_76 : decode cX5_mergeInto 76 = .ok (.aload_n 1, 1) := by decide +kernel
theorem dX5_mergeInto_77 : decode cX5_mergeInto 77 = .ok (.iload_n 2, 1) := by decide +kernel
theorem dX5_mergeInto_78 : decode cX5_mergeInto 78 = .ok (.iload 6, 2) := by decide +kernel
theorem dX5_mergeInto_80 : decode cX5_mergeInto 80 = .ok (.invokevirtual 185, 3) := by decide +kernel
theorem dX5_mergeInto_83 : decode cX5_mergeInto 83 = .ok (.iload 5, 2) := by decide +kernel
theorem dX5_mergeInto_85 : decode cX5_mergeInto 85 = .ok (.istore 6, 2) := by decide +kernel
theorem dX5_mergeInto_87 : decode cX5_mergeInto 87 = .ok (.goto (-28), 3) := by decide +kernel
theorem dX5_mergeInto_90 : decode cX5_mergeInto 90 = .ok (.aload_n 1, 1) := by decide +kernel
theorem dX5_mergeInto_91 : decode cX5_mergeInto 91 = .ok (.getfield 161, 3) := by decide +kernel
theorem dX5_mergeInto_94 : decode cX5_mergeInto 94 = .ok (.iload_n 2, 1) := by decide +kernel
theorem dX5_mergeInto_95 : decode cX5_mergeInto 95 = .ok (.aload_n 1, 1) := by decide +kernel
theorem dX5_mergeInto_96 : decode cX5_mergeInto 96 = .ok (.getfield 161, 3) := by decide +kernel
theorem dX5_mergeInto_99 : decode cX5_mergeInto 99 = .ok (.iload_n 3, 1) := by decide +kernel
theorem dX5_mergeInto_100 : decode cX5_mergeInto 100 = .ok (.iaload, 1) := by decide +kernel
theorem dX5_mergeInto_101 : decode cX5_mergeInto 101 = .ok (.iastore, 1) := by decide +kernel
theorem dX5_mergeInto_102 : decode cX5_mergeInto 102 = .ok (.aload_n 1, 1) := by decide +kernel
theorem dX5_mergeInto_103 : decode cX5_mergeInto 103 = .ok (.getfield 164, 3) := by decide +kernel
theorem dX5_mergeInto_106 : decode cX5_mergeInto 106 = .ok (.iload_n 2, 1) := by decide +kernel
theorem dX5_mergeInto_107 : decode cX5_mergeInto 107 = .ok (.aload_n 1, 1) := by decide +kernel
theorem dX5_mergeInto_108 : decode cX5_mergeInto 108 = .ok (.getfield 164, 3) := by decide +kernel
theorem dX5_mergeInto_111 : decode cX5_mergeInto 111 = .ok (.iload_n 3, 1) := by decide +kernel
theorem dX5_mergeInto_112 : decode cX5_mergeInto 112 = .ok (.iaload, 1) := by decide +kernel
theorem dX5_mergeInto_113 : decode cX5_mergeInto 113 = .ok (.iastore, 1) := by decide +kernel
theorem dX5_mergeInto_114 : decode cX5_mergeInto 114 = .ok (.aload_n 1, 1) := by decide +kernel
theorem dX5_mergeInto_115 : decode cX5_mergeInto 115 = .ok (.getfield 125, 3) := by decide +kernel
theorem dX5_mergeInto_118 : decode cX5_mergeInto 118 = .ok (.iload_n 2, 1) := by decide +kernel
theorem dX5_mergeInto_119 : decode cX5_mergeInto 119 = .ok (.aload_n 1, 1) := by decide +kernel
theorem dX5_mergeInto_120 : decode cX5_mergeInto 120 = .ok (.getfield 125, 3) := by decide +kernel
theorem dX5_mergeInto_123 : decode cX5_mergeInto 123 = .ok (.iload_n 3, 1) := by decide +kernel
theorem dX5_mergeInto_124 : decode cX5_mergeInto 124 = .ok (.iaload, 1) := by decide +kernel
theorem dX5_mergeInto_125 : decode cX5_mergeInto 125 = .ok (.iastore, 1) := by decide +kernel
theorem dX5_mergeInto_126 : decode cX5_mergeInto 126 = .ok (.aload_n 1, 1) := by decide +kernel
theorem dX5_mergeInto_127 : decode cX5_mergeInto 127 = .ok (.getfield 131, 3) := by decide +kernel
theorem dX5_mergeInto_130 : decode cX5_mergeInto 130 = .ok (.iload_n 2, 1) := by decide +kernel
theorem dX5_mergeInto_131 : decode cX5_mergeInto 131 = .ok (.aload_n 1, 1) := by decide +kernel
theorem dX5_mergeInto_132 : decode cX5_mergeInto 132 = .ok (.getfield 131, 3) := by decide +kernel
theorem dX5_mergeInto_135 : decode cX5_mergeInto 135 = .ok (.iload_n 3, 1) := by decide +kernel
theorem dX5_mergeInto_136 : decode cX5_mergeInto 136 = .ok (.iaload, 1) := by decide +kernel
theorem dX5_mergeInto_137 : decode cX5_mergeInto 137 = .ok (.iastore, 1) := by decide +kernel
theorem dX5_mergeInto_138 : decode cX5_mergeInto 138 = .ok (.aload_n 0, 1) := by decide +kernel
theorem dX5_mergeInto_139 : decode cX5_mergeInto 139 = .ok (.dup, 1) := by decide +kernel
theorem dX5_mergeInto_140 : decode cX5_mergeInto 140 = .ok (.getfield 96, 3) := by decide +kernel
theorem dX5_mergeInto_143 : decode cX5_mergeInto 143 = .ok (.lconst 1, 1) := by decide +kernel
theorem dX5_mergeInto_144 : decode cX5_mergeInto 144 = .ok (.iload_n 3, 1) := by decide +kernel
theorem dX5_mergeInto_145 : decode cX5_mergeInto 145 = .ok (.lshl, 1) := by decide +kernel
theorem dX5_mergeInto_146 : decode cX5_mergeInto 146 = .ok (.ldc2_w 303, 3) := by decide +kernel
theorem dX5_mergeInto_149 : decode cX5_mergeInto 149 = .ok (.lxor, 1) := by decide +kernel
theorem dX5_mergeInto_150 : decode cX5_mergeInto 150 = .ok (.land, 1) := by decide +kernel
theorem dX5_mergeInto_151 : decode cX5_mergeInto 151 = .ok (.putfield 96, 3) := by decide +kernel
theorem dX5_mergeInto_154 : decode cX5_mergeInto 154 = .ok (.aload_n 1, 1) := by decide +kernel
theorem dX5_mergeInto_155 : decode cX5_mergeInto 155 = .ok (.aload_n 1, 1) := by decide +kernel
theorem dX5_mergeInto_156 : decode cX5_mergeInto 156 = .ok (.getfield 125, 3) := by decide +kernel
theorem dX5_mergeInto_159 : decode cX5_mergeInto 159 = .ok (.iload_n 2, 1) := by decide +kernel
theorem dX5_mergeInto_160 : decode cX5_mergeInto 160 = .ok (.iaload, 1) := by decide +kernel
theorem dX5_mergeInto_161 : decode cX5_mergeInto 161 = .ok (.iload_n 3, 1) := by decide +kernel
theorem dX5_mergeInto_162 : decode cX5_mergeInto 162 = .ok (.iload_n 2, 1) := by decide +kernel
theorem dX5_mergeInto_163 : decode cX5_mergeInto 163 = .ok (.invokestatic 305, 3) := by decide +kernel
theorem dX5_mergeInto_166 : decode cX5_mergeInto 166 = .ok (.aload_n 1, 1) := by decide +kernel
theorem dX5_mergeInto_167 : decode cX5_mergeInto 167 = .ok (.aload_n 1, 1) := by decide +kernel
theorem dX5_mergeInto_168 : decode cX5_mergeInto 168 = .ok (.getfield 131, 3) := by decide +kernel
theorem dX5_mergeInto_171 : decode cX5_mergeInto 171 = .ok (.iload_n 2, 1) := by decide +kernel
theorem dX5_mergeInto_172 : decode cX5_mergeInto 172 = .ok (.iaload, 1) := by decide +kernel
theorem dX5_mergeInto_173 : decode cX5_mergeInto 173 = .ok (.iload_n 3, 1) := by decide +kernel
theorem dX5_mergeInto_174 : decode cX5_mergeInto 174 = .ok (.iload_n 2, 1) := by decide +kernel
theorem dX5_mergeInto_175 : decode cX5_mergeInto 175 = .ok (.invokestatic 305, 3) := by decide +kernel
theorem dX5_mergeInto_178 : decode cX5_mergeInto 178 = .ok (.return_, 1) := by decide +kernel
theorem dX5_mergeable_0 : decode cX5_mergeable 0 = .ok (.iconst 0, 1) := by decide +kernel
theorem dX5_mergeable_1 : decode cX5_mergeable 1 = .ok (.istore_n 2, 1) := by decide +kernel
theorem dX5_mergeable_2 : decode cX5_mergeable 2 = .ok (.iload_n 2, 1) := by decide +kernel
theorem dX5_mergeable_3 : decode cX5_mergeable 3 = .ok (.aload_n 1, 1) := by decide +kernel
theorem dX5_mergeable_4 : decode cX5_mergeable 4 = .ok (.getfield 49, 3) := by decide +kernel
theorem dX5_mergeable_7 : decode cX5_mergeable 7 = .ok (.if_icmp .ge 54, 3) := by decide +kernel
theorem dX5_mergeable_10 : decode cX5_mergeable 10 = .ok (.aload_n 0, 1) := by decide +kernel
theorem dX5_mergeable_11 : decode cX5_mergeable 11 = .ok (.getfield 96, 3) := by decide +kernel
theorem dX5_mergeable_14 : decode cX5_mergeable 14 = .ok (.iload_n 2, 1) := by decide +kernel
theorem dX5_mergeable_15 : decode cX5_mergeable 15 = .ok (.invokestatic 101, 3) := by decide +kernel
theorem dX5_mergeable_18 : decode cX5_mergeable 18 = .ok (.ifCond .eq 37, 3) := by decide +kernel
theorem dX5_mergeable_21 : decode cX5_mergeable 21 = .ok (.aload_n 1, 1) := by decide +kernel
theorem dX5_mergeable_22 : decode cX5_mergeable 22 = .ok (.getfield 161, 3) := by decide +kernel
theorem dX5_mergeable_25 : decode cX5_mergeable 25 = .ok (.iload_n 2, 1) := by decide +kernel
theorem dX5_mergeable_26 : decode cX5_mergeable 26 = .ok (.iaload, 1) := by decide +kernel
theorem dX5_mergeable_27 : decode cX5_mergeable 27 = .ok (.bipush 22, 2) := by decide +kernel
theorem dX5_mergeable_29 : decode cX5_mergeable 29 = .ok (.if_icmp .ne 26, 3) := by decide +kernel
theorem dX5_mergeable_32 : decode cX5_mergeable 32 = .ok (.aload_n 1, 1) := by decide +kernel
theorem dX5_mergeable_33 : decode cX5_mergeable 33 = .ok (.getfield 125, 3) := by decide +kernel
theorem dX5_mergeable_36 : decode cX5_mergeable 36 = .ok (.iload_n 2, 1) := by decide +kernel
theorem dX5_mergeable_37 : decode cX5_mergeable 37 = .ok (.iaload, 1) := by decide +kernel
theorem dX5_mergeable_38 : decode cX5_mergeable 38 = .ok (.istore_n 3, 1) := by decide +kernel
theorem dX5_mergeable_39 : decode cX5_mergeable 39 = .ok (.iload_n 3, 1) := by decide +kernel
theorem dX5_mergeable_40 : decode cX5_mergeable 40 = .ok (.iload_n 2, 1) := by decide +kernel
theorem dX5_mergeable_41 : decode cX5_mergeable 41 = .ok (.if_icmp .eq 14, 3) := by decide +kernel
theorem dX5_mergeable_44 : decode cX5_mergeable 44 = .ok (.aload_n 1, 1) := by decide +kernel
theorem dX5_mergeable_45 : decode cX5_mergeable 45 = .ok (.iload_n 3, 1) := by decide +kernel
theorem dX5_mergeable_46 : decode cX5_mergeable 46 = .ok (.invokevirtual 134, 3) := by decide +kernel
theorem dX5_mergeable_49 : decode cX5_mergeable 49 = .ok (.iconst 1, 1) := by decide +kernel
theorem dX5_mergeable_50 : decode cX5_mergeable 50 = .ok (.if_icmp .ne 5, 3) := by decide +kernel
theorem dX5_mergeable_53 : decode cX5_mergeable 53 = .ok (.iload_n 2, 1) := by decide +kernel
theorem dX5_mergeable_54 : decode cX5_mergeable 54 = .ok (.ireturn, 1) := by decide +kernel
theorem dX5_mergeable_55 : decode cX5_mergeable 55 = .ok (.iinc 2 1, 3) := by decide +kernel
theorem dX5_mergeable_58 : decode cX5_mergeable 58 = .ok (.goto (-56), 3) := by decide +kernel
theorem dX5_mergeable_61 : decode cX5_mergeable 61 = .ok (.iconst (-1), 1) := by decide +kernel
theorem dX5_mergeable_62 : decode cX5_mergeable 62 = .ok (.ireturn, 1) := by decide +kernel
theorem dX5_takeFrom_0 : decode cX5_takeFrom 0 = .ok (.iload_n 1, 1) := by decide +kernel
theorem dX5_takeFrom_1 : decode cX5_takeFrom 1 = .ok (.ifCond .lt 42, 3) := by decide +kernel
theorem dX5_takeFrom_4 : decode cX5_takeFrom 4 = .ok (.aload_n 0, 1) := by decide +kernel
theorem dX5_takeFrom_5 : decode cX5_takeFrom 5 = .ok (.getfield 55, 3) := by decide +kernel
theorem dX5_takeFrom_8 : decode cX5_takeFrom 8 = .ok (.iload_n 1, 1) := by decide +kernel
theorem dX5_takeFrom_9 : decode cX5_takeFrom 9 = .ok (.iaload, 1) := by decide +kernel
theorem dX5_takeFrom_10 : decode cX5_takeFrom 10 = .ok (.istore 4, 2) := by decide +kernel
theorem dX5_takeFrom_12 : decode cX5_takeFrom 12 = .ok (.iload 4, 2) := by decide +kernel
theorem dX5_takeFrom_14 : decode cX5_takeFrom 14 = .ok (.ifCond .lt 29, 3) := by decide +kernel
theorem dX5_takeFrom_17 : decode cX5_takeFrom 17 = .ok (.aload_n 0, 1) := by decide +kernel
theorem dX5_takeFrom_18 : decode cX5_takeFrom 18 = .ok (.iload 4, 2) := by decide +kernel
theorem dX5_takeFrom_20 : decode cX5_takeFrom 20 = .ok (.iload_n 3, 1) := by decide +kernel
theorem dX5_takeFrom_21 : decode cX5_takeFrom 21 = .ok (.aload_n 0, 1) := by decide +kernel
theorem dX5_takeFrom_22 : decode cX5_takeFrom 22 = .ok (.iload 4, 2) := by decide +kernel
theorem dX5_takeFrom_24 : decode cX5_takeFrom 24 = .ok (.iload_n 2, 1) := by decide +kernel
theorem dX5_takeFrom_25 : decode cX5_takeFrom 25 = .ok (.invokevirtual 142, 3) := by decide +kernel
theorem dX5_takeFrom_28 : decode cX5_takeFrom 28 = .ok (.invokevirtual 217, 3) := by decide +kernel
theorem dX5_takeFrom_31 : decode cX5_takeFrom 31 = .ok (.aload_n 0, 1) := by decide +kernel
theorem dX5_takeFrom_32 : decode cX5_takeFrom 32 = .ok (.getfield 61, 3) := by decide +kernel
theorem dX5_takeFrom_35 : decode cX5_takeFrom 35 = .ok (.iload 4, 2) := by decide +kernel
theorem dX5_takeFrom_37 : decode cX5_takeFrom 37 = .ok (.iaload, 1) := by decide +kernel
theorem dX5_takeFrom_38 : decode cX5_takeFrom 38 = .ok (.istore 4, 2) := by decide +kernel
theorem dX5_takeFrom_40 : decode cX5_takeFrom 40 = .ok (.goto (-28), 3) := by decide +kernel
theorem dX5_takeFrom_43 : decode cX5_takeFrom 43 = .ok (.return_, 1) := by decide +kernel
theorem dX5_useStandIns_0 : decode cX5_useStandIns 0 = .ok (.aload_n 1, 1) := by decide +kernel
theorem dX5_useStandIns_1 : decode cX5_useStandIns 1 = .ok (.getfield 67, 3) := by decide +kernel
theorem dX5_useStandIns_4 : decode cX5_useStandIns 4 = .ok (.astore_n 2, 1) := by decide +kernel
theorem dX5_useStandIns_5 : decode cX5_useStandIns 5 = .ok (.iconst 0, 1) := by decide +kernel
theorem dX5_useStandIns_6 : decode cX5_useStandIns 6 = .ok (.istore_n 3, 1) := by decide +kernel
theorem dX5_useStandIns_7 : decode cX5_useStandIns 7 = .ok (.iload_n 3, 1) := by decide +kernel
theorem dX5_useStandIns_8 : decode cX5_useStandIns 8 = .ok (.aload_n 1, 1) := by decide +kernel
theorem dX5_useStandIns_9 : decode cX5_useStandIns 9 = .ok (.getfield 49, 3) := by decide +kernel
theorem dX5_useStandIns_12 : decode cX5_useStandIns 12 = .ok (.if_icmp .ge 194, 3) := by decide +kernel
theorem dX5_useStandIns_15 : decode cX5_useStandIns 15 = .ok (.aload_n 1, 1) := by decide +kernel
theorem dX5_useStandIns_16 : decode cX5_useStandIns 16 = .ok (.getfield 55, 3) := by decide +kernel
theorem dX5_useStandIns_19 : decode cX5_useStandIns 19 = .ok (.iload_n 3, 1) := by decide +kernel
theorem dX5_useStandIns_20 : decode cX5_useStandIns 20 = .ok (.iaload, 1) := by decide +kernel
theorem dX5_useStandIns_21 : decode cX5_useStandIns 21 = .ok (.istore 4, 2) := by decide +kernel
theorem dX5_useStandIns_23 : decode cX5_useStandIns 23 = .ok (.iload 4, 2) := by decide +kernel
theorem dX5_useStandIns_25 : decode cX5_useStandIns 25 = .ok (.ifCond .lt 63, 3) := by decide +kernel
theorem dX5_useStandIns_28 : decode cX5_useStandIns 28 = .ok (.iconst 0, 1) := by decide +kernel
theorem dX5_useStandIns_29 : decode cX5_useStandIns 29 = .ok (.istore 5, 2) := by decide +kernel
theorem dX5_useStandIns_31 : decode cX5_useStandIns 31 = .ok (.iload 5, 2) := by decide +kernel
theorem dX5_useStandIns_33 : decode cX5_useStandIns 33 = .ok (.aload_n 1, 1) := by decide +kernel
theorem dX5_useStandIns_34 : decode cX5_useStandIns 34 = .ok (.iload_n 3, 1) := by decide +kernel
theorem dX5_useStandIns_35 : decode cX5_useStandIns 35 = .ok (.invokevirtual 134, 3) := by decide +kernel
theorem dX5_useStandIns_38 : decode cX5_useStandIns 38 = .ok (.if_icmp .ge 38, 3) := by decide +kernel
theorem dX5_useStandIns_41 : decode cX5_useStandIns 41 = .ok (.aload_n 1, 1) := by decide +kernel
theorem dX5_useStandIns_42 : decode cX5_useStandIns 42 = .ok (.iload_n 3, 1) := by decide +kernel
theorem dX5_useStandIns_43 : decode cX5_useStandIns 43 = .ok (.iload 5, 2) := by decide +kernel
theorem dX5_useStandIns_45 : decode cX5_useStandIns 45 = .ok (.invokevirtual 138, 3) := by decide +kernel
theorem dX5_useStandIns_48 : decode cX5_useStandIns 48 = .ok (.istore 6, 2) := by decide +kernel
theorem dX5_useStandIns_50 : decode cX5_useStandIns 50 = .ok (.aload_n 1, 1) := by decide +kernel
theorem dX5_useStandIns_51 : decode cX5_useStandIns 51 = .ok (.iload 4, 2) := by decide +kernel
theorem dX5_useStandIns_53 : decode cX5_useStandIns 53 = .ok (.iload 6, 2) := by decide +kernel
theorem dX5_useStandIns_55 : decode cX5_useStandIns 55 = .ok (.aload_n 0, 1) := by decide +kernel
theorem dX5_useStandIns_56 : decode cX5_useStandIns 56 = .ok (.aload_n 1, 1) := by decide +kernel
theorem dX5_useStandIns_57 : decode cX5_useStandIns 57 = .ok (.iload 4, 2) := by decide +kernel
theorem dX5_useStandIns_59 : decode cX5_useStandIns 59 = .ok (.iload 6, 2) := by decide +kernel
theorem dX5_useStandIns_61 : decode cX5_useStandIns 61 = .ok (.invokevirtual 142, 3) := by decide +kernel
theorem dX5_useStandIns_64 : decode cX5_useStandIns 64 = .ok (.invokevirtual 214, 3) := by decide +kernel
theorem dX5_useStandIns_67 : decode cX5_useStandIns 67 = .ok (.invokevirtual 217, 3) := by decide +kernel
theorem dX5_useStandIns_70 : decode cX5_useStandIns 70 = .ok (.iinc 5 1, 3) := by decide +kernel
theorem dX5_useStandIns_73 : decode cX5_useStandIns 73 = .ok (.goto (-42), 3) := by decide +kernel
theorem dX5_useStandIns_76 : decode cX5_useStandIns 76 = .ok (.aload_n 1, 1) := by decide +kernel
theorem dX5_useStandIns_77 : decode cX5_useStandIns 77 = .ok (.getfield 61, 3) := by decide +kernel
theorem dX5_useStandIns_80 : decode cX5_useStandIns 80 = .ok (.iload 4, 2) := by decide +kernel
theorem dX5_useStandIns_82 : decode cX5_useStandIns 82 = .ok (.iaload, 1) := by decide +kernel
theorem dX5_useStandIns_83 : decode cX5_useStandIns 83 = .ok (.istore 4, 2) := by decide +kernel
theorem dX5_useStandIns_85 : decode cX5_useStandIns 85 = .ok (.goto (-62), 3) := by decide +kernel
theorem dX5_useStandIns_88 : decode cX5_useStandIns 88 = .ok (.aload_n 1, 1) := by decide +kernel
theorem dX5_useStandIns_89 : decode cX5_useStandIns 89 = .ok (.getfield 64, 3) := by decide +kernel
theorem dX5_useStandIns_92 : decode cX5_useStandIns 92 = .ok (.iload_n 3, 1) := by decide +kernel
theorem dX5_useStandIns_93 : decode cX5_useStandIns 93 = .ok (.iaload, 1) := by decide +kernel
theorem dX5_useStandIns_94 : decode cX5_useStandIns 94 = .ok (.istore 4, 2) := by decide +kernel
theorem dX5_useStandIns_96 : decode cX5_useStandIns 96 = .ok (.iload 4, 2) := by decide +kernel
theorem dX5_useStandIns_98 : decode cX5_useStandIns 98 = .ok (.ifCond .lt 77, 3) := by decide +kernel
theorem dX5_useStandIns_101 : decode cX5_useStandIns 101 = .ok (.aload_n 2, 1) := by decide +kernel
theorem dX5_useStandIns_102 : decode cX5_useStandIns 102 = .ok (.getfield 79, 3) := by decide +kernel
theorem dX5_useStandIns_105 : decode cX5_useStandIns 105 = .ok (.iload 4, 2) := by decide +kernel
theorem dX5_useStandIns_107 : decode cX5_useStandIns 107 = .ok (.iaload, 1) := by decide +kernel
theorem dX5_useStandIns_108 : decode cX5_useStandIns 108 = .ok (.invokestatic 221, 3) := by decide +kernel
theorem dX5_useStandIns_111 : decode cX5_useStandIns 111 = .ok (.ifCond .eq 21, 3) := by decide +kernel
theorem dX5_useStandIns_114 : decode cX5_useStandIns 114 = .ok (.aload_n 2, 1) := by decide +kernel
theorem dX5_useStandIns_115 : decode cX5_useStandIns 115 = .ok (.getfield 82, 3) := by decide +kernel
theorem dX5_useStandIns_118 : decode cX5_useStandIns 118 = .ok (.iload 4, 2) := by decide +kernel
theorem dX5_useStandIns_120 : decode cX5_useStandIns 120 = .ok (.aload_n 0, 1) := by decide +kernel
theorem dX5_useStandIns_121 : decode cX5_useStandIns 121 = .ok (.aload_n 2, 1) := by decide +kernel
theorem dX5_useStandIns_122 : decode cX5_useStandIns 122 = .ok (.getfield 82, 3) := by decide +kernel
theorem dX5_useStandIns_125 : decode cX5_useStandIns 125 = .ok (.iload 4, 2) := by decide +kernel
theorem dX5_useStandIns_127 : decode cX5_useStandIns 127 = .ok (.iaload, 1) := by decide +kernel
theorem dX5_useStandIns_128 : decode cX5_useStandIns 128 = .ok (.invokevirtual 214, 3) := by decide +kernel
theorem dX5_useStandIns_131 : decode cX5_useStandIns 131 = .ok (.iastore, 1) := by decide +kernel
theorem dX5_useStandIns_132 : decode cX5_useStandIns 132 = .ok (.aload_n 2, 1) := by decide +kernel
theorem dX5_useStandIns_133 : decode cX5_useStandIns 133 = .ok (.getfield 79, 3) := by decide +kernel
theorem dX5_useStandIns_136 : decode cX5_useStandIns 136 = .ok (.iload 4, 2) := by decide +kernel
theorem dX5_useStandIns_138 : decode cX5_useStandIns 138 = .ok (.iaload, 1) := by decide +kernel
theorem dX5_useStandIns_139 : decode cX5_useStandIns 139 = .ok (.invokestatic 224, 3) := by decide +kernel
theorem dX5_useStandIns_142 : decode cX5_useStandIns 142 = .ok (.ifCond .eq 21, 3) := by decide +kernel
theorem dX5_useStandIns_145 : decode cX5_useStandIns 145 = .ok (.aload_n 2, 1) := by decide +kernel
theorem dX5_useStandIns_146 : decode cX5_useStandIns 146 = .ok (.getfield 93, 3) := by decide +kernel
theorem dX5_useStandIns_149 : decode cX5_useStandIns 149 = .ok (.iload 4, 2) := by decide +kernel
theorem dX5_useStandIns_151 : decode cX5_useStandIns 151 = .ok (.aload_n 0, 1) := by decide +kernel
theorem dX5_useStandIns_152 : decode cX5_useStandIns 152 = .ok (.aload_n 2, 1) := by decide +kernel
theorem dX5_useStandIns_153 : decode cX5_useStandIns 153 = .ok (.getfield 93, 3) := by decide +kernel
theorem dX5_useStandIns_156 : decode cX5_useStandIns 156 = .ok (.iload 4, 2) := by decide +kernel
theorem dX5_useStandIns_158 : decode cX5_useStandIns 158 = .ok (.iaload, 1) := by decide +kernel
theorem dX5_useStandIns_159 : decode cX5_useStandIns 159 = .ok (.invokevirtual 214, 3) := by decide +kernel
theorem dX5_useStandIns_162 : decode cX5_useStandIns 162 = .ok (.iastore, 1) := by decide +kernel
theorem dX5_useStandIns_163 : decode cX5_useStandIns 163 = .ok (.aload_n 2, 1) := by decide +kernel
theorem dX5_useStandIns_164 : decode cX5_useStandIns 164 = .ok (.getfield 76, 3) := by decide +kernel
theorem dX5_useStandIns_167 : decode cX5_useStandIns 167 = .ok (.iload 4, 2) := by decide +kernel
theorem dX5_useStandIns_169 : decode cX5_useStandIns 169 = .ok (.iaload, 1) := by decide +kernel
theorem dX5_useStandIns_170 : decode cX5_useStandIns 170 = .ok (.istore 4, 2) := by decide +kernel
theorem dX5_useStandIns_172 : decode cX5_useStandIns 172 = .ok (.goto (-76), 3) := by decide +kernel
theorem dX5_useStandIns_175 : decode cX5_useStandIns 175 = .ok (.aload_n 1, 1) := by decide +kernel
theorem dX5_useStandIns_176 : decode cX5_useStandIns 176 = .ok (.getfield 164, 3) := by decide +kernel
theorem dX5_useStandIns_179 : decode cX5_useStandIns 179 = .ok (.iload_n 3, 1) := by decide +kernel
theorem dX5_useStandIns_180 : decode cX5_useStandIns 180 = .ok (.iaload, 1) := by decide +kernel
theorem dX5_useStandIns_181 : decode cX5_useStandIns 181 = .ok (.ifCond .lt 19, 3) := by decide +kernel
theorem dX5_useStandIns_184 : decode cX5_useStandIns 184 = .ok (.aload_n 1, 1) := by decide +kernel
theorem dX5_useStandIns_185 : decode cX5_useStandIns 185 = .ok (.getfield 164, 3) := by decide +kernel
theorem dX5_useStandIns_188 : decode cX5_useStandIns 188 = .ok (.iload_n 3, 1) := by decide +kernel
theorem dX5_useStandIns_189 : decode cX5_useStandIns 189 = .ok (.aload_n 0, 1) := by decide +kernel
theorem dX5_useStandIns_190 : decode cX5_useStandIns 190 = .ok (.aload_n 1, 1) := by decide +kernel
theorem dX5_useStandIns_191 : decode cX5_useStandIns 191 = .ok (.getfield 164, 3) := by decide +kernel
theorem dX5_useStandIns_194 : decode cX5_useStandIns 194 = .ok (.iload_n 3, 1) := by decide +kernel
theorem dX5_useStandIns_195 : decode cX5_useStandIns 195 = .ok (.iaload, 1) := by decide +kernel
theorem dX5_useStandIns_196 : decode cX5_useStandIns 196 = .ok (.invokevirtual 214, 3) := by decide +kernel
theorem dX5_useStandIns_199 : decode cX5_useStandIns 199 = .ok (.iastore, 1) := by decide +kernel
theorem dX5_useStandIns_200 : decode cX5_useStandIns 200 = .ok (.iinc 3 1, 3) := by decide +kernel
theorem dX5_useStandIns_203 : decode cX5_useStandIns 203 = .ok (.goto (-196), 3) := by decide +kernel
theorem dX5_useStandIns_206 : decode cX5_useStandIns 206 = .ok (.return_, 1) := by decide +kernel
theorem qw583 : Cond.fieldLink RX5 36 "Gearbox$Passes" "path" "[I" ∈ gw := mq_2 (i := 221) rfl rfl
theorem qw584 : Cond.code yX5_joinBlock cX5_joinBlock 5 (Option.none : Option Jvm.ClassFile.FieldType) ∈ gw := mq_7 (i := 218) rfl rfl
theorem qw585 : Cond.methodLink RX5 197 yX5_joinBlock ∈ gw := mq_7 (i := 215) rfl rfl
theorem qw586 : Cond.instanceMethod yX5_joinBlock ∈ gw := mq_7 (i := 217) rfl rfl
theorem qw587 : Cond.selects RX5 yX5_joinBlock yX5_joinBlock ∈ gw := mk_s (i := 54) rfl rfl
theorem qw588 : Cond.fieldLink RX5 201 "Gearbox$Flow" "dominator" "[I" ∈ gw := mq_2 (i := 37) rfl rfl
theorem qw589 : Cond.fieldLink RX5 204 "Gearbox$Flow" "limit" "I" ∈ gw := mq_1 (i := 218) rfl rfl
theorem qw590 : Cond.methodLink RX5 217 yX1_setTake ∈ gw := mq_8 (i := 40) rfl rfl
theorem qw591 : Cond.code yX5_useStandIns cX5_useStandIns 7 (Option.none : Option Jvm.ClassFile.FieldType) ∈ gw := mq_8 (i := 39) rfl rfl
theorem qw592 : Cond.methodLink RX5 211 yX5_useStandIns ∈ gw := mq_8 (i := 36) rfl rfl
theorem qw593 : Cond.instanceMethod yX5_useStandIns ∈ gw := mq_8 (i := 38) rfl rfl
theorem qw594 : Cond.selects RX5 yX5_useStandIns yX5_useStandIns ∈ gw := mk_s (i := 55) rfl rfl
theorem qw595 : Cond.code yX5_mayLift cX5_mayLift 6 (Option.some Jvm.ClassFile.FieldType.boolean) ∈ gw := mq_8 (i := 99) rfl rfl
theorem qw596 : Cond.methodLink RX5 292 yX5_mayLift ∈ gw := mq_8 (i := 96) rfl rfl
theorem qw597 : Cond.instanceMethod yX5_mayLift ∈ gw := mq_8 (i := 98) rfl rfl
theorem qw598 : Cond.selects RX5 yX5_mayLift yX5_mayLift ∈ gw := mk_s (i := 56) rfl rfl
theorem qw599 : Cond.code yX5_liftBlock cX5_liftBlock 9 (Option.some Jvm.ClassFile.FieldType.int) ∈ gw := mq_8 (i := 95) rfl rfl
theorem qw600 : Cond.methodLink RX5 288 yX5_liftBlock ∈ gw := mq_8 (i := 92) rfl rfl
theorem qw601 : Cond.instanceMethod yX5_liftBlock ∈ gw := mq_8 (i := 94) rfl rfl
theorem qw602 : Cond.selects RX5 yX5_liftBlock yX5_liftBlock ∈ gw := mk_s (i := 57) rfl rfl
theorem qw603 : Cond.code yX5_blockAhead cX5_blockAhead 5 (Option.some Jvm.ClassFile.FieldType.int) ∈ gw := mq_8 (i := 91) rfl rfl
theorem qw604 : Cond.methodLink RX5 285 yX5_blockAhead ∈ gw := mq_8 (i := 89) rfl rfl
theorem qw605 : Cond.static yX5_blockAhead ∈ gw := mq_8 (i := 90) rfl rfl
theorem qw610 : Cond.constantLong RX5 303 (-1) ∈ gw := mq_8 (i := 116) rfl rfl
theorem qw611 : Cond.code yX5_takeFrom cX5_takeFrom 5 (Option.none : Option Jvm.ClassFile.FieldType) ∈ gw := mq_8 (i := 119) rfl rfl
theorem qw612 : Cond.methodLink RX5 305 yX5_takeFrom ∈ gw := mq_8 (i := 117) rfl rfl
theorem qw613 : Cond.static yX5_takeFrom ∈ gw := mq_8 (i := 118) rfl rfl
def fX5_useStandIns_L31 (p0w : ST) (p1n : Nat → Nat) (v3_7 : Int32) (v4_23 : Int32) : Nat → Int32 → ST → Option ST
  | 0 => fun _ _ => none
  | n_31 + 1 => fun v5_31 p1w_31 => ((fX1_waysTo p1w_31 v3_7).bind fun (o_4 : Int32) => (if o_4 ≤ v5_31 then some p1w_31 else ((fX1_wayFrom p1w_31 v3_7 v5_31).bind fun (o_7 : Int32) => ((fX1_take p1n p1w_31 v4_23 o_7).bind fun (o_9 : Int32) => ((fX5_standInOf p0w o_9).bind fun (o_11 : Int32) => ((fX1_setTake p1n p1w_31 v4_23 o_7 o_11).bind fun (o_13 : ST) => ((fX5_useStandIns_L31 p0w p1n v3_7 v4_23 n_31) (v5_31 + 1) o_13)))))))
def fX5_useStandIns_L23 (p0w : ST) (p1n : Nat → Nat) (v3_7 : Int32) : Nat → Int32 → ST → Option ST
  | 0 => fun _ _ => none
  | n_23 + 1 => fun v4_23 p1w_23 => (if v4_23 < 0 then some p1w_23 else ((fX5_useStandIns_L31 p0w p1n v3_7 v4_23 NF 0 p1w_23).bind fun (o31 : ST) => (if ixb v4_23 (p1n 20) = true then ((fX5_useStandIns_L23 p0w p1n v3_7 n_23) (o31 20 (nn v4_23)) o31) else none)))
def fX5_useStandIns_J163 (kk96 : Int32 → ST → Option ST) (p1_2n : Nat → Nat) (v4_96 : Int32) (p1_2w_163 : ST) : Option ST := (if ixb v4_96 (p1_2n 6) = true then (kk96 (p1_2w_163 6 (nn v4_96)) p1_2w_163) else none)
def fX5_useStandIns_J132 (kk96 : Int32 → ST → Option ST) (p0w : ST) (p1_2n : Nat → Nat) (v4_96 : Int32) (p1_2w_132 : ST) : Option ST := (if ixb v4_96 (p1_2n 2) = true then ((fX11_usesRight (p1_2w_132 2 (nn v4_96))).bind fun (o_21 : Int32) => (if o_21 = 0 then (fX5_useStandIns_J163 kk96 p1_2n v4_96 p1_2w_132) else (if ixb v4_96 (p1_2n 5) = true then ((fX5_standInOf p0w (p1_2w_132 5 (nn v4_96))).bind fun (o_26 : Int32) => (if ixb v4_96 (p1_2n 5) = true then (lt9 (upw p1_2w_132 5 (nn v4_96) o_26) fun (w29 : ST) => (fX5_useStandIns_J163 kk96 p1_2n v4_96 w29)) else none)) else none))) else none)
def fX5_useStandIns_L96 (p0w : ST) (p1_2n : Nat → Nat) : Nat → Int32 → ST → Option ST
  | 0 => fun _ _ => none
  | n_96 + 1 => fun v4_96 p1_2w_96 => (if v4_96 < 0 then some p1_2w_96 else (if ixb v4_96 (p1_2n 2) = true then ((fX11_usesLeft (p1_2w_96 2 (nn v4_96))).bind fun (o_18 : Int32) => (if o_18 = 0 then (fX5_useStandIns_J132 (fX5_useStandIns_L96 p0w p1_2n n_96) p0w p1_2n v4_96 p1_2w_96) else (if ixb v4_96 (p1_2n 4) = true then ((fX5_standInOf p0w (p1_2w_96 4 (nn v4_96))).bind fun (o_32 : Int32) => (if ixb v4_96 (p1_2n 4) = true then (lt9 (upw p1_2w_96 4 (nn v4_96) o_32) fun (w35 : ST) => (fX5_useStandIns_J132 (fX5_useStandIns_L96 p0w p1_2n n_96) p0w p1_2n v4_96 w35)) else none)) else none))) else none))
def fX5_useStandIns_J200 (kk7 : Int32 → ST → ST → Option (ST × ST)) (v3_7 : Int32) (o96 : ST) (p1w_200 : ST) : Option (ST × ST) := (kk7 (v3_7 + 1) p1w_200 o96)
def fX5_useStandIns_L7 (p0w : ST) (p1n : Nat → Nat) (p1_2n : Nat → Nat) : Nat → Int32 → ST → ST → Option (ST × ST)
  | 0 => fun _ _ _ => none
  | n_7 + 1 => fun v3_7 p1w_7 p1_2w_7 => (if (p1w_7 0 0) ≤ v3_7 then some (p1w_7, p1_2w_7) else (if ixb v3_7 60 = true then ((fX5_useStandIns_L23 p0w p1n v3_7 NF (p1w_7 6 (nn v3_7)) p1w_7).bind fun (o23 : ST) => (if ixb v3_7 60 = true then ((fX5_useStandIns_L96 p0w p1_2n NF (o23 4 (nn v3_7)) p1_2w_7).bind fun (o96 : ST) => (if ixb v3_7 60 = true then (if (o23 9 (nn v3_7)) < 0 then (fX5_useStandIns_J200 (fX5_useStandIns_L7 p0w p1n p1_2n n_7) v3_7 o96 o23) else (if ixb v3_7 60 = true then ((fX5_standInOf p0w (o23 9 (nn v3_7))).bind fun (o_39 : Int32) => (if ixb v3_7 60 = true then (lt9 (upw o23 9 (nn v3_7) o_39) fun (w42 : ST) => (fX5_useStandIns_J200 (fX5_useStandIns_L7 p0w p1n p1_2n n_7) v3_7 o96 w42)) else none)) else none)) else none)) else none)) else none))
def fX5_useStandIns (p0w : ST) (p1n : Nat → Nat) (p1w : ST) (p1_2n : Nat → Nat) (p1_2w : ST) : Option (ST × ST) := ((fX5_useStandIns_L7 p0w p1n p1_2n NF 0 p1w p1_2w).bind fun (o7 : ST × ST) => some ((o7.1), (o7.2)))
set_option maxHeartbeats 16000000 in
set_option maxRecDepth 100000 in
theorem kX5_useStandIns {zs : Nat × Nat} (l : Launch) (dC : Nat → ClassId) (dI : Nat → Nat → Nat) (p0a : Nat → Nat) (p0k : Nat → ClassId) (p0w : ST) (p0l : SL) (p1a : Nat → Nat) (p1k : Nat → ClassId) (p1n : Nat → Nat) (p1w : ST) (p1l : SL) (p1_2a : Nat → Nat) (p1_2k : Nat → ClassId) (p1_2n : Nat → Nat) (p1_2w : ST) (sz : Nat) (o : ST × ST) (hrun : fX5_useStandIns p0w p1n p1w p1_2n p1_2w = some o) : Met l yX5_useStandIns (wz yX5_useStandIns cX5_useStandIns 7 (Option.none : Option Jvm.ClassFile.FieldType)) ({ frames := 2, cells := 0, slots := 0, locals := 40 } : Room) (va_Pc [.ref (p0a 0), .ref (p1a 0)] (PRE zs dC dI ((oX5 (p0a 0) p0a p0k p0w p0l) ++ (oX1 (p1a 0) p1a p1k p1n p1w p1l) ++ (oX9 (p1a 3) p1_2a p1_2k p1_2n p1_2w)) ((tX5 p0k) ++ (tX1 p1k) ++ (tX9 p1_2k)) sz)) (va_Qv (fun (_ : Unit) => True) (fun _ t => POST dC dI ((oX5 (p0a 0) p0a p0k p0w p0l) ++ (oX1 (p1a 0) p1a p1k p1n (o.1) p1l) ++ (oX9 (p1a 3) p1_2a p1_2k p1_2n (o.2))) ((tX5 p0k) ++ (tX1 p1k) ++ (tX9 p1_2k)) (va_A ((oX5 (p0a 0) p0a p0k p0w p0l) ++ (oX1 (p1a 0) p1a p1k p1n p1w p1l) ++ (oX9 (p1a 3) p1_2a p1_2k p1_2n p1_2w)) sz) t) (va_A ((oX5 (p0a 0) p0a p0k p0w p0l) ++ (oX1 (p1a 0) p1a p1k p1n p1w p1l) ++ (oX9 (p1a 3) p1_2a p1_2k p1_2n p1_2w)) sz)) 0 0 (va_A ((oX5 (p0a 0) p0a p0k p0w p0l) ++ (oX1 (p1a 0) p1a p1k p1n p1w p1l) ++ (oX9 (p1a 3) p1_2a p1_2k p1_2n p1_2w)) sz) := by
  refine Met.ofW (cc := cX5_useStandIns) (maxL := 7) (ret := (Option.none : Option Jvm.ClassFile.FieldType)) (by decide) rfl ?_
  intro p e s m args below meth c s₁ B hml hv
  obtain ⟨rfl, hsz, hP, hK, hD0, hE⟩ := hv
  have hx := B.exec
  have hb := B.bytes
  have hr := B.returns
  have hts0 := atoms_spec (ws := wz yX5_useStandIns cX5_useStandIns 7 (Option.none : Option Jvm.ClassFile.FieldType)) B.pre
  have hts : ∀ w ∈ gw, w.before _ s = true := fun w h => hts0 w (List.mem_cons_of_mem _ h)
  have hown : s.vm.findClass RX5 = some m.cls := findClass_of_methodNamed B.named
  have hlocks := B.notSynchronized
  subst hsz
  have hD := hD0.self (sz := s.heap.size)
  refine gQ9 ?_
  intro Q hQ
  generalize hAe : va_A ((oX5 (p0a 0) p0a p0k p0w p0l) ++ (oX1 (p1a 0) p1a p1k p1n p1w p1l) ++ (oX9 (p1a 3) p1_2a p1_2k p1_2n p1_2w)) s.heap.size = A at hD hE hQ
  have hA : ∀ q : Nat, s.heap.size ≤ q → A q := fun q h => by rw [← hAe]; exact Or.inr h
  have hS : va_S A s.heap s.heap [] := va_S.rf
  have hP : va_P (dC, dI) cls ((oX5 (p0a 0) p0a p0k p0w p0l) ++ (oX1 (p1a 0) p1a p1k p1n p1w p1l) ++ (oX9 (p1a 3) p1_2a p1_2k p1_2n p1_2w)) s.heap := hP
  have hl := lv_entry ([.ref (p0a 0), .ref (p1a 0)]) (n := 7) (Nat.le_of_ble_eq_true rfl)
  rw [lg_entry_eq]
  generalize (lg_sl ([.ref (p0a 0), .ref (p1a 0)]) ++ List.replicate (7 - (lg_sl ([.ref (p0a 0), .ref (p1a 0)])).length) Slot.unset).toArray = ls at hl ⊢
  have hl : lv_has ls 7 [(0, .ref (p0a 0)), (1, .ref (p1a 0))] := hl
  obtain ⟨H, hHe⟩ : ∃ H, H = s.heap := ⟨_, rfl⟩
  obtain ⟨locs, hle⟩ : ∃ locs : List Loc, locs = [] := ⟨_, rfl⟩
  rw [← hHe] at hP
  have hS : va_S A s.heap H locs := by rw [hHe, hle]; exact hS
  show W p l e ({ frames := 2, cells := 0, slots := 0, locals := 40 } : Room) s m ([.ref (p0a 0), .ref (p1a 0)] : List Value).toArray below meth c s.heap [] 0 0 Q (F0 m 0 ls [])
  rw [← hle]
  refine wH9 hHe ?_
  unfold fX5_useStandIns at hrun
  refine lv_aload_n hx hb dX5_useStandIns_0 rfl (lv_at hl 1 rfl) ?_
  refine va_get (D := (dC, dI)) (ci := 4) (v := .ref (p1a 3)) (C := RX1) (T := TX1) (N := 21) hx hb hts i_X1 hown hK hP 10 rfl rfl 2 (by decide) (hts _ qw435) (fun _ h9 => h9) rfl dX5_useStandIns_1 ?_
  refine lv_astore_n (lv' := [(2, .ref (p1a 3)), (0, .ref (p0a 0)), (1, .ref (p1a 0))]) hx hb dX5_useStandIns_4 rfl hl (by decide) rfl (fun ls hl => ?_)
  refine lv_iconst (v := 0) hx hb dX5_useStandIns_5 (by decide) ?_
  refine lv_istore_n (lv' := [(3, .int 0), (2, .ref (p1a 3)), (0, .ref (p0a 0)), (1, .ref (p1a 0))]) hx hb dX5_useStandIns_6 rfl hl (by decide) rfl (fun ls hl => ?_)
  have L7 : ∀ (n_7 : Nat) (v3_7 : Int32) (p1w_7 : ST) (p1_2w_7 : ST) (o7 : ST × ST) (H : Heap) (locs : List Loc) (ls : Array Slot), (fX5_useStandIns_L7 p0w p1n p1_2n n_7) v3_7 p1w_7 p1_2w_7 = some o7 → va_P (dC, dI) cls ((oX5 (p0a 0) p0a p0k p0w p0l) ++ (oX1 (p1a 0) p1a p1k p1n p1w_7 p1l) ++ (oX9 (p1a 3) p1_2a p1_2k p1_2n p1_2w_7)) H → va_D A ((oX5 (p0a 0) p0a p0k p0w p0l) ++ (oX1 (p1a 0) p1a p1k p1n p1w_7 p1l) ++ (oX9 (p1a 3) p1_2a p1_2k p1_2n p1_2w_7)) → va_K (dC, dI) cls ((tX5 p0k) ++ (tX1 p1k) ++ (tX9 p1_2k)) s → va_S A s.heap H locs → lv_has ls 7 [(0, .ref (p0a 0)), (1, .ref (p1a 0)), (2, .ref (p1a 3)), (3, .int v3_7)] → (∀ (H : Heap) (locs : List Loc) (ls : Array Slot), va_P (dC, dI) cls ((oX5 (p0a 0) p0a p0k p0w p0l) ++ (oX1 (p1a 0) p1a p1k p1n (o7.1) p1l) ++ (oX9 (p1a 3) p1_2a p1_2k p1_2n (o7.2))) H → va_D A ((oX5 (p0a 0) p0a p0k p0w p0l) ++ (oX1 (p1a 0) p1a p1k p1n (o7.1) p1l) ++ (oX9 (p1a 3) p1_2a p1_2k p1_2n (o7.2))) → va_K (dC, dI) cls ((tX5 p0k) ++ (tX1 p1k) ++ (tX9 p1_2k)) s → va_S A s.heap H locs → lv_has ls 7 [] → W p l e ({ frames := 2, cells := 0, slots := 0, locals := 40 } : Room) s m ([.ref (p0a 0), .ref (p1a 0)] : List Value).toArray below meth c H locs 0 0 Q (F0 m 206 ls [])) → W p l e ({ frames := 2, cells := 0, slots := 0, locals := 40 } : Room) s m ([.ref (p0a 0), .ref (p1a 0)] : List Value).toArray below meth c H locs 0 0 Q (F0 m 7 ls []) := by
    intro n_7
    induction n_7 with
    | zero => intro v3_7 p1w_7 p1_2w_7 o7 H locs ls hrun; exact (no9 rfl hrun).elim
    | succ n_7 IH7 =>
      intro v3_7 p1w_7 p1_2w_7 o7 H locs ls hrun hP hD hK hS hl hk7
      unfold fX5_useStandIns_L7 at hrun
      refine lv_iload_n hx hb dX5_useStandIns_7 rfl (lv_at hl 3 rfl) ?_
      refine lv_aload_n hx hb dX5_useStandIns_8 rfl (lv_at hl 1 rfl) ?_
      refine va_get (D := (dC, dI)) (ci := 4) (v := .int (p1w_7 0 0)) (C := RX1) (T := TX1) (N := 21) hx hb hts i_X1 hown hK hP 10 rfl rfl 0 (by decide) (hts _ qw430) (fun _ h9 => h9) rfl dX5_useStandIns_9 ?_
      rcases br9 hrun with ⟨hc1, hrun⟩ | ⟨hc1, hrun⟩
      · refine lv_icmp_ge (tgt := 206) hx hb dX5_useStandIns_12 (by decide) (fun _ => ?_) (fun c => absurd hc1 c)
        obtain rfl := (Option.some.inj hrun)
        exact hk7 _ _ _ hP hD hK hS (lv_sub hl [] rfl)
      · refine lv_icmp_ge (tgt := 206) hx hb dX5_useStandIns_12 (by decide) (fun c => absurd c hc1) (fun _ => ?_)
        refine lv_aload_n hx hb dX5_useStandIns_15 rfl (lv_at hl 1 rfl) ?_
        refine va_get (D := (dC, dI)) (ci := 4) (v := .ref (p1a 6)) (C := RX1) (T := TX1) (N := 21) hx hb hts i_X1 hown hK hP 10 rfl rfl 5 (by decide) (hts _ qw431) (fun _ h9 => h9) rfl dX5_useStandIns_16 ?_
        refine lv_iload_n hx hb dX5_useStandIns_19 rfl (lv_at hl 3 rfl) ?_
        obtain ⟨hq2, hrun⟩ := chk9 hrun
        refine va_iald hx hb hK hP 13 11 rfl rfl (ixb_in hq2) dX5_useStandIns_20 ?_
        refine lv_istore (lv' := [(4, .int (p1w_7 6 (nn v3_7))), (0, .ref (p0a 0)), (1, .ref (p1a 0)), (2, .ref (p1a 3)), (3, .int v3_7)]) hx hb dX5_useStandIns_21 hl (by decide) rfl (fun ls hl => ?_)
        have L23 : ∀ (n_23 : Nat) (v4_23 : Int32) (p1w_23 : ST) (o23 : ST) (H : Heap) (locs : List Loc) (ls : Array Slot), (fX5_useStandIns_L23 p0w p1n v3_7 n_23) v4_23 p1w_23 = some o23 → va_P (dC, dI) cls ((oX5 (p0a 0) p0a p0k p0w p0l) ++ (oX1 (p1a 0) p1a p1k p1n p1w_23 p1l) ++ (oX9 (p1a 3) p1_2a p1_2k p1_2n p1_2w_7)) H → va_D A ((oX5 (p0a 0) p0a p0k p0w p0l) ++ (oX1 (p1a 0) p1a p1k p1n p1w_23 p1l) ++ (oX9 (p1a 3) p1_2a p1_2k p1_2n p1_2w_7)) → va_K (dC, dI) cls ((tX5 p0k) ++ (tX1 p1k) ++ (tX9 p1_2k)) s → va_S A s.heap H locs → lv_has ls 7 [(0, .ref (p0a 0)), (1, .ref (p1a 0)), (2, .ref (p1a 3)), (3, .int v3_7), (4, .int v4_23)] → (∀ (H : Heap) (locs : List Loc) (ls : Array Slot), va_P (dC, dI) cls ((oX5 (p0a 0) p0a p0k p0w p0l) ++ (oX1 (p1a 0) p1a p1k p1n o23 p1l) ++ (oX9 (p1a 3) p1_2a p1_2k p1_2n p1_2w_7)) H → va_D A ((oX5 (p0a 0) p0a p0k p0w p0l) ++ (oX1 (p1a 0) p1a p1k p1n o23 p1l) ++ (oX9 (p1a 3) p1_2a p1_2k p1_2n p1_2w_7)) → va_K (dC, dI) cls ((tX5 p0k) ++ (tX1 p1k) ++ (tX9 p1_2k)) s → va_S A s.heap H locs → lv_has ls 7 [(0, .ref (p0a 0)), (1, .ref (p1a 0)), (2, .ref (p1a 3)), (3, .int v3_7)] → W p l e ({ frames := 2, cells := 0, slots := 0, locals := 40 } : Room) s m ([.ref (p0a 0), .ref (p1a 0)] : List Value).toArray below meth c H locs 0 0 Q (F0 m 88 ls [])) → W p l e ({ frames := 2, cells := 0, slots := 0, locals := 40 } : Room) s m ([.ref (p0a 0), .ref (p1a 0)] : List Value).toArray below meth c H locs 0 0 Q (F0 m 23 ls []) := by
          intro n_23
          induction n_23 with
          | zero => intro v4_23 p1w_23 o23 H locs ls hrun; exact (no9 rfl hrun).elim
          | succ n_23 IH23 =>
            intro v4_23 p1w_23 o23 H locs ls hrun hP hD hK hS hl hk23
            unfold fX5_useStandIns_L23 at hrun
            refine lv_iload hx hb dX5_useStandIns_23 (lv_at hl 4 rfl) ?_
            rcases br9 hrun with ⟨hc3, hrun⟩ | ⟨hc3, hrun⟩
            · refine lv_if_lt (tgt := 88) hx hb dX5_useStandIns_25 (by decide) (fun _ => ?_) (fun c => absurd hc3 c)
              obtain rfl := (Option.some.inj hrun)
              exact hk23 _ _ _ hP hD hK hS (lv_sub hl [0, 1, 2, 3] rfl)
            · refine lv_if_lt (tgt := 88) hx hb dX5_useStandIns_25 (by decide) (fun c => absurd c hc3) (fun _ => ?_)
              refine lv_iconst (v := 0) hx hb dX5_useStandIns_28 (by decide) ?_
              refine lv_istore (lv' := [(5, .int 0), (0, .ref (p0a 0)), (1, .ref (p1a 0)), (2, .ref (p1a 3)), (3, .int v3_7), (4, .int v4_23)]) hx hb dX5_useStandIns_29 hl (by decide) rfl (fun ls hl => ?_)
              have L31 : ∀ (n_31 : Nat) (v5_31 : Int32) (p1w_31 : ST) (o31 : ST) (H : Heap) (locs : List Loc) (ls : Array Slot), (fX5_useStandIns_L31 p0w p1n v3_7 v4_23 n_31) v5_31 p1w_31 = some o31 → va_P (dC, dI) cls ((oX5 (p0a 0) p0a p0k p0w p0l) ++ (oX1 (p1a 0) p1a p1k p1n p1w_31 p1l) ++ (oX9 (p1a 3) p1_2a p1_2k p1_2n p1_2w_7)) H → va_D A ((oX5 (p0a 0) p0a p0k p0w p0l) ++ (oX1 (p1a 0) p1a p1k p1n p1w_31 p1l) ++ (oX9 (p1a 3) p1_2a p1_2k p1_2n p1_2w_7)) → va_K (dC, dI) cls ((tX5 p0k) ++ (tX1 p1k) ++ (tX9 p1_2k)) s → va_S A s.heap H locs → lv_has ls 7 [(0, .ref (p0a 0)), (1, .ref (p1a 0)), (2, .ref (p1a 3)), (3, .int v3_7), (4, .int v4_23), (5, .int v5_31)] → (∀ (H : Heap) (locs : List Loc) (ls : Array Slot), va_P (dC, dI) cls ((oX5 (p0a 0) p0a p0k p0w p0l) ++ (oX1 (p1a 0) p1a p1k p1n o31 p1l) ++ (oX9 (p1a 3) p1_2a p1_2k p1_2n p1_2w_7)) H → va_D A ((oX5 (p0a 0) p0a p0k p0w p0l) ++ (oX1 (p1a 0) p1a p1k p1n o31 p1l) ++ (oX9 (p1a 3) p1_2a p1_2k p1_2n p1_2w_7)) → va_K (dC, dI) cls ((tX5 p0k) ++ (tX1 p1k) ++ (tX9 p1_2k)) s → va_S A s.heap H locs → lv_has ls 7 [(0, .ref (p0a 0)), (1, .ref (p1a 0)), (2, .ref (p1a 3)), (3, .int v3_7), (4, .int v4_23)] → W p l e ({ frames := 2, cells := 0, slots := 0, locals := 40 } : Room) s m ([.ref (p0a 0), .ref (p1a 0)] : List Value).toArray below meth c H locs 0 0 Q (F0 m 76 ls [])) → W p l e ({ frames := 2, cells := 0, slots := 0, locals := 40 } : Room) s m ([.ref (p0a 0), .ref (p1a 0)] : List Value).toArray below meth c H locs 0 0 Q (F0 m 31 ls []) := by
                intro n_31
                induction n_31 with
                | zero => intro v5_31 p1w_31 o31 H locs ls hrun; exact (no9 rfl hrun).elim
                | succ n_31 IH31 =>
                  intro v5_31 p1w_31 o31 H locs ls hrun hP hD hK hS hl hk31
                  unfold fX5_useStandIns_L31 at hrun
                  refine lv_iload hx hb dX5_useStandIns_31 (lv_at hl 5 rfl) ?_
                  refine lv_aload_n hx hb dX5_useStandIns_33 rfl (lv_at hl 1 rfl) ?_
                  refine lv_iload_n hx hb dX5_useStandIns_34 rfl (lv_at hl 3 rfl) ?_
                  obtain ⟨o_4, hc_4, hrun⟩ := bnd9 hrun
                  have hPc := hP.sub (ws' := (oX1 (p1a 0) p1a p1k p1n p1w_31 p1l)) [10, 11, 12, 13, 14, 15, 16, 17, 18, 19, 20, 21, 22, 23, 24, 25, 26, 27] rfl
                  have hDc := hD.sub (ws' := (oX1 (p1a 0) p1a p1k p1n p1w_31 p1l)) [10, 11, 12, 13, 14, 15, 16, 17, 18, 19, 20, 21, 22, 23, 24, 25, 26, 27] (by decide) rfl
                  have hKc := hK.sub (tys' := (tX1 p1k)) [9, 10, 11, 12, 13, 14, 15, 16, 17, 18, 19, 20, 21, 22, 23, 24, 25] rfl
                  have hFc := va_free (wc := (oX1 (p1a 0) p1a p1k p1n p1w_31 p1l)) hD hS hA [10, 11, 12, 13, 14, 15, 16, 17, 18, 19, 20, 21, 22, 23, 24, 25, 26, 27] rfl
                  refine va_calli (va_runV (As := [.int v3_7]) (rest := [.int v5_31]) ⟨hx, hb, hml, hown, hts⟩ (kX1_waysTo l dC dI (p0a := (st0 (p1a 0) p1a)) (p0k := p1k) (p0n := p1n) (p0w := p1w_31) (p0l := p1l) (p1 := v3_7) (sz := _) (o := o_4) (hrun := hc_4)) (cwV 1 hts (gi_V qw423 qw185 qw186 qw126 (gi_z qw183)) rfl rfl rfl (by decide +kernel) ⟨Nat.le_of_ble_eq_true rfl, Nat.le_of_ble_eq_true rfl⟩) ⟨PRE.blind, va_recv hKc hPc (ci := 4) (q0 := 0) rfl rfl, PRE.of hE hS hFc hPc hKc hDc⟩ rfl rfl hl.1 rfl (lv_room (Nat.le_of_ble_eq_true rfl)) dX5_useStandIns_35 ⟨(Nat.le_of_ble_eq_true rfl), (Nat.le_of_ble_eq_true rfl)⟩) hS (fun q _ h => hFc q h) hFc (fun r5 u t H locs ht hvm hw hB hz1 hk1 hS => ?_)
                  obtain ⟨hP, hD, hK⟩ := JOIN (wr := ((oX5 (p0a 0) p0a p0k p0w p0l) ++ (oX9 (p1a 3) p1_2a p1_2k p1_2n p1_2w_7))) hP hD hK [10, 11, 12, 13, 14, 15, 16, 17, 18, 19, 20, 21, 22, 23, 24, 25, 26, 27] [0, 1, 2, 3, 4, 5, 6, 7, 8, 9, 28, 29, 30, 31, 32, 33] [0, 1, 2, 3, 4, 5, 6, 7, 8, 26, 27, 28, 29, 30] rfl rfl (by decide) (by decide) rfl hk1 hFc ht hvm hB
                  have hP : va_P (dC, dI) cls ((oX5 (p0a 0) p0a p0k p0w p0l) ++ (oX1 (p1a 0) p1a p1k p1n p1w_31 p1l) ++ (oX9 (p1a 3) p1_2a p1_2k p1_2n p1_2w_7)) H := hP.sub [0, 1, 2, 3, 4, 5, 6, 7, 8, 9, 16, 17, 18, 19, 20, 21, 22, 23, 24, 25, 26, 27, 28, 29, 30, 31, 32, 33, 10, 11, 12, 13, 14, 15] rfl
                  have hD : va_D A ((oX5 (p0a 0) p0a p0k p0w p0l) ++ (oX1 (p1a 0) p1a p1k p1n p1w_31 p1l) ++ (oX9 (p1a 3) p1_2a p1_2k p1_2n p1_2w_7)) := hD.sub [0, 1, 2, 3, 4, 5, 6, 7, 8, 9, 16, 17, 18, 19, 20, 21, 22, 23, 24, 25, 26, 27, 28, 29, 30, 31, 32, 33, 10, 11, 12, 13, 14, 15] (by decide) rfl
                  have hK : va_K (dC, dI) cls ((tX5 p0k) ++ (tX1 p1k) ++ (tX9 p1_2k)) s := hK.sub [0, 1, 2, 3, 4, 5, 6, 7, 8, 14, 15, 16, 17, 18, 19, 20, 21, 22, 23, 24, 25, 26, 27, 28, 29, 30, 9, 10, 11, 12, 13] rfl
                  obtain rfl : o_4 = r5 := hw.symm
                  rcases br9 hrun with ⟨hc6, hrun⟩ | ⟨hc6, hrun⟩
                  · refine lv_icmp_ge (tgt := 76) hx hb dX5_useStandIns_38 (by decide) (fun _ => ?_) (fun c => absurd hc6 c)
                    obtain rfl := (Option.some.inj hrun)
                    exact hk31 _ _ _ hP hD hK hS (lv_sub hl [0, 1, 2, 3, 4] rfl)
                  · refine lv_icmp_ge (tgt := 76) hx hb dX5_useStandIns_38 (by decide) (fun c => absurd c hc6) (fun _ => ?_)
                    refine lv_aload_n hx hb dX5_useStandIns_41 rfl (lv_at hl 1 rfl) ?_
                    refine lv_iload_n hx hb dX5_useStandIns_42 rfl (lv_at hl 3 rfl) ?_
                    refine lv_iload hx hb dX5_useStandIns_43 (lv_at hl 5 rfl) ?_
                    obtain ⟨o_7, hc_7, hrun⟩ := bnd9 hrun
                    have hPc := hP.sub (ws' := (oX1 (p1a 0) p1a p1k p1n p1w_31 p1l)) [10, 11, 12, 13, 14, 15, 16, 17, 18, 19, 20, 21, 22, 23, 24, 25, 26, 27] rfl
                    have hDc := hD.sub (ws' := (oX1 (p1a 0) p1a p1k p1n p1w_31 p1l)) [10, 11, 12, 13, 14, 15, 16, 17, 18, 19, 20, 21, 22, 23, 24, 25, 26, 27] (by decide) rfl
                    have hKc := hK.sub (tys' := (tX1 p1k)) [9, 10, 11, 12, 13, 14, 15, 16, 17, 18, 19, 20, 21, 22, 23, 24, 25] rfl
                    have hFc := va_free (wc := (oX1 (p1a 0) p1a p1k p1n p1w_31 p1l)) hD hS hA [10, 11, 12, 13, 14, 15, 16, 17, 18, 19, 20, 21, 22, 23, 24, 25, 26, 27] rfl
                    refine va_calli (va_runV (As := [.int v3_7, .int v5_31]) (rest := []) ⟨hx, hb, hml, hown, hts⟩ (kX1_wayFrom l dC dI (p0a := (st0 (p1a 0) p1a)) (p0k := p1k) (p0n := p1n) (p0w := p1w_31) (p0l := p1l) (p1 := v3_7) (p2 := v5_31) (sz := _) (o := o_7) (hrun := hc_7)) (cwV 2 hts (gi_V qw424 qw189 qw190 qw126 (gi_z qw187)) rfl rfl rfl (by decide +kernel) ⟨Nat.le_of_ble_eq_true rfl, Nat.le_of_ble_eq_true rfl⟩) ⟨PRE.blind, va_recv hKc hPc (ci := 4) (q0 := 0) rfl rfl, PRE.of hE hS hFc hPc hKc hDc⟩ rfl rfl hl.1 rfl (lv_room (Nat.le_of_ble_eq_true rfl)) dX5_useStandIns_45 ⟨(Nat.le_of_ble_eq_true rfl), (Nat.le_of_ble_eq_true rfl)⟩) hS (fun q _ h => hFc q h) hFc (fun r8 u t H locs ht hvm hw hB hz1 hk1 hS => ?_)
                    obtain ⟨hP, hD, hK⟩ := JOIN (wr := ((oX5 (p0a 0) p0a p0k p0w p0l) ++ (oX9 (p1a 3) p1_2a p1_2k p1_2n p1_2w_7))) hP hD hK [10, 11, 12, 13, 14, 15, 16, 17, 18, 19, 20, 21, 22, 23, 24, 25, 26, 27] [0, 1, 2, 3, 4, 5, 6, 7, 8, 9, 28, 29, 30, 31, 32, 33] [0, 1, 2, 3, 4, 5, 6, 7, 8, 26, 27, 28, 29, 30] rfl rfl (by decide) (by decide) rfl hk1 hFc ht hvm hB
                    have hP : va_P (dC, dI) cls ((oX5 (p0a 0) p0a p0k p0w p0l) ++ (oX1 (p1a 0) p1a p1k p1n p1w_31 p1l) ++ (oX9 (p1a 3) p1_2a p1_2k p1_2n p1_2w_7)) H := hP.sub [0, 1, 2, 3, 4, 5, 6, 7, 8, 9, 16, 17, 18, 19, 20, 21, 22, 23, 24, 25, 26, 27, 28, 29, 30, 31, 32, 33, 10, 11, 12, 13, 14, 15] rfl
                    have hD : va_D A ((oX5 (p0a 0) p0a p0k p0w p0l) ++ (oX1 (p1a 0) p1a p1k p1n p1w_31 p1l) ++ (oX9 (p1a 3) p1_2a p1_2k p1_2n p1_2w_7)) := hD.sub [0, 1, 2, 3, 4, 5, 6, 7, 8, 9, 16, 17, 18, 19, 20, 21, 22, 23, 24, 25, 26, 27, 28, 29, 30, 31, 32, 33, 10, 11, 12, 13, 14, 15] (by decide) rfl
                    have hK : va_K (dC, dI) cls ((tX5 p0k) ++ (tX1 p1k) ++ (tX9 p1_2k)) s := hK.sub [0, 1, 2, 3, 4, 5, 6, 7, 8, 14, 15, 16, 17, 18, 19, 20, 21, 22, 23, 24, 25, 26, 27, 28, 29, 30, 9, 10, 11, 12, 13] rfl
                    obtain rfl : o_7 = r8 := hw.symm
                    refine lv_istore (lv' := [(6, .int o_7), (0, .ref (p0a 0)), (1, .ref (p1a 0)), (2, .ref (p1a 3)), (3, .int v3_7), (4, .int v4_23), (5, .int v5_31)]) hx hb dX5_useStandIns_48 hl (by decide) rfl (fun ls hl => ?_)
                    refine lv_aload_n hx hb dX5_useStandIns_50 rfl (lv_at hl 2 rfl) ?_
                    refine lv_iload hx hb dX5_useStandIns_51 (lv_at hl 5 rfl) ?_
                    refine lv_iload hx hb dX5_useStandIns_53 (lv_at hl 0 rfl) ?_
                    refine lv_aload_n hx hb dX5_useStandIns_55 rfl (lv_at hl 1 rfl) ?_
                    refine lv_aload_n hx hb dX5_useStandIns_56 rfl (lv_at hl 2 rfl) ?_
                    refine lv_iload hx hb dX5_useStandIns_57 (lv_at hl 5 rfl) ?_
                    refine lv_iload hx hb dX5_useStandIns_59 (lv_at hl 0 rfl) ?_
                    obtain ⟨o_9, hc_9, hrun⟩ := bnd9 hrun
                    have hPc := hP.sub (ws' := (oX1 (p1a 0) p1a p1k p1n p1w_31 p1l)) [10, 11, 12, 13, 14, 15, 16, 17, 18, 19, 20, 21, 22, 23, 24, 25, 26, 27] rfl
                    have hDc := hD.sub (ws' := (oX1 (p1a 0) p1a p1k p1n p1w_31 p1l)) [10, 11, 12, 13, 14, 15, 16, 17, 18, 19, 20, 21, 22, 23, 24, 25, 26, 27] (by decide) rfl
                    have hKc := hK.sub (tys' := (tX1 p1k)) [9, 10, 11, 12, 13, 14, 15, 16, 17, 18, 19, 20, 21, 22, 23, 24, 25] rfl
                    have hFc := va_free (wc := (oX1 (p1a 0) p1a p1k p1n p1w_31 p1l)) hD hS hA [10, 11, 12, 13, 14, 15, 16, 17, 18, 19, 20, 21, 22, 23, 24, 25, 26, 27] rfl
                    refine va_calli (va_runV (As := [.int v4_23, .int o_7]) (rest := [.ref (p0a 0), .int o_7, .int v4_23, .ref (p1a 0)]) ⟨hx, hb, hml, hown, hts⟩ (kX1_take l dC dI (p0a := (st0 (p1a 0) p1a)) (p0k := p1k) (p0n := p1n) (p0w := p1w_31) (p0l := p1l) (p1 := v4_23) (p2 := o_7) (sz := _) (o := o_9) (hrun := hc_9)) (cwV 2 hts (gi_V qw469 qw470 qw471 qw126 (gi_z qw468)) rfl rfl rfl (by decide +kernel) ⟨Nat.le_of_ble_eq_true rfl, Nat.le_of_ble_eq_true rfl⟩) ⟨PRE.blind, va_recv hKc hPc (ci := 4) (q0 := 0) rfl rfl, PRE.of hE hS hFc hPc hKc hDc⟩ rfl rfl hl.1 rfl (lv_room (Nat.le_of_ble_eq_true rfl)) dX5_useStandIns_61 ⟨(Nat.le_of_ble_eq_true rfl), (Nat.le_of_ble_eq_true rfl)⟩) hS (fun q _ h => hFc q h) hFc (fun r10 u t H locs ht hvm hw hB hz1 hk1 hS => ?_)
                    obtain ⟨hP, hD, hK⟩ := JOIN (wr := ((oX5 (p0a 0) p0a p0k p0w p0l) ++ (oX9 (p1a 3) p1_2a p1_2k p1_2n p1_2w_7))) hP hD hK [10, 11, 12, 13, 14, 15, 16, 17, 18, 19, 20, 21, 22, 23, 24, 25, 26, 27] [0, 1, 2, 3, 4, 5, 6, 7, 8, 9, 28, 29, 30, 31, 32, 33] [0, 1, 2, 3, 4, 5, 6, 7, 8, 26, 27, 28, 29, 30] rfl rfl (by decide) (by decide) rfl hk1 hFc ht hvm hB
                    have hP : va_P (dC, dI) cls ((oX5 (p0a 0) p0a p0k p0w p0l) ++ (oX1 (p1a 0) p1a p1k p1n p1w_31 p1l) ++ (oX9 (p1a 3) p1_2a p1_2k p1_2n p1_2w_7)) H := hP.sub [0, 1, 2, 3, 4, 5, 6, 7, 8, 9, 16, 17, 18, 19, 20, 21, 22, 23, 24, 25, 26, 27, 28, 29, 30, 31, 32, 33, 10, 11, 12, 13, 14, 15] rfl
                    have hD : va_D A ((oX5 (p0a 0) p0a p0k p0w p0l) ++ (oX1 (p1a 0) p1a p1k p1n p1w_31 p1l) ++ (oX9 (p1a 3) p1_2a p1_2k p1_2n p1_2w_7)) := hD.sub [0, 1, 2, 3, 4, 5, 6, 7, 8, 9, 16, 17, 18, 19, 20, 21, 22, 23, 24, 25, 26, 27, 28, 29, 30, 31, 32, 33, 10, 11, 12, 13, 14, 15] (by decide) rfl
                    have hK : va_K (dC, dI) cls ((tX5 p0k) ++ (tX1 p1k) ++ (tX9 p1_2k)) s := hK.sub [0, 1, 2, 3, 4, 5, 6, 7, 8, 14, 15, 16, 17, 18, 19, 20, 21, 22, 23, 24, 25, 26, 27, 28, 29, 30, 9, 10, 11, 12, 13] rfl
                    obtain rfl : o_9 = r10 := hw.symm
                    obtain ⟨o_11, hc_11, hrun⟩ := bnd9 hrun
                    have hPc := hP.sub (ws' := (oX5 (p0a 0) p0a p0k p0w p0l)) [0, 1, 2, 3, 4, 5, 6, 7, 8, 9] rfl
                    have hDc := hD.sub (ws' := (oX5 (p0a 0) p0a p0k p0w p0l)) [0, 1, 2, 3, 4, 5, 6, 7, 8, 9] (by decide) rfl
                    have hKc := hK.sub (tys' := (tX5 p0k)) [0, 1, 2, 3, 4, 5, 6, 7, 8] rfl
                    have hFc := va_free (wc := (oX5 (p0a 0) p0a p0k p0w p0l)) hD hS hA [0, 1, 2, 3, 4, 5, 6, 7, 8, 9] rfl
                    refine va_calli (va_runV (As := [.int o_9]) (rest := [.int o_7, .int v4_23, .ref (p1a 0)]) ⟨hx, hb, hml, hown, hts⟩ (kX5_standInOf l dC dI (p0a := (st0 (p0a 0) p0a)) (p0k := p0k) (p0w := p0w) (p0l := p0l) (p1 := o_9) (sz := _) (o := o_11) (hrun := hc_11)) (cwV 1 hts (gi_V qw541 qw542 qw543 qw442 (gi_z qw540)) rfl rfl rfl (by decide +kernel) ⟨Nat.le_of_ble_eq_true rfl, Nat.le_of_ble_eq_true rfl⟩) ⟨PRE.blind, va_recv hKc hPc (ci := 7) (q0 := 0) rfl rfl, PRE.of hE hS hFc hPc hKc hDc⟩ rfl rfl hl.1 rfl (lv_room (Nat.le_of_ble_eq_true rfl)) dX5_useStandIns_64 ⟨(Nat.le_of_ble_eq_true rfl), (Nat.le_of_ble_eq_true rfl)⟩) hS (fun q _ h => hFc q h) hFc (fun r12 u t H locs ht hvm hw hB hz1 hk1 hS => ?_)
                    obtain ⟨hP, hD, hK⟩ := JOIN (wr := ((oX1 (p1a 0) p1a p1k p1n p1w_31 p1l) ++ (oX9 (p1a 3) p1_2a p1_2k p1_2n p1_2w_7))) hP hD hK [0, 1, 2, 3, 4, 5, 6, 7, 8, 9] [10, 11, 12, 13, 14, 15, 16, 17, 18, 19, 20, 21, 22, 23, 24, 25, 26, 27, 28, 29, 30, 31, 32, 33] [9, 10, 11, 12, 13, 14, 15, 16, 17, 18, 19, 20, 21, 22, 23, 24, 25, 26, 27, 28, 29, 30] rfl rfl (by decide) (by decide) rfl hk1 hFc ht hvm hB
                    have hP : va_P (dC, dI) cls ((oX5 (p0a 0) p0a p0k p0w p0l) ++ (oX1 (p1a 0) p1a p1k p1n p1w_31 p1l) ++ (oX9 (p1a 3) p1_2a p1_2k p1_2n p1_2w_7)) H := hP.sub [24, 25, 26, 27, 28, 29, 30, 31, 32, 33, 0, 1, 2, 3, 4, 5, 6, 7, 8, 9, 10, 11, 12, 13, 14, 15, 16, 17, 18, 19, 20, 21, 22, 23] rfl
                    have hD : va_D A ((oX5 (p0a 0) p0a p0k p0w p0l) ++ (oX1 (p1a 0) p1a p1k p1n p1w_31 p1l) ++ (oX9 (p1a 3) p1_2a p1_2k p1_2n p1_2w_7)) := hD.sub [24, 25, 26, 27, 28, 29, 30, 31, 32, 33, 0, 1, 2, 3, 4, 5, 6, 7, 8, 9, 10, 11, 12, 13, 14, 15, 16, 17, 18, 19, 20, 21, 22, 23] (by decide) rfl
                    have hK : va_K (dC, dI) cls ((tX5 p0k) ++ (tX1 p1k) ++ (tX9 p1_2k)) s := hK.sub [22, 23, 24, 25, 26, 27, 28, 29, 30, 0, 1, 2, 3, 4, 5, 6, 7, 8, 9, 10, 11, 12, 13, 14, 15, 16, 17, 18, 19, 20, 21] rfl
                    obtain rfl : o_11 = r12 := hw.symm
                    obtain ⟨o_13, hc_13, hrun⟩ := bnd9 hrun
                    have hPc := hP.sub (ws' := (oX1 (p1a 0) p1a p1k p1n p1w_31 p1l)) [10, 11, 12, 13, 14, 15, 16, 17, 18, 19, 20, 21, 22, 23, 24, 25, 26, 27] rfl
                    have hDc := hD.sub (ws' := (oX1 (p1a 0) p1a p1k p1n p1w_31 p1l)) [10, 11, 12, 13, 14, 15, 16, 17, 18, 19, 20, 21, 22, 23, 24, 25, 26, 27] (by decide) rfl
                    have hKc := hK.sub (tys' := (tX1 p1k)) [9, 10, 11, 12, 13, 14, 15, 16, 17, 18, 19, 20, 21, 22, 23, 24, 25] rfl
                    have hFc := va_free (wc := (oX1 (p1a 0) p1a p1k p1n p1w_31 p1l)) hD hS hA [10, 11, 12, 13, 14, 15, 16, 17, 18, 19, 20, 21, 22, 23, 24, 25, 26, 27] rfl
                    refine va_callv (va_runV (As := [.int v4_23, .int o_7, .int o_11]) (rest := []) ⟨hx, hb, hml, hown, hts⟩ (kX1_setTake l dC dI (p0a := (st0 (p1a 0) p1a)) (p0k := p1k) (p0n := p1n) (p0w := p1w_31) (p0l := p1l) (p1 := v4_23) (p2 := o_7) (p3 := o_11) (sz := _) (o := o_13) (hrun := hc_13)) (cwV 3 hts (gi_V qw590 qw318 qw319 qw126 (gi_z qw316)) rfl rfl rfl (by decide +kernel) ⟨Nat.le_of_ble_eq_true rfl, Nat.le_of_ble_eq_true rfl⟩) ⟨PRE.blind, va_recv hKc hPc (ci := 4) (q0 := 0) rfl rfl, PRE.of hE hS hFc hPc hKc hDc⟩ rfl rfl hl.1 rfl (lv_room (Nat.le_of_ble_eq_true rfl)) dX5_useStandIns_67 ⟨(Nat.le_of_ble_eq_true rfl), (Nat.le_of_ble_eq_true rfl)⟩) hS (fun q _ h => hFc q h) hFc (fun u t H locs ht hvm hw hB hz1 hk1 hS => ?_)
                    obtain ⟨hP, hD, hK⟩ := JOIN (wr := ((oX5 (p0a 0) p0a p0k p0w p0l) ++ (oX9 (p1a 3) p1_2a p1_2k p1_2n p1_2w_7))) hP hD hK [10, 11, 12, 13, 14, 15, 16, 17, 18, 19, 20, 21, 22, 23, 24, 25, 26, 27] [0, 1, 2, 3, 4, 5, 6, 7, 8, 9, 28, 29, 30, 31, 32, 33] [0, 1, 2, 3, 4, 5, 6, 7, 8, 26, 27, 28, 29, 30] rfl rfl (by decide) (by decide) rfl hk1 hFc ht hvm hB
                    have hP : va_P (dC, dI) cls ((oX5 (p0a 0) p0a p0k p0w p0l) ++ (oX1 (p1a 0) p1a p1k p1n o_13 p1l) ++ (oX9 (p1a 3) p1_2a p1_2k p1_2n p1_2w_7)) H := hP.sub [0, 1, 2, 3, 4, 5, 6, 7, 8, 9, 16, 17, 18, 19, 20, 21, 22, 23, 24, 25, 26, 27, 28, 29, 30, 31, 32, 33, 10, 11, 12, 13, 14, 15] rfl
                    have hD : va_D A ((oX5 (p0a 0) p0a p0k p0w p0l) ++ (oX1 (p1a 0) p1a p1k p1n o_13 p1l) ++ (oX9 (p1a 3) p1_2a p1_2k p1_2n p1_2w_7)) := hD.sub [0, 1, 2, 3, 4, 5, 6, 7, 8, 9, 16, 17, 18, 19, 20, 21, 22, 23, 24, 25, 26, 27, 28, 29, 30, 31, 32, 33, 10, 11, 12, 13, 14, 15] (by decide) rfl
                    have hK : va_K (dC, dI) cls ((tX5 p0k) ++ (tX1 p1k) ++ (tX9 p1_2k)) s := hK.sub [0, 1, 2, 3, 4, 5, 6, 7, 8, 14, 15, 16, 17, 18, 19, 20, 21, 22, 23, 24, 25, 26, 27, 28, 29, 30, 9, 10, 11, 12, 13] rfl
                    refine lv_iinc (v := (v5_31 + 1)) (lv' := [(5, .int (v5_31 + 1)), (6, .int o_7), (0, .ref (p0a 0)), (1, .ref (p1a 0)), (2, .ref (p1a 3)), (3, .int v3_7), (4, .int v4_23)]) hx hb dX5_useStandIns_70 hl (k := 6) rfl rfl (by decide) rfl (fun ls hl => ?_)
                    refine lv_goto (tgt := 31) hx hb dX5_useStandIns_73 (by decide) ?_
                    exact IH31 (v5_31 + 1) o_13 o31 _ _ _ hrun hP hD hK hS (lv_sub hl [2, 3, 4, 5, 6, 0] rfl) hk31
              obtain ⟨o31, hc31, hrun⟩ := bnd9 hrun
              refine L31 NF 0 p1w_23 o31 _ _ _ hc31 hP hD hK hS (lv_sub hl [1, 2, 3, 4, 5, 0] rfl) ?_
              intro H locs ls hP hD hK hS hl
              have hl := hl
              refine lv_aload_n hx hb dX5_useStandIns_76 rfl (lv_at hl 1 rfl) ?_
              refine va_get (D := (dC, dI)) (ci := 4) (v := .ref (p1a 20)) (C := RX1) (T := TX1) (N := 21) hx hb hts i_X1 hown hK hP 10 rfl rfl 19 (by decide) (hts _ qw433) (fun _ h9 => h9) rfl dX5_useStandIns_77 ?_
              refine lv_iload hx hb dX5_useStandIns_80 (lv_at hl 4 rfl) ?_
              obtain ⟨hq14, hrun⟩ := chk9 hrun
              refine va_iald hx hb hK hP 26 24 rfl rfl (ixb_in hq14) dX5_useStandIns_82 ?_
              refine lv_istore (lv' := [(4, .int (o31 20 (nn v4_23))), (0, .ref (p0a 0)), (1, .ref (p1a 0)), (2, .ref (p1a 3)), (3, .int v3_7)]) hx hb dX5_useStandIns_83 hl (by decide) rfl (fun ls hl => ?_)
              refine lv_goto (tgt := 23) hx hb dX5_useStandIns_85 (by decide) ?_
              exact IH23 (o31 20 (nn v4_23)) o31 o23 _ _ _ hrun hP hD hK hS (lv_sub hl [1, 2, 3, 4, 0] rfl) hk23
        obtain ⟨o23, hc23, hrun⟩ := bnd9 hrun
        refine L23 NF (p1w_7 6 (nn v3_7)) p1w_7 o23 _ _ _ hc23 hP hD hK hS (lv_sub hl [1, 2, 3, 4, 0] rfl) ?_
        intro H locs ls hP hD hK hS hl
        have hl := hl
        refine lv_aload_n hx hb dX5_useStandIns_88 rfl (lv_at hl 1 rfl) ?_
        refine va_get (D := (dC, dI)) (ci := 4) (v := .ref (p1a 4)) (C := RX1) (T := TX1) (N := 21) hx hb hts i_X1 hown hK hP 10 rfl rfl 3 (by decide) (hts _ qw434) (fun _ h9 => h9) rfl dX5_useStandIns_89 ?_
        refine lv_iload_n hx hb dX5_useStandIns_92 rfl (lv_at hl 3 rfl) ?_
        obtain ⟨hq15, hrun⟩ := chk9 hrun
        refine va_iald hx hb hK hP 11 9 rfl rfl (ixb_in hq15) dX5_useStandIns_93 ?_
        refine lv_istore (lv' := [(4, .int (o23 4 (nn v3_7))), (0, .ref (p0a 0)), (1, .ref (p1a 0)), (2, .ref (p1a 3)), (3, .int v3_7)]) hx hb dX5_useStandIns_94 hl (by decide) rfl (fun ls hl => ?_)
        have L96 : ∀ (n_96 : Nat) (v4_96 : Int32) (p1_2w_96 : ST) (o96 : ST) (H : Heap) (locs : List Loc) (ls : Array Slot), (fX5_useStandIns_L96 p0w p1_2n n_96) v4_96 p1_2w_96 = some o96 → va_P (dC, dI) cls ((oX5 (p0a 0) p0a p0k p0w p0l) ++ (oX1 (p1a 0) p1a p1k p1n o23 p1l) ++ (oX9 (p1a 3) p1_2a p1_2k p1_2n p1_2w_96)) H → va_D A ((oX5 (p0a 0) p0a p0k p0w p0l) ++ (oX1 (p1a 0) p1a p1k p1n o23 p1l) ++ (oX9 (p1a 3) p1_2a p1_2k p1_2n p1_2w_96)) → va_K (dC, dI) cls ((tX5 p0k) ++ (tX1 p1k) ++ (tX9 p1_2k)) s → va_S A s.heap H locs → lv_has ls 7 [(0, .ref (p0a 0)), (1, .ref (p1a 0)), (2, .ref (p1a 3)), (3, .int v3_7), (4, .int v4_96)] → (∀ (H : Heap) (locs : List Loc) (ls : Array Slot), va_P (dC, dI) cls ((oX5 (p0a 0) p0a p0k p0w p0l) ++ (oX1 (p1a 0) p1a p1k p1n o23 p1l) ++ (oX9 (p1a 3) p1_2a p1_2k p1_2n o96)) H → va_D A ((oX5 (p0a 0) p0a p0k p0w p0l) ++ (oX1 (p1a 0) p1a p1k p1n o23 p1l) ++ (oX9 (p1a 3) p1_2a p1_2k p1_2n o96)) → va_K (dC, dI) cls ((tX5 p0k) ++ (tX1 p1k) ++ (tX9 p1_2k)) s → va_S A s.heap H locs → lv_has ls 7 [(0, .ref (p0a 0)), (1, .ref (p1a 0)), (2, .ref (p1a 3)), (3, .int v3_7)] → W p l e ({ frames := 2, cells := 0, slots := 0, locals := 40 } : Room) s m ([.ref (p0a 0), .ref (p1a 0)] : List Value).toArray below meth c H locs 0 0 Q (F0 m 175 ls [])) → W p l e ({ frames := 2, cells := 0, slots := 0, locals := 40 } : Room) s m ([.ref (p0a 0), .ref (p1a 0)] : List Value).toArray below meth c H locs 0 0 Q (F0 m 96 ls []) := by
          intro n_96
          induction n_96 with
          | zero => intro v4_96 p1_2w_96 o96 H locs ls hrun; exact (no9 rfl hrun).elim
          | succ n_96 IH96 =>
            intro v4_96 p1_2w_96 o96 H locs ls hrun hP hD hK hS hl hk96
            unfold fX5_useStandIns_L96 at hrun
            refine lv_iload hx hb dX5_useStandIns_96 (lv_at hl 4 rfl) ?_
            rcases br9 hrun with ⟨hc16, hrun⟩ | ⟨hc16, hrun⟩
            · refine lv_if_lt (tgt := 175) hx hb dX5_useStandIns_98 (by decide) (fun _ => ?_) (fun c => absurd hc16 c)
              obtain rfl := (Option.some.inj hrun)
              exact hk96 _ _ _ hP hD hK hS (lv_sub hl [0, 1, 2, 3] rfl)
            · refine lv_if_lt (tgt := 175) hx hb dX5_useStandIns_98 (by decide) (fun c => absurd c hc16) (fun _ => ?_)
              refine lv_aload_n hx hb dX5_useStandIns_101 rfl (lv_at hl 2 rfl) ?_
              refine va_get (D := (dC, dI)) (ci := 3) (v := .ref (p1_2a 2)) (C := RX9) (T := TX9) (N := 6) hx hb hts i_X9 hown hK hP 28 rfl rfl 1 (by decide) (hts _ qw420) (fun _ h9 => h9) rfl dX5_useStandIns_102 ?_
              refine lv_iload hx hb dX5_useStandIns_105 (lv_at hl 4 rfl) ?_
              obtain ⟨hq17, hrun⟩ := chk9 hrun
              refine va_iald hx hb hK hP 29 26 rfl rfl (ixb_in hq17) dX5_useStandIns_107 ?_
              obtain ⟨o_18, hc_18, hrun⟩ := bnd9 hrun
              have hPc := hP.sub (ws' := ([] : va_W)) [] rfl
              have hDc := hD.sub (ws' := ([] : va_W)) [] (by decide) rfl
              have hKc := hK.sub (tys' := ([] : List (ClassId × FieldType))) [] rfl
              have hFc := va_free (wc := ([] : va_W)) hD hS hA [] rfl
              refine va_calli (va_runSN (As := [.int (p1_2w_96 2 (nn v4_96))]) (rest := []) ⟨hx, hb, hml, hown, hts⟩ (kX11_usesLeft l dC dI (p0 := (p1_2w_96 2 (nn v4_96))) (sz := _) (o := o_18) (hrun := hc_18)) ⟨(va_cnB 1 hts (gi_z qw446) rfl rfl rfl (hE.nw (List.mem_append_right _ (tbl_8 (i := 41) rfl)) rfl) (hts _ qw129) (by decide +kernel) ⟨Nat.le_of_ble_eq_true rfl, Nat.le_of_ble_eq_true rfl⟩), (hts _ qw447), trivial⟩ ⟨PRE.blind, PRE.of hE hS hFc hPc hKc hDc⟩ rfl rfl hl.1 rfl (lv_room (Nat.le_of_ble_eq_true rfl)) dX5_useStandIns_108 ⟨(Nat.le_of_ble_eq_true rfl), (Nat.le_of_ble_eq_true rfl)⟩) hS (fun q _ h => hFc q h) hFc (fun r19 u t H locs ht hvm hw hB hz1 hk1 hS => ?_)
              obtain ⟨hP, hD, hK⟩ := JOIN (wr := ((oX5 (p0a 0) p0a p0k p0w p0l) ++ (oX1 (p1a 0) p1a p1k p1n o23 p1l) ++ (oX9 (p1a 3) p1_2a p1_2k p1_2n p1_2w_96))) hP hD hK [] [0, 1, 2, 3, 4, 5, 6, 7, 8, 9, 10, 11, 12, 13, 14, 15, 16, 17, 18, 19, 20, 21, 22, 23, 24, 25, 26, 27, 28, 29, 30, 31, 32, 33] [0, 1, 2, 3, 4, 5, 6, 7, 8, 9, 10, 11, 12, 13, 14, 15, 16, 17, 18, 19, 20, 21, 22, 23, 24, 25, 26, 27, 28, 29, 30] rfl rfl (by decide) (by decide) rfl hk1 hFc ht hvm hB
              have hP : va_P (dC, dI) cls ((oX5 (p0a 0) p0a p0k p0w p0l) ++ (oX1 (p1a 0) p1a p1k p1n o23 p1l) ++ (oX9 (p1a 3) p1_2a p1_2k p1_2n p1_2w_96)) H := hP.sub [0, 1, 2, 3, 4, 5, 6, 7, 8, 9, 10, 11, 12, 13, 14, 15, 16, 17, 18, 19, 20, 21, 22, 23, 24, 25, 26, 27, 28, 29, 30, 31, 32, 33] rfl
              have hD : va_D A ((oX5 (p0a 0) p0a p0k p0w p0l) ++ (oX1 (p1a 0) p1a p1k p1n o23 p1l) ++ (oX9 (p1a 3) p1_2a p1_2k p1_2n p1_2w_96)) := hD.sub [0, 1, 2, 3, 4, 5, 6, 7, 8, 9, 10, 11, 12, 13, 14, 15, 16, 17, 18, 19, 20, 21, 22, 23, 24, 25, 26, 27, 28, 29, 30, 31, 32, 33] (by decide) rfl
              have hK : va_K (dC, dI) cls ((tX5 p0k) ++ (tX1 p1k) ++ (tX9 p1_2k)) s := hK.sub [0, 1, 2, 3, 4, 5, 6, 7, 8, 9, 10, 11, 12, 13, 14, 15, 16, 17, 18, 19, 20, 21, 22, 23, 24, 25, 26, 27, 28, 29, 30] rfl
              obtain rfl : o_18 = r19 := hw.symm
              have J132 : ∀ (p1_2w_132 : ST) (H : Heap) (locs : List Loc) (ls : Array Slot), (fX5_useStandIns_J132 (fX5_useStandIns_L96 p0w p1_2n n_96) p0w p1_2n v4_96 p1_2w_132) = some o96 → va_P (dC, dI) cls ((oX5 (p0a 0) p0a p0k p0w p0l) ++ (oX1 (p1a 0) p1a p1k p1n o23 p1l) ++ (oX9 (p1a 3) p1_2a p1_2k p1_2n p1_2w_132)) H → va_D A ((oX5 (p0a 0) p0a p0k p0w p0l) ++ (oX1 (p1a 0) p1a p1k p1n o23 p1l) ++ (oX9 (p1a 3) p1_2a p1_2k p1_2n p1_2w_132)) → va_K (dC, dI) cls ((tX5 p0k) ++ (tX1 p1k) ++ (tX9 p1_2k)) s → va_S A s.heap H locs → lv_has ls 7 [(0, .ref (p0a 0)), (1, .ref (p1a 0)), (2, .ref (p1a 3)), (3, .int v3_7), (4, .int v4_96)] → W p l e ({ frames := 2, cells := 0, slots := 0, locals := 40 } : Room) s m ([.ref (p0a 0), .ref (p1a 0)] : List Value).toArray below meth c H locs 0 0 Q (F0 m 132 ls []) := by
                intro p1_2w_132 H locs ls hrun hP hD hK hS hl 
                unfold fX5_useStandIns_J132 at hrun
                refine lv_aload_n hx hb dX5_useStandIns_132 rfl (lv_at hl 2 rfl) ?_
                refine va_get (D := (dC, dI)) (ci := 3) (v := .ref (p1_2a 2)) (C := RX9) (T := TX9) (N := 6) hx hb hts i_X9 hown hK hP 28 rfl rfl 1 (by decide) (hts _ qw420) (fun _ h9 => h9) rfl dX5_useStandIns_133 ?_
                refine lv_iload hx hb dX5_useStandIns_136 (lv_at hl 4 rfl) ?_
                obtain ⟨hq20, hrun⟩ := chk9 hrun
                refine va_iald hx hb hK hP 29 26 rfl rfl (ixb_in hq20) dX5_useStandIns_138 ?_
                obtain ⟨o_21, hc_21, hrun⟩ := bnd9 hrun
                have hPc := hP.sub (ws' := ([] : va_W)) [] rfl
                have hDc := hD.sub (ws' := ([] : va_W)) [] (by decide) rfl
                have hKc := hK.sub (tys' := ([] : List (ClassId × FieldType))) [] rfl
                have hFc := va_free (wc := ([] : va_W)) hD hS hA [] rfl
                refine va_calli (va_runSN (As := [.int (p1_2w_132 2 (nn v4_96))]) (rest := []) ⟨hx, hb, hml, hown, hts⟩ (kX11_usesRight l dC dI (p0 := (p1_2w_132 2 (nn v4_96))) (sz := _) (o := o_21) (hrun := hc_21)) ⟨(va_cnB 1 hts (gi_z qw351) rfl rfl rfl (hE.nw (List.mem_append_right _ (tbl_8 (i := 44) rfl)) rfl) (hts _ qw129) (by decide +kernel) ⟨Nat.le_of_ble_eq_true rfl, Nat.le_of_ble_eq_true rfl⟩), (hts _ qw352), trivial⟩ ⟨PRE.blind, PRE.of hE hS hFc hPc hKc hDc⟩ rfl rfl hl.1 rfl (lv_room (Nat.le_of_ble_eq_true rfl)) dX5_useStandIns_139 ⟨(Nat.le_of_ble_eq_true rfl), (Nat.le_of_ble_eq_true rfl)⟩) hS (fun q _ h => hFc q h) hFc (fun r22 u t H locs ht hvm hw hB hz1 hk1 hS => ?_)
                obtain ⟨hP, hD, hK⟩ := JOIN (wr := ((oX5 (p0a 0) p0a p0k p0w p0l) ++ (oX1 (p1a 0) p1a p1k p1n o23 p1l) ++ (oX9 (p1a 3) p1_2a p1_2k p1_2n p1_2w_132))) hP hD hK [] [0, 1, 2, 3, 4, 5, 6, 7, 8, 9, 10, 11, 12, 13, 14, 15, 16, 17, 18, 19, 20, 21, 22, 23, 24, 25, 26, 27, 28, 29, 30, 31, 32, 33] [0, 1, 2, 3, 4, 5, 6, 7, 8, 9, 10, 11, 12, 13, 14, 15, 16, 17, 18, 19, 20, 21, 22, 23, 24, 25, 26, 27, 28, 29, 30] rfl rfl (by decide) (by decide) rfl hk1 hFc ht hvm hB
                have hP : va_P (dC, dI) cls ((oX5 (p0a 0) p0a p0k p0w p0l) ++ (oX1 (p1a 0) p1a p1k p1n o23 p1l) ++ (oX9 (p1a 3) p1_2a p1_2k p1_2n p1_2w_132)) H := hP.sub [0, 1, 2, 3, 4, 5, 6, 7, 8, 9, 10, 11, 12, 13, 14, 15, 16, 17, 18, 19, 20, 21, 22, 23, 24, 25, 26, 27, 28, 29, 30, 31, 32, 33] rfl
                have hD : va_D A ((oX5 (p0a 0) p0a p0k p0w p0l) ++ (oX1 (p1a 0) p1a p1k p1n o23 p1l) ++ (oX9 (p1a 3) p1_2a p1_2k p1_2n p1_2w_132)) := hD.sub [0, 1, 2, 3, 4, 5, 6, 7, 8, 9, 10, 11, 12, 13, 14, 15, 16, 17, 18, 19, 20, 21, 22, 23, 24, 25, 26, 27, 28, 29, 30, 31, 32, 33] (by decide) rfl
                have hK : va_K (dC, dI) cls ((tX5 p0k) ++ (tX1 p1k) ++ (tX9 p1_2k)) s := hK.sub [0, 1, 2, 3, 4, 5, 6, 7, 8, 9, 10, 11, 12, 13, 14, 15, 16, 17, 18, 19, 20, 21, 22, 23, 24, 25, 26, 27, 28, 29, 30] rfl
                obtain rfl : o_21 = r22 := hw.symm
                have J163 : ∀ (p1_2w_163 : ST) (H : Heap) (locs : List Loc) (ls : Array Slot), (fX5_useStandIns_J163 (fX5_useStandIns_L96 p0w p1_2n n_96) p1_2n v4_96 p1_2w_163) = some o96 → va_P (dC, dI) cls ((oX5 (p0a 0) p0a p0k p0w p0l) ++ (oX1 (p1a 0) p1a p1k p1n o23 p1l) ++ (oX9 (p1a 3) p1_2a p1_2k p1_2n p1_2w_163)) H → va_D A ((oX5 (p0a 0) p0a p0k p0w p0l) ++ (oX1 (p1a 0) p1a p1k p1n o23 p1l) ++ (oX9 (p1a 3) p1_2a p1_2k p1_2n p1_2w_163)) → va_K (dC, dI) cls ((tX5 p0k) ++ (tX1 p1k) ++ (tX9 p1_2k)) s → va_S A s.heap H locs → lv_has ls 7 [(0, .ref (p0a 0)), (1, .ref (p1a 0)), (2, .ref (p1a 3)), (3, .int v3_7), (4, .int v4_96)] → W p l e ({ frames := 2, cells := 0, slots := 0, locals := 40 } : Room) s m ([.ref (p0a 0), .ref (p1a 0)] : List Value).toArray below meth c H locs 0 0 Q (F0 m 163 ls []) := by
                  intro p1_2w_163 H locs ls hrun hP hD hK hS hl 
                  unfold fX5_useStandIns_J163 at hrun
                  refine lv_aload_n hx hb dX5_useStandIns_163 rfl (lv_at hl 2 rfl) ?_
                  refine va_get (D := (dC, dI)) (ci := 3) (v := .ref (p1_2a 6)) (C := RX9) (T := TX9) (N := 6) hx hb hts i_X9 hown hK hP 28 rfl rfl 5 (by decide) (hts _ qw437) (fun _ h9 => h9) rfl dX5_useStandIns_164 ?_
                  refine lv_iload hx hb dX5_useStandIns_167 (lv_at hl 4 rfl) ?_
                  obtain ⟨hq23, hrun⟩ := chk9 hrun
                  refine va_iald hx hb hK hP 33 30 rfl rfl (ixb_in hq23) dX5_useStandIns_169 ?_
                  refine lv_istore (lv' := [(4, .int (p1_2w_163 6 (nn v4_96))), (0, .ref (p0a 0)), (1, .ref (p1a 0)), (2, .ref (p1a 3)), (3, .int v3_7)]) hx hb dX5_useStandIns_170 hl (by decide) rfl (fun ls hl => ?_)
                  refine lv_goto (tgt := 96) hx hb dX5_useStandIns_172 (by decide) ?_
                  exact IH96 (p1_2w_163 6 (nn v4_96)) p1_2w_163 o96 _ _ _ hrun hP hD hK hS (lv_sub hl [1, 2, 3, 4, 0] rfl) hk96
                rcases br9 hrun with ⟨hc24, hrun⟩ | ⟨hc24, hrun⟩
                · refine lv_if_eq (tgt := 163) hx hb dX5_useStandIns_142 (by decide) (fun _ => ?_) (fun c => absurd hc24 c)
                  exact J163 p1_2w_132 _ _ _ hrun hP hD hK hS (lv_sub hl [0, 1, 2, 3, 4] rfl)
                · refine lv_if_eq (tgt := 163) hx hb dX5_useStandIns_142 (by decide) (fun c => absurd c hc24) (fun _ => ?_)
                  refine lv_aload_n hx hb dX5_useStandIns_145 rfl (lv_at hl 2 rfl) ?_
                  refine va_get (D := (dC, dI)) (ci := 3) (v := .ref (p1_2a 5)) (C := RX9) (T := TX9) (N := 6) hx hb hts i_X9 hown hK hP 28 rfl rfl 4 (by decide) (hts _ qw422) (fun _ h9 => h9) rfl dX5_useStandIns_146 ?_
                  refine lv_iload hx hb dX5_useStandIns_149 (lv_at hl 4 rfl) ?_
                  refine lv_aload_n hx hb dX5_useStandIns_151 rfl (lv_at hl 0 rfl) ?_
                  refine lv_aload_n hx hb dX5_useStandIns_152 rfl (lv_at hl 2 rfl) ?_
                  refine va_get (D := (dC, dI)) (ci := 3) (v := .ref (p1_2a 5)) (C := RX9) (T := TX9) (N := 6) hx hb hts i_X9 hown hK hP 28 rfl rfl 4 (by decide) (hts _ qw422) (fun _ h9 => h9) rfl dX5_useStandIns_153 ?_
                  refine lv_iload hx hb dX5_useStandIns_156 (lv_at hl 4 rfl) ?_
                  obtain ⟨hq25, hrun⟩ := chk9 hrun
                  refine va_iald hx hb hK hP 32 29 rfl rfl (ixb_in hq25) dX5_useStandIns_158 ?_
                  obtain ⟨o_26, hc_26, hrun⟩ := bnd9 hrun
                  have hPc := hP.sub (ws' := (oX5 (p0a 0) p0a p0k p0w p0l)) [0, 1, 2, 3, 4, 5, 6, 7, 8, 9] rfl
                  have hDc := hD.sub (ws' := (oX5 (p0a 0) p0a p0k p0w p0l)) [0, 1, 2, 3, 4, 5, 6, 7, 8, 9] (by decide) rfl
                  have hKc := hK.sub (tys' := (tX5 p0k)) [0, 1, 2, 3, 4, 5, 6, 7, 8] rfl
                  have hFc := va_free (wc := (oX5 (p0a 0) p0a p0k p0w p0l)) hD hS hA [0, 1, 2, 3, 4, 5, 6, 7, 8, 9] rfl
                  refine va_calli (va_runV (As := [.int (p1_2w_132 5 (nn v4_96))]) (rest := [.int v4_96, .ref (p1_2a 5)]) ⟨hx, hb, hml, hown, hts⟩ (kX5_standInOf l dC dI (p0a := (st0 (p0a 0) p0a)) (p0k := p0k) (p0w := p0w) (p0l := p0l) (p1 := (p1_2w_132 5 (nn v4_96))) (sz := _) (o := o_26) (hrun := hc_26)) (cwV 1 hts (gi_V qw541 qw542 qw543 qw442 (gi_z qw540)) rfl rfl rfl (by decide +kernel) ⟨Nat.le_of_ble_eq_true rfl, Nat.le_of_ble_eq_true rfl⟩) ⟨PRE.blind, va_recv hKc hPc (ci := 7) (q0 := 0) rfl rfl, PRE.of hE hS hFc hPc hKc hDc⟩ rfl rfl hl.1 rfl (lv_room (Nat.le_of_ble_eq_true rfl)) dX5_useStandIns_159 ⟨(Nat.le_of_ble_eq_true rfl), (Nat.le_of_ble_eq_true rfl)⟩) hS (fun q _ h => hFc q h) hFc (fun r27 u t H locs ht hvm hw hB hz1 hk1 hS => ?_)
                  obtain ⟨hP, hD, hK⟩ := JOIN (wr := ((oX1 (p1a 0) p1a p1k p1n o23 p1l) ++ (oX9 (p1a 3) p1_2a p1_2k p1_2n p1_2w_132))) hP hD hK [0, 1, 2, 3, 4, 5, 6, 7, 8, 9] [10, 11, 12, 13, 14, 15, 16, 17, 18, 19, 20, 21, 22, 23, 24, 25, 26, 27, 28, 29, 30, 31, 32, 33] [9, 10, 11, 12, 13, 14, 15, 16, 17, 18, 19, 20, 21, 22, 23, 24, 25, 26, 27, 28, 29, 30] rfl rfl (by decide) (by decide) rfl hk1 hFc ht hvm hB
                  have hP : va_P (dC, dI) cls ((oX5 (p0a 0) p0a p0k p0w p0l) ++ (oX1 (p1a 0) p1a p1k p1n o23 p1l) ++ (oX9 (p1a 3) p1_2a p1_2k p1_2n p1_2w_132)) H := hP.sub [24, 25, 26, 27, 28, 29, 30, 31, 32, 33, 0, 1, 2, 3, 4, 5, 6, 7, 8, 9, 10, 11, 12, 13, 14, 15, 16, 17, 18, 19, 20, 21, 22, 23] rfl
                  have hD : va_D A ((oX5 (p0a 0) p0a p0k p0w p0l) ++ (oX1 (p1a 0) p1a p1k p1n o23 p1l) ++ (oX9 (p1a 3) p1_2a p1_2k p1_2n p1_2w_132)) := hD.sub [24, 25, 26, 27, 28, 29, 30, 31, 32, 33, 0, 1, 2, 3, 4, 5, 6, 7, 8, 9, 10, 11, 12, 13, 14, 15, 16, 17, 18, 19, 20, 21, 22, 23] (by decide) rfl
                  have hK : va_K (dC, dI) cls ((tX5 p0k) ++ (tX1 p1k) ++ (tX9 p1_2k)) s := hK.sub [22, 23, 24, 25, 26, 27, 28, 29, 30, 0, 1, 2, 3, 4, 5, 6, 7, 8, 9, 10, 11, 12, 13, 14, 15, 16, 17, 18, 19, 20, 21] rfl
                  obtain rfl : o_26 = r27 := hw.symm
                  obtain ⟨hq28, hrun⟩ := chk9 hrun
                  refine va_iast hx hb hK hP hD hS 32 29 rfl rfl (ixb_in hq28) dX5_useStandIns_162 (fun H locs hP hD hS => ?_)
                  have hP : va_P (dC, dI) cls ((oX5 (p0a 0) p0a p0k p0w p0l) ++ (oX1 (p1a 0) p1a p1k p1n o23 p1l) ++ (oX9 (p1a 3) p1_2a p1_2k p1_2n (upw p1_2w_132 5 (nn v4_96) o_26))) H := hP
                  have hD : va_D A ((oX5 (p0a 0) p0a p0k p0w p0l) ++ (oX1 (p1a 0) p1a p1k p1n o23 p1l) ++ (oX9 (p1a 3) p1_2a p1_2k p1_2n (upw p1_2w_132 5 (nn v4_96) o_26))) := hD
                  obtain ⟨w29, ew29, hrun⟩ := let9 hrun
                  rw [← ew29] at hP hD
                  exact J163 w29 _ _ _ hrun hP hD hK hS (lv_sub hl [0, 1, 2, 3, 4] rfl)
              rcases br9 hrun with ⟨hc30, hrun⟩ | ⟨hc30, hrun⟩
              · refine lv_if_eq (tgt := 132) hx hb dX5_useStandIns_111 (by decide) (fun _ => ?_) (fun c => absurd hc30 c)
                exact J132 p1_2w_96 _ _ _ hrun hP hD hK hS (lv_sub hl [0, 1, 2, 3, 4] rfl)
              · refine lv_if_eq (tgt := 132) hx hb dX5_useStandIns_111 (by decide) (fun c => absurd c hc30) (fun _ => ?_)
                refine lv_aload_n hx hb dX5_useStandIns_114 rfl (lv_at hl 2 rfl) ?_
                refine va_get (D := (dC, dI)) (ci := 3) (v := .ref (p1_2a 4)) (C := RX9) (T := TX9) (N := 6) hx hb hts i_X9 hown hK hP 28 rfl rfl 3 (by decide) (hts _ qw421) (fun _ h9 => h9) rfl dX5_useStandIns_115 ?_
                refine lv_iload hx hb dX5_useStandIns_118 (lv_at hl 4 rfl) ?_
                refine lv_aload_n hx hb dX5_useStandIns_120 rfl (lv_at hl 0 rfl) ?_
                refine lv_aload_n hx hb dX5_useStandIns_121 rfl (lv_at hl 2 rfl) ?_
                refine va_get (D := (dC, dI)) (ci := 3) (v := .ref (p1_2a 4)) (C := RX9) (T := TX9) (N := 6) hx hb hts i_X9 hown hK hP 28 rfl rfl 3 (by decide) (hts _ qw421) (fun _ h9 => h9) rfl dX5_useStandIns_122 ?_
                refine lv_iload hx hb dX5_useStandIns_125 (lv_at hl 4 rfl) ?_
                obtain ⟨hq31, hrun⟩ := chk9 hrun
                refine va_iald hx hb hK hP 31 28 rfl rfl (ixb_in hq31) dX5_useStandIns_127 ?_
                obtain ⟨o_32, hc_32, hrun⟩ := bnd9 hrun
                have hPc := hP.sub (ws' := (oX5 (p0a 0) p0a p0k p0w p0l)) [0, 1, 2, 3, 4, 5, 6, 7, 8, 9] rfl
                have hDc := hD.sub (ws' := (oX5 (p0a 0) p0a p0k p0w p0l)) [0, 1, 2, 3, 4, 5, 6, 7, 8, 9] (by decide) rfl
                have hKc := hK.sub (tys' := (tX5 p0k)) [0, 1, 2, 3, 4, 5, 6, 7, 8] rfl
                have hFc := va_free (wc := (oX5 (p0a 0) p0a p0k p0w p0l)) hD hS hA [0, 1, 2, 3, 4, 5, 6, 7, 8, 9] rfl
                refine va_calli (va_runV (As := [.int (p1_2w_96 4 (nn v4_96))]) (rest := [.int v4_96, .ref (p1_2a 4)]) ⟨hx, hb, hml, hown, hts⟩ (kX5_standInOf l dC dI (p0a := (st0 (p0a 0) p0a)) (p0k := p0k) (p0w := p0w) (p0l := p0l) (p1 := (p1_2w_96 4 (nn v4_96))) (sz := _) (o := o_32) (hrun := hc_32)) (cwV 1 hts (gi_V qw541 qw542 qw543 qw442 (gi_z qw540)) rfl rfl rfl (by decide +kernel) ⟨Nat.le_of_ble_eq_true rfl, Nat.le_of_ble_eq_true rfl⟩) ⟨PRE.blind, va_recv hKc hPc (ci := 7) (q0 := 0) rfl rfl, PRE.of hE hS hFc hPc hKc hDc⟩ rfl rfl hl.1 rfl (lv_room (Nat.le_of_ble_eq_true rfl)) dX5_useStandIns_128 ⟨(Nat.le_of_ble_eq_true rfl), (Nat.le_of_ble_eq_true rfl)⟩) hS (fun q _ h => hFc q h) hFc (fun r33 u t H locs ht hvm hw hB hz1 hk1 hS => ?_)
                obtain ⟨hP, hD, hK⟩ := JOIN (wr := ((oX1 (p1a 0) p1a p1k p1n o23 p1l) ++ (oX9 (p1a 3) p1_2a p1_2k p1_2n p1_2w_96))) hP hD hK [0, 1, 2, 3, 4, 5, 6, 7, 8, 9] [10, 11, 12, 13, 14, 15, 16, 17, 18, 19, 20, 21, 22, 23, 24, 25, 26, 27, 28, 29, 30, 31, 32, 33] [9, 10, 11, 12, 13, 14, 15, 16, 17, 18, 19, 20, 21, 22, 23, 24, 25, 26, 27, 28, 29, 30] rfl rfl (by decide) (by decide) rfl hk1 hFc ht hvm hB
                have hP : va_P (dC, dI) cls ((oX5 (p0a 0) p0a p0k p0w p0l) ++ (oX1 (p1a 0) p1a p1k p1n o23 p1l) ++ (oX9 (p1a 3) p1_2a p1_2k p1_2n p1_2w_96)) H := hP.sub [24, 25, 26, 27, 28, 29, 30, 31, 32, 33, 0, 1, 2, 3, 4, 5, 6, 7, 8, 9, 10, 11, 12, 13, 14, 15, 16, 17, 18, 19, 20, 21, 22, 23] rfl
                have hD : va_D A ((oX5 (p0a 0) p0a p0k p0w p0l) ++ (oX1 (p1a 0) p1a p1k p1n o23 p1l) ++ (oX9 (p1a 3) p1_2a p1_2k p1_2n p1_2w_96)) := hD.sub [24, 25, 26, 27, 28, 29, 30, 31, 32, 33, 0, 1, 2, 3, 4, 5, 6, 7, 8, 9, 10, 11, 12, 13, 14, 15, 16, 17, 18, 19, 20, 21, 22, 23] (by decide) rfl
                have hK : va_K (dC, dI) cls ((tX5 p0k) ++ (tX1 p1k) ++ (tX9 p1_2k)) s := hK.sub [22, 23, 24, 25, 26, 27, 28, 29, 30, 0, 1, 2, 3, 4, 5, 6, 7, 8, 9, 10, 11, 12, 13, 14, 15, 16, 17, 18, 19, 20, 21] rfl
                obtain rfl : o_32 = r33 := hw.symm
                obtain ⟨hq34, hrun⟩ := chk9 hrun
                refine va_iast hx hb hK hP hD hS 31 28 rfl rfl (ixb_in hq34) dX5_useStandIns_131 (fun H locs hP hD hS => ?_)
                have hP : va_P (dC, dI) cls ((oX5 (p0a 0) p0a p0k p0w p0l) ++ (oX1 (p1a 0) p1a p1k p1n o23 p1l) ++ (oX9 (p1a 3) p1_2a p1_2k p1_2n (upw p1_2w_96 4 (nn v4_96) o_32))) H := hP
                have hD : va_D A ((oX5 (p0a 0) p0a p0k p0w p0l) ++ (oX1 (p1a 0) p1a p1k p1n o23 p1l) ++ (oX9 (p1a 3) p1_2a p1_2k p1_2n (upw p1_2w_96 4 (nn v4_96) o_32))) := hD
                obtain ⟨w35, ew35, hrun⟩ := let9 hrun
                rw [← ew35] at hP hD
                exact J132 w35 _ _ _ hrun hP hD hK hS (lv_sub hl [0, 1, 2, 3, 4] rfl)
        obtain ⟨o96, hc96, hrun⟩ := bnd9 hrun
        refine L96 NF (o23 4 (nn v3_7)) p1_2w_7 o96 _ _ _ hc96 hP hD hK hS (lv_sub hl [1, 2, 3, 4, 0] rfl) ?_
        intro H locs ls hP hD hK hS hl
        have hl := hl
        refine lv_aload_n hx hb dX5_useStandIns_175 rfl (lv_at hl 1 rfl) ?_
        refine va_get (D := (dC, dI)) (ci := 4) (v := .ref (p1a 9)) (C := RX1) (T := TX1) (N := 21) hx hb hts i_X1 hown hK hP 10 rfl rfl 8 (by decide) (hts _ qw445) (fun _ h9 => h9) rfl dX5_useStandIns_176 ?_
        refine lv_iload_n hx hb dX5_useStandIns_179 rfl (lv_at hl 3 rfl) ?_
        obtain ⟨hq36, hrun⟩ := chk9 hrun
        refine va_iald hx hb hK hP 16 14 rfl rfl (ixb_in hq36) dX5_useStandIns_180 ?_
        have J200 : ∀ (p1w_200 : ST) (H : Heap) (locs : List Loc) (ls : Array Slot), (fX5_useStandIns_J200 (fX5_useStandIns_L7 p0w p1n p1_2n n_7) v3_7 o96 p1w_200) = some o7 → va_P (dC, dI) cls ((oX5 (p0a 0) p0a p0k p0w p0l) ++ (oX1 (p1a 0) p1a p1k p1n p1w_200 p1l) ++ (oX9 (p1a 3) p1_2a p1_2k p1_2n o96)) H → va_D A ((oX5 (p0a 0) p0a p0k p0w p0l) ++ (oX1 (p1a 0) p1a p1k p1n p1w_200 p1l) ++ (oX9 (p1a 3) p1_2a p1_2k p1_2n o96)) → va_K (dC, dI) cls ((tX5 p0k) ++ (tX1 p1k) ++ (tX9 p1_2k)) s → va_S A s.heap H locs → lv_has ls 7 [(0, .ref (p0a 0)), (1, .ref (p1a 0)), (2, .ref (p1a 3)), (3, .int v3_7)] → W p l e ({ frames := 2, cells := 0, slots := 0, locals := 40 } : Room) s m ([.ref (p0a 0), .ref (p1a 0)] : List Value).toArray below meth c H locs 0 0 Q (F0 m 200 ls []) := by
          intro p1w_200 H locs ls hrun hP hD hK hS hl 
          unfold fX5_useStandIns_J200 at hrun
          refine lv_iinc (v := (v3_7 + 1)) (lv' := [(3, .int (v3_7 + 1)), (0, .ref (p0a 0)), (1, .ref (p1a 0)), (2, .ref (p1a 3))]) hx hb dX5_useStandIns_200 hl (k := 3) rfl rfl (by decide) rfl (fun ls hl => ?_)
          refine lv_goto (tgt := 7) hx hb dX5_useStandIns_203 (by decide) ?_
          exact IH7 (v3_7 + 1) p1w_200 o96 o7 _ _ _ hrun hP hD hK hS (lv_sub hl [1, 2, 3, 0] rfl) hk7
        rcases br9 hrun with ⟨hc37, hrun⟩ | ⟨hc37, hrun⟩
        · refine lv_if_lt (tgt := 200) hx hb dX5_useStandIns_181 (by decide) (fun _ => ?_) (fun c => absurd hc37 c)
          exact J200 o23 _ _ _ hrun hP hD hK hS (lv_sub hl [0, 1, 2, 3] rfl)
        · refine lv_if_lt (tgt := 200) hx hb dX5_useStandIns_181 (by decide) (fun c => absurd c hc37) (fun _ => ?_)
          refine lv_aload_n hx hb dX5_useStandIns_184 rfl (lv_at hl 1 rfl) ?_
          refine va_get (D := (dC, dI)) (ci := 4) (v := .ref (p1a 9)) (C := RX1) (T := TX1) (N := 21) hx hb hts i_X1 hown hK hP 10 rfl rfl 8 (by decide) (hts _ qw445) (fun _ h9 => h9) rfl dX5_useStandIns_185 ?_
          refine lv_iload_n hx hb dX5_useStandIns_188 rfl (lv_at hl 3 rfl) ?_
          refine lv_aload_n hx hb dX5_useStandIns_189 rfl (lv_at hl 0 rfl) ?_
          refine lv_aload_n hx hb dX5_useStandIns_190 rfl (lv_at hl 1 rfl) ?_
          refine va_get (D := (dC, dI)) (ci := 4) (v := .ref (p1a 9)) (C := RX1) (T := TX1) (N := 21) hx hb hts i_X1 hown hK hP 10 rfl rfl 8 (by decide) (hts _ qw445) (fun _ h9 => h9) rfl dX5_useStandIns_191 ?_
          refine lv_iload_n hx hb dX5_useStandIns_194 rfl (lv_at hl 3 rfl) ?_
          obtain ⟨hq38, hrun⟩ := chk9 hrun
          refine va_iald hx hb hK hP 16 14 rfl rfl (ixb_in hq38) dX5_useStandIns_195 ?_
          obtain ⟨o_39, hc_39, hrun⟩ := bnd9 hrun
          have hPc := hP.sub (ws' := (oX5 (p0a 0) p0a p0k p0w p0l)) [0, 1, 2, 3, 4, 5, 6, 7, 8, 9] rfl
          have hDc := hD.sub (ws' := (oX5 (p0a 0) p0a p0k p0w p0l)) [0, 1, 2, 3, 4, 5, 6, 7, 8, 9] (by decide) rfl
          have hKc := hK.sub (tys' := (tX5 p0k)) [0, 1, 2, 3, 4, 5, 6, 7, 8] rfl
          have hFc := va_free (wc := (oX5 (p0a 0) p0a p0k p0w p0l)) hD hS hA [0, 1, 2, 3, 4, 5, 6, 7, 8, 9] rfl
          refine va_calli (va_runV (As := [.int (o23 9 (nn v3_7))]) (rest := [.int v3_7, .ref (p1a 9)]) ⟨hx, hb, hml, hown, hts⟩ (kX5_standInOf l dC dI (p0a := (st0 (p0a 0) p0a)) (p0k := p0k) (p0w := p0w) (p0l := p0l) (p1 := (o23 9 (nn v3_7))) (sz := _) (o := o_39) (hrun := hc_39)) (cwV 1 hts (gi_V qw541 qw542 qw543 qw442 (gi_z qw540)) rfl rfl rfl (by decide +kernel) ⟨Nat.le_of_ble_eq_true rfl, Nat.le_of_ble_eq_true rfl⟩) ⟨PRE.blind, va_recv hKc hPc (ci := 7) (q0 := 0) rfl rfl, PRE.of hE hS hFc hPc hKc hDc⟩ rfl rfl hl.1 rfl (lv_room (Nat.le_of_ble_eq_true rfl)) dX5_useStandIns_196 ⟨(Nat.le_of_ble_eq_true rfl), (Nat.le_of_ble_eq_true rfl)⟩) hS (fun q _ h => hFc q h) hFc (fun r40 u t H locs ht hvm hw hB hz1 hk1 hS => ?_)
          obtain ⟨hP, hD, hK⟩ := JOIN (wr := ((oX1 (p1a 0) p1a p1k p1n o23 p1l) ++ (oX9 (p1a 3) p1_2a p1_2k p1_2n o96))) hP hD hK [0, 1, 2, 3, 4, 5, 6, 7, 8, 9] [10, 11, 12, 13, 14, 15, 16, 17, 18, 19, 20, 21, 22, 23, 24, 25, 26, 27, 28, 29, 30, 31, 32, 33] [9, 10, 11, 12, 13, 14, 15, 16, 17, 18, 19, 20, 21, 22, 23, 24, 25, 26, 27, 28, 29, 30] rfl rfl (by decide) (by decide) rfl hk1 hFc ht hvm hB
          have hP : va_P (dC, dI) cls ((oX5 (p0a 0) p0a p0k p0w p0l) ++ (oX1 (p1a 0) p1a p1k p1n o23 p1l) ++ (oX9 (p1a 3) p1_2a p1_2k p1_2n o96)) H := hP.sub [24, 25, 26, 27, 28, 29, 30, 31, 32, 33, 0, 1, 2, 3, 4, 5, 6, 7, 8, 9, 10, 11, 12, 13, 14, 15, 16, 17, 18, 19, 20, 21, 22, 23] rfl
          have hD : va_D A ((oX5 (p0a 0) p0a p0k p0w p0l) ++ (oX1 (p1a 0) p1a p1k p1n o23 p1l) ++ (oX9 (p1a 3) p1_2a p1_2k p1_2n o96)) := hD.sub [24, 25, 26, 27, 28, 29, 30, 31, 32, 33, 0, 1, 2, 3, 4, 5, 6, 7, 8, 9, 10, 11, 12, 13, 14, 15, 16, 17, 18, 19, 20, 21, 22, 23] (by decide) rfl
          have hK : va_K (dC, dI) cls ((tX5 p0k) ++ (tX1 p1k) ++ (tX9 p1_2k)) s := hK.sub [22, 23, 24, 25, 26, 27, 28, 29, 30, 0, 1, 2, 3, 4, 5, 6, 7, 8, 9, 10, 11, 12, 13, 14, 15, 16, 17, 18, 19, 20, 21] rfl
          obtain rfl : o_39 = r40 := hw.symm
          obtain ⟨hq41, hrun⟩ := chk9 hrun
          refine va_iast hx hb hK hP hD hS 16 14 rfl rfl (ixb_in hq41) dX5_useStandIns_199 (fun H locs hP hD hS => ?_)
          have hP : va_P (dC, dI) cls ((oX5 (p0a 0) p0a p0k p0w p0l) ++ (oX1 (p1a 0) p1a p1k p1n (upw o23 9 (nn v3_7) o_39) p1l) ++ (oX9 (p1a 3) p1_2a p1_2k p1_2n o96)) H := hP
          have hD : va_D A ((oX5 (p0a 0) p0a p0k p0w p0l) ++ (oX1 (p1a 0) p1a p1k p1n (upw o23 9 (nn v3_7) o_39) p1l) ++ (oX9 (p1a 3) p1_2a p1_2k p1_2n o96)) := hD
          obtain ⟨w42, ew42, hrun⟩ := let9 hrun
          rw [← ew42] at hP hD
          exact J200 w42 _ _ _ hrun hP hD hK hS (lv_sub hl [0, 1, 2, 3] rfl)
  obtain ⟨o7, hc7, hrun⟩ := bnd9 hrun
  refine L7 NF 0 p1w p1_2w o7 _ _ _ hc7 hP hD hK hS (lv_sub hl [2, 3, 1, 0] rfl) ?_
  intro H locs ls hP hD hK hS hl
  have hl := hl
  have ho9 : ((o7.1), (o7.2)) = o := Option.some.inj hrun
  have hP9 : va_P (dC, dI) cls ((oX5 (p0a 0) p0a p0k p0w p0l) ++ (oX1 (p1a 0) p1a p1k p1n (o.1) p1l) ++ (oX9 (p1a 3) p1_2a p1_2k p1_2n (o.2))) H := by first | exact hP | (rw [← ho9]; exact hP)
  have hD9 : va_D A ((oX5 (p0a 0) p0a p0k p0w p0l) ++ (oX1 (p1a 0) p1a p1k p1n (o.1) p1l) ++ (oX9 (p1a 3) p1_2a p1_2k p1_2n (o.2))) := by first | exact hD | (rw [← ho9]; exact hD)
  subst hQ
  exact W.vret hx hb hr (fun t ht hW => ⟨⟨(), rfl, trivial, ⟨by rw [ht]; exact hP9, va_K.moved hW.alike hK, hD9⟩⟩, hS.F ht⟩) hS.2.2 dX5_useStandIns_206
def fX5_joinEquals_J101 (kk73 : Int32 → Int32 → ST → Option (Int32 × ST)) (v5_73 : Int32) (v2_101 : Int32) (p0w_101 : ST) : Option (Int32 × ST) := (kk73 v2_101 (v5_73 + (-1)) p0w_101)
def fX5_joinEquals_L73 (p1w : ST) (v2_37 : Int32) (p0w_37 : ST) : Nat → Int32 → Int32 → ST → Option (Int32 × ST)
  | 0 => fun _ _ _ => none
  | n_73 + 1 => fun v2_73 v5_73 p0w_73 => (if v5_73 ≤ 0 then some (v2_73, p0w_73) else (if ixb v5_73 60 = true then (if (p1w 12 (nn v5_73)) = (p0w_37 12 (nn (v2_37 + (-1)))) then (if ixb v2_73 60 = true then (lt9 (upw p0w_73 12 (nn v2_73) v5_73) fun (w14 : ST) => (fX5_joinEquals_J101 (fX5_joinEquals_L73 p1w v2_37 p0w_37 n_73) v5_73 (v2_73 + 1) w14)) else none) else (fX5_joinEquals_J101 (fX5_joinEquals_L73 p1w v2_37 p0w_37 n_73) v5_73 v2_73 p0w_73)) else none))
def fX5_joinEquals_L37 (p1n : Nat → Nat) (p1w : ST) (p1l : SL) (p1_2n : Nat → Nat) : Nat → Int32 → Int32 → ST → ST → Option (ST × ST)
  | 0 => fun _ _ _ _ => none
  | n_37 + 1 => fun v2_37 v3_37 p0w_37 p1_2w_37 => (if v2_37 ≤ 0 then some (p0w_37, p1_2w_37) else (if 60 ≤ v3_37 then some (p0w_37, p1_2w_37) else (if ixb (v2_37 + (-1)) 60 = true then ((fX5_joinBlock p0w_37 p1n p1w p1l (p0w_37 12 (nn (v2_37 + (-1)))) p1_2n p1_2w_37).bind fun (o_9 : ST × ST) => ((fX5_joinEquals_L73 p1w v2_37 p0w_37 NF (v2_37 + (-1)) ((p1w 0 0) - 1) (o_9.1)).bind fun (o73 : Int32 × ST) => ((fX5_joinEquals_L37 p1n p1w p1l p1_2n n_37) (o73.1) (v3_37 + 1) (o73.2) (o_9.2)))) else none)))
def fX5_joinEquals_J176 (kk118 : Int32 → Int32 → ST → Option (Int32 × ST)) (v4_118 : Int32) (p0w_118 : ST) (y0_153 : Int32) (y1_153 : Int32) (y0_176 : Int32) (y1_176 : Int32) : Option (Int32 × ST) := (if ixb y1_176 250 = true then (lt9 (upw p0w_118 7 (nn y1_176) y0_176) fun (w19 : ST) => (kk118 (y1_153 + y0_153) (v4_118 + 1) w19)) else none)
def fX5_joinEquals_J153 (kk118 : Int32 → Int32 → ST → Option (Int32 × ST)) (v4_118 : Int32) (p0w_118 : ST) (y0_153 : Int32) (y1_153 : Int32) : Option (Int32 × ST) := (if ixb v4_118 250 = true then (if (p0w_118 6 (nn v4_118)) < 0 then (fX5_joinEquals_J176 kk118 v4_118 p0w_118 y0_153 y1_153 0 v4_118) else (fX5_joinEquals_J176 kk118 v4_118 p0w_118 y0_153 y1_153 1 v4_118)) else none)
def fX5_joinEquals_J148 (kk118 : Int32 → Int32 → ST → Option (Int32 × ST)) (v4_118 : Int32) (p0w_118 : ST) (y0_148 : Int32) : Option (Int32 × ST) := (fX5_joinEquals_J153 kk118 v4_118 p0w_118 1 y0_148)
def fX5_joinEquals_L118 (p1w : ST) : Nat → Int32 → Int32 → ST → Option (Int32 × ST)
  | 0 => fun _ _ _ => none
  | n_118 + 1 => fun v3_118 v4_118 p0w_118 => (if (p1w 0 1) ≤ v4_118 then some (v3_118, p0w_118) else (if ixb v4_118 250 = true then (if 0 ≤ (p0w_118 6 (nn v4_118)) then (fX5_joinEquals_J148 (fX5_joinEquals_L118 p1w n_118) v4_118 p0w_118 v3_118) else (if ixb v4_118 250 = true then (if (p0w_118 7 (nn v4_118)) = 0 then (fX5_joinEquals_J153 (fX5_joinEquals_L118 p1w n_118) v4_118 p0w_118 0 v3_118) else (fX5_joinEquals_J148 (fX5_joinEquals_L118 p1w n_118) v4_118 p0w_118 v3_118)) else none)) else none))
def fX5_joinEquals (p0w : ST) (p1n : Nat → Nat) (p1w : ST) (p1l : SL) (p1_2n : Nat → Nat) (p1_2w : ST) : Option (Int32 × ST × ST × ST) := ((fX5_findGivers p0w p1n p1w p1_2n p1_2w).bind fun (o_1 : ST) => ((fJ7_fill_53178 250 (o_1 6) (-1)).bind fun (o_2 : RI) => ((fJ7_fill_53178 250 ((srw o_1 6 o_2) 7) 0).bind fun (o_3 : RI) => (lt9 (upw (srw (srw o_1 6 o_2) 7 o_3) 0 10 0) fun (w4 : ST) => (lt9 (upw w4 12 (nn 0) 0) fun (w5 : ST) => ((fX5_joinEquals_L37 p1n p1w p1l p1_2n NF 1 0 w5 p1_2w).bind fun (o37 : ST × ST) => ((fX5_joinEquals_L118 p1w NF 0 0 (o37.1)).bind fun (o118 : Int32 × ST) => ((fX1_leaveOut p1n p1w 250 ((o118.2) 7) p1_2n (o37.2)).bind fun (o_24 : ST × ST) => ((fX5_useStandIns (o118.2) p1n (o_24.1) p1_2n (o_24.2)).bind fun (o_25 : ST × ST) => some ((o118.1), (o118.2), (o_25.1), (o_25.2)))))))))))
set_option maxHeartbeats 16000000 in
set_option maxRecDepth 100000 in
theorem kX5_joinEquals {zs : Nat × Nat} (l : Launch) (dC : Nat → ClassId) (dI : Nat → Nat → Nat) (p0a : Nat → Nat) (p0k : Nat → ClassId) (p0w : ST) (p0l : SL) (p1a : Nat → Nat) (p1k : Nat → ClassId) (p1n : Nat → Nat) (p1w : ST) (p1l : SL) (p1_2a : Nat → Nat) (p1_2k : Nat → ClassId) (p1_2n : Nat → Nat) (p1_2w : ST) (sz : Nat) (o : Int32 × ST × ST × ST) (hrun : fX5_joinEquals p0w p1n p1w p1l p1_2n p1_2w = some o) : Met l yX5_joinEquals (wz yX5_joinEquals cX5_joinEquals 6 (Option.some Jvm.ClassFile.FieldType.int)) ({ frames := 5, cells := 0, slots := 0, locals := 120 } : Room) (va_Pc [.ref (p0a 0), .ref (p1a 0)] (PRE zs dC dI ((oX5 (p0a 0) p0a p0k p0w p0l) ++ (oX1 (p1a 0) p1a p1k p1n p1w p1l) ++ (oX9 (p1a 3) p1_2a p1_2k p1_2n p1_2w)) ((tX5 p0k) ++ (tX1 p1k) ++ (tX9 p1_2k)) sz)) (va_Qi (fun (r : Int32) (_ : Unit) => r = (o.1)) (fun _ t => POST dC dI ((oX5 (p0a 0) p0a p0k (o.2.1) p0l) ++ (oX1 (p1a 0) p1a p1k p1n (o.2.2.1) p1l) ++ (oX9 (p1a 3) p1_2a p1_2k p1_2n (o.2.2.2))) ((tX5 p0k) ++ (tX1 p1k) ++ (tX9 p1_2k)) (va_A ((oX5 (p0a 0) p0a p0k p0w p0l) ++ (oX1 (p1a 0) p1a p1k p1n p1w p1l) ++ (oX9 (p1a 3) p1_2a p1_2k p1_2n p1_2w)) sz) t) (va_A ((oX5 (p0a 0) p0a p0k p0w p0l) ++ (oX1 (p1a 0) p1a p1k p1n p1w p1l) ++ (oX9 (p1a 3) p1_2a p1_2k p1_2n p1_2w)) sz)) 0 0 (va_A ((oX5 (p0a 0) p0a p0k p0w p0l) ++ (oX1 (p1a 0) p1a p1k p1n p1w p1l) ++ (oX9 (p1a 3) p1_2a p1_2k p1_2n p1_2w)) sz) := by
  refine Met.ofW (cc := cX5_joinEquals) (maxL := 6) (ret := (Option.some Jvm.ClassFile.FieldType.int)) (by decide) rfl ?_
  intro p e s m args below meth c s₁ B hml hv
  obtain ⟨rfl, hsz, hP, hK, hD0, hE⟩ := hv
  have hx := B.exec
  have hb := B.bytes
  have hr := B.returns
  have hts0 := atoms_spec (ws := wz yX5_joinEquals cX5_joinEquals 6 (Option.some Jvm.ClassFile.FieldType.int)) B.pre
  have hts : ∀ w ∈ gw, w.before _ s = true := fun w h => hts0 w (List.mem_cons_of_mem _ h)
  have hown : s.vm.findClass RX5 = some m.cls := findClass_of_methodNamed B.named
  have hlocks := B.notSynchronized
  subst hsz
  have hD := hD0.self (sz := s.heap.size)
  refine gQ9 ?_
  intro Q hQ
  generalize hAe : va_A ((oX5 (p0a 0) p0a p0k p0w p0l) ++ (oX1 (p1a 0) p1a p1k p1n p1w p1l) ++ (oX9 (p1a 3) p1_2a p1_2k p1_2n p1_2w)) s.heap.size = A at hD hE hQ
  have hA : ∀ q : Nat, s.heap.size ≤ q → A q := fun q h => by rw [← hAe]; exact Or.inr h
  have hS : va_S A s.heap s.heap [] := va_S.rf
  have hP : va_P (dC, dI) cls ((oX5 (p0a 0) p0a p0k p0w p0l) ++ (oX1 (p1a 0) p1a p1k p1n p1w p1l) ++ (oX9 (p1a 3) p1_2a p1_2k p1_2n p1_2w)) s.heap := hP
  have hl := lv_entry ([.ref (p0a 0), .ref (p1a 0)]) (n := 6) (Nat.le_of_ble_eq_true rfl)
  rw [lg_entry_eq]
  generalize (lg_sl ([.ref (p0a 0), .ref (p1a 0)]) ++ List.replicate (6 - (lg_sl ([.ref (p0a 0), .ref (p1a 0)])).length) Slot.unset).toArray = ls at hl ⊢
  have hl : lv_has ls 6 [(0, .ref (p0a 0)), (1, .ref (p1a 0))] := hl
  obtain ⟨H, hHe⟩ : ∃ H, H = s.heap := ⟨_, rfl⟩
  obtain ⟨locs, hle⟩ : ∃ locs : List Loc, locs = [] := ⟨_, rfl⟩
  rw [← hHe] at hP
  have hS : va_S A s.heap H locs := by rw [hHe, hle]; exact hS
  show W p l e ({ frames := 5, cells := 0, slots := 0, locals := 120 } : Room) s m ([.ref (p0a 0), .ref (p1a 0)] : List Value).toArray below meth c s.heap [] 0 0 Q (F0 m 0 ls [])
  rw [← hle]
  refine wH9 hHe ?_
  unfold fX5_joinEquals at hrun
  refine lv_aload_n hx hb dX5_joinEquals_0 rfl (lv_at hl 0 rfl) ?_
  refine lv_aload_n hx hb dX5_joinEquals_1 rfl (lv_at hl 1 rfl) ?_
  obtain ⟨o_1, hc_1, hrun⟩ := bnd9 hrun
  have hPc := hP.sub (ws' := ((oX5 (p0a 0) p0a p0k p0w p0l) ++ (oX1 (p1a 0) p1a p1k p1n p1w p1l) ++ (oX9 (p1a 3) p1_2a p1_2k p1_2n p1_2w))) [0, 1, 2, 3, 4, 5, 6, 7, 8, 9, 10, 11, 12, 13, 14, 15, 16, 17, 18, 19, 20, 21, 22, 23, 24, 25, 26, 27, 28, 29, 30, 31, 32, 33] rfl
  have hDc := hD.sub (ws' := ((oX5 (p0a 0) p0a p0k p0w p0l) ++ (oX1 (p1a 0) p1a p1k p1n p1w p1l) ++ (oX9 (p1a 3) p1_2a p1_2k p1_2n p1_2w))) [0, 1, 2, 3, 4, 5, 6, 7, 8, 9, 10, 11, 12, 13, 14, 15, 16, 17, 18, 19, 20, 21, 22, 23, 24, 25, 26, 27, 28, 29, 30, 31, 32, 33] (by decide) rfl
  have hKc := hK.sub (tys' := ((tX5 p0k) ++ (tX1 p1k) ++ (tX9 p1_2k))) [0, 1, 2, 3, 4, 5, 6, 7, 8, 9, 10, 11, 12, 13, 14, 15, 16, 17, 18, 19, 20, 21, 22, 23, 24, 25, 26, 27, 28, 29, 30] rfl
  have hFc := va_free (wc := ((oX5 (p0a 0) p0a p0k p0w p0l) ++ (oX1 (p1a 0) p1a p1k p1n p1w p1l) ++ (oX9 (p1a 3) p1_2a p1_2k p1_2n p1_2w))) hD hS hA [0, 1, 2, 3, 4, 5, 6, 7, 8, 9, 10, 11, 12, 13, 14, 15, 16, 17, 18, 19, 20, 21, 22, 23, 24, 25, 26, 27, 28, 29, 30, 31, 32, 33] rfl
  refine va_callv (va_runV (As := [.ref (p1a 0)]) (rest := []) ⟨hx, hb, hml, hown, hts⟩ (kX5_findGivers l dC dI (p0a := (st0 (p0a 0) p0a)) (p0k := p0k) (p0w := p0w) (p0l := p0l) (p1a := (st0 (p1a 0) p1a)) (p1k := p1k) (p1n := p1n) (p1w := p1w) (p1l := p1l) (p1_2a := p1_2a) (p1_2k := p1_2k) (p1_2n := p1_2n) (p1_2w := p1_2w) (sz := _) (o := o_1) (hrun := hc_1)) (cwV 1 hts (gi_V qw439 qw440 qw441 qw442 (gi_z qw438)) rfl rfl rfl (by decide +kernel) ⟨Nat.le_of_ble_eq_true rfl, Nat.le_of_ble_eq_true rfl⟩) ⟨PRE.blind, va_recv hKc hPc (ci := 7) (q0 := 0) rfl rfl, PRE.of hE hS hFc hPc hKc hDc⟩ rfl rfl hl.1 rfl (lv_room (Nat.le_of_ble_eq_true rfl)) dX5_joinEquals_2 ⟨(Nat.le_of_ble_eq_true rfl), (Nat.le_of_ble_eq_true rfl)⟩) hS (fun q _ h => hFc q h) hFc (fun u t H locs ht hvm hw hB hz1 hk1 hS => ?_)
  obtain ⟨hP, hD, hK⟩ := JOIN (wr := ([] : va_W)) hP hD hK [0, 1, 2, 3, 4, 5, 6, 7, 8, 9, 10, 11, 12, 13, 14, 15, 16, 17, 18, 19, 20, 21, 22, 23, 24, 25, 26, 27, 28, 29, 30, 31, 32, 33] [] [] rfl rfl (by decide) (by decide) rfl hk1 hFc ht hvm hB
  have hP : va_P (dC, dI) cls ((oX5 (p0a 0) p0a p0k o_1 p0l) ++ (oX1 (p1a 0) p1a p1k p1n p1w p1l) ++ (oX9 (p1a 3) p1_2a p1_2k p1_2n p1_2w)) H := hP.sub [0, 1, 2, 3, 4, 5, 6, 7, 8, 9, 10, 11, 12, 13, 14, 15, 16, 17, 18, 19, 20, 21, 22, 23, 24, 25, 26, 27, 28, 29, 30, 31, 32, 33] rfl
  have hD : va_D A ((oX5 (p0a 0) p0a p0k o_1 p0l) ++ (oX1 (p1a 0) p1a p1k p1n p1w p1l) ++ (oX9 (p1a 3) p1_2a p1_2k p1_2n p1_2w)) := hD.sub [0, 1, 2, 3, 4, 5, 6, 7, 8, 9, 10, 11, 12, 13, 14, 15, 16, 17, 18, 19, 20, 21, 22, 23, 24, 25, 26, 27, 28, 29, 30, 31, 32, 33] (by decide) rfl
  have hK : va_K (dC, dI) cls ((tX5 p0k) ++ (tX1 p1k) ++ (tX9 p1_2k)) s := hK.sub [0, 1, 2, 3, 4, 5, 6, 7, 8, 9, 10, 11, 12, 13, 14, 15, 16, 17, 18, 19, 20, 21, 22, 23, 24, 25, 26, 27, 28, 29, 30] rfl
  refine lv_aload_n hx hb dX5_joinEquals_5 rfl (lv_at hl 0 rfl) ?_
  refine va_get (D := (dC, dI)) (ci := 7) (v := .ref (p0a 6)) (C := RX5) (T := TX5) (N := 12) hx hb hts i_X5 hown hK hP 0 rfl rfl 5 (by decide) (hts _ qw539) (fun _ h9 => h9) rfl dX5_joinEquals_6 ?_
  refine lv_iconst (v := (-1)) hx hb dX5_joinEquals_9 (by decide) ?_
  obtain ⟨o_2, hc_2, hrun⟩ := bnd9 hrun
  have hPc := hP.sub (ws' := [((p0a 6), .inl ((p0k 6), 250, .inl (o_1 6)))]) [5] rfl
  have hDc := hD.sub (ws' := [((p0a 6), .inl ((p0k 6), 250, .inl (o_1 6)))]) [5] (by decide) rfl
  have hKc := hK.sub (tys' := [((p0k 6), .int)]) [4] rfl
  have hFc := va_free (wc := [((p0a 6), .inl ((p0k 6), 250, .inl (o_1 6)))]) hD hS hA [5] rfl
  refine va_callv (va_runS (As := [.ref (p0a 6), .int (-1)]) (rest := []) ⟨hx, hb, hml, hown, hts⟩ (kJ7_fill_53178 l dC dI (p0a := (p0a 6)) (p0k := (p0k 6)) (p0n := 250) (p0f := (o_1 6)) (p1 := (-1)) (sz := _) (o := o_2) (hrun := hc_2)) (va_cwS 2 hts (gi_S qw428 qw218 qw109 (gi_z qw216)) rfl rfl rfl (by decide +kernel) ⟨Nat.le_of_ble_eq_true rfl, Nat.le_of_ble_eq_true rfl⟩) ⟨PRE.blind, PRE.of hE hS hFc hPc hKc hDc⟩ rfl rfl hl.1 rfl (lv_room (Nat.le_of_ble_eq_true rfl)) dX5_joinEquals_10 ⟨(Nat.le_of_ble_eq_true rfl), (Nat.le_of_ble_eq_true rfl)⟩) hS (fun q _ h => hFc q h) hFc (fun u t H locs ht hvm hw hB hz1 hk1 hS => ?_)
  obtain ⟨hP, hD, hK⟩ := JOIN (wr := ([((p0a 0), .inr (7, [.ref (p0a 1), .ref (p0a 2), .ref (p0a 3), .ref (p0a 4), .ref (p0a 5), .ref (p0a 6), .ref (p0a 7), .long (p0l 0 7), .ref (p0a 9), .ref (p0a 10), .int (o_1 0 10), .ref (p0a 12)])), ((p0a 2), .inl ((p0k 2), 250, .inl (o_1 2))), ((p0a 3), .inl ((p0k 3), 250, .inl (o_1 3))), ((p0a 4), .inl ((p0k 4), 250, .inl (o_1 4))), ((p0a 5), .inl ((p0k 5), 250, .inl (o_1 5))), ((p0a 7), .inl ((p0k 7), 250, .inl (o_1 7))), ((p0a 9), .inl ((p0k 9), 250, .inl (o_1 9))), ((p0a 10), .inl ((p0k 10), 250, .inl (o_1 10))), ((p0a 12), .inl ((p0k 12), 60, .inl (o_1 12)))] ++ (oX1 (p1a 0) p1a p1k p1n p1w p1l) ++ (oX9 (p1a 3) p1_2a p1_2k p1_2n p1_2w))) hP hD hK [5] [0, 1, 2, 3, 4, 6, 7, 8, 9, 10, 11, 12, 13, 14, 15, 16, 17, 18, 19, 20, 21, 22, 23, 24, 25, 26, 27, 28, 29, 30, 31, 32, 33] [0, 1, 2, 3, 5, 6, 7, 8, 9, 10, 11, 12, 13, 14, 15, 16, 17, 18, 19, 20, 21, 22, 23, 24, 25, 26, 27, 28, 29, 30] rfl rfl (by decide) (by decide) rfl hk1 hFc ht hvm hB
  have hP : va_P (dC, dI) cls ((oX5 (p0a 0) p0a p0k (srw o_1 6 o_2) p0l) ++ (oX1 (p1a 0) p1a p1k p1n p1w p1l) ++ (oX9 (p1a 3) p1_2a p1_2k p1_2n p1_2w)) H := hP.sub [0, 1, 2, 3, 4, 33, 5, 6, 7, 8, 9, 10, 11, 12, 13, 14, 15, 16, 17, 18, 19, 20, 21, 22, 23, 24, 25, 26, 27, 28, 29, 30, 31, 32] rfl
  have hD : va_D A ((oX5 (p0a 0) p0a p0k (srw o_1 6 o_2) p0l) ++ (oX1 (p1a 0) p1a p1k p1n p1w p1l) ++ (oX9 (p1a 3) p1_2a p1_2k p1_2n p1_2w)) := hD.sub [0, 1, 2, 3, 4, 33, 5, 6, 7, 8, 9, 10, 11, 12, 13, 14, 15, 16, 17, 18, 19, 20, 21, 22, 23, 24, 25, 26, 27, 28, 29, 30, 31, 32] (by decide) rfl
  have hK : va_K (dC, dI) cls ((tX5 p0k) ++ (tX1 p1k) ++ (tX9 p1_2k)) s := hK.sub [0, 1, 2, 3, 30, 4, 5, 6, 7, 8, 9, 10, 11, 12, 13, 14, 15, 16, 17, 18, 19, 20, 21, 22, 23, 24, 25, 26, 27, 28, 29] rfl
  refine lv_aload_n hx hb dX5_joinEquals_13 rfl (lv_at hl 0 rfl) ?_
  refine va_get (D := (dC, dI)) (ci := 7) (v := .ref (p0a 7)) (C := RX5) (T := TX5) (N := 12) hx hb hts i_X5 hown hK hP 0 rfl rfl 6 (by decide) (hts _ qw443) (fun _ h9 => h9) rfl dX5_joinEquals_14 ?_
  refine lv_iconst (v := 0) hx hb dX5_joinEquals_17 (by decide) ?_
  obtain ⟨o_3, hc_3, hrun⟩ := bnd9 hrun
  have hPc := hP.sub (ws' := [((p0a 7), .inl ((p0k 7), 250, .inl ((srw o_1 6 o_2) 7)))]) [6] rfl
  have hDc := hD.sub (ws' := [((p0a 7), .inl ((p0k 7), 250, .inl ((srw o_1 6 o_2) 7)))]) [6] (by decide) rfl
  have hKc := hK.sub (tys' := [((p0k 7), .int)]) [5] rfl
  have hFc := va_free (wc := [((p0a 7), .inl ((p0k 7), 250, .inl ((srw o_1 6 o_2) 7)))]) hD hS hA [6] rfl
  refine va_callv (va_runS (As := [.ref (p0a 7), .int 0]) (rest := []) ⟨hx, hb, hml, hown, hts⟩ (kJ7_fill_53178 l dC dI (p0a := (p0a 7)) (p0k := (p0k 7)) (p0n := 250) (p0f := ((srw o_1 6 o_2) 7)) (p1 := 0) (sz := _) (o := o_3) (hrun := hc_3)) (va_cwS 2 hts (gi_S qw428 qw218 qw109 (gi_z qw216)) rfl rfl rfl (by decide +kernel) ⟨Nat.le_of_ble_eq_true rfl, Nat.le_of_ble_eq_true rfl⟩) ⟨PRE.blind, PRE.of hE hS hFc hPc hKc hDc⟩ rfl rfl hl.1 rfl (lv_room (Nat.le_of_ble_eq_true rfl)) dX5_joinEquals_18 ⟨(Nat.le_of_ble_eq_true rfl), (Nat.le_of_ble_eq_true rfl)⟩) hS (fun q _ h => hFc q h) hFc (fun u t H locs ht hvm hw hB hz1 hk1 hS => ?_)
  obtain ⟨hP, hD, hK⟩ := JOIN (wr := ([((p0a 0), .inr (7, [.ref (p0a 1), .ref (p0a 2), .ref (p0a 3), .ref (p0a 4), .ref (p0a 5), .ref (p0a 6), .ref (p0a 7), .long (p0l 0 7), .ref (p0a 9), .ref (p0a 10), .int ((srw o_1 6 o_2) 0 10), .ref (p0a 12)])), ((p0a 2), .inl ((p0k 2), 250, .inl ((srw o_1 6 o_2) 2))), ((p0a 3), .inl ((p0k 3), 250, .inl ((srw o_1 6 o_2) 3))), ((p0a 4), .inl ((p0k 4), 250, .inl ((srw o_1 6 o_2) 4))), ((p0a 5), .inl ((p0k 5), 250, .inl ((srw o_1 6 o_2) 5))), ((p0a 6), .inl ((p0k 6), 250, .inl ((srw o_1 6 o_2) 6))), ((p0a 9), .inl ((p0k 9), 250, .inl ((srw o_1 6 o_2) 9))), ((p0a 10), .inl ((p0k 10), 250, .inl ((srw o_1 6 o_2) 10))), ((p0a 12), .inl ((p0k 12), 60, .inl ((srw o_1 6 o_2) 12)))] ++ (oX1 (p1a 0) p1a p1k p1n p1w p1l) ++ (oX9 (p1a 3) p1_2a p1_2k p1_2n p1_2w))) hP hD hK [6] [0, 1, 2, 3, 4, 5, 7, 8, 9, 10, 11, 12, 13, 14, 15, 16, 17, 18, 19, 20, 21, 22, 23, 24, 25, 26, 27, 28, 29, 30, 31, 32, 33] [0, 1, 2, 3, 4, 6, 7, 8, 9, 10, 11, 12, 13, 14, 15, 16, 17, 18, 19, 20, 21, 22, 23, 24, 25, 26, 27, 28, 29, 30] rfl rfl (by decide) (by decide) rfl hk1 hFc ht hvm hB
  have hP : va_P (dC, dI) cls ((oX5 (p0a 0) p0a p0k (srw (srw o_1 6 o_2) 7 o_3) p0l) ++ (oX1 (p1a 0) p1a p1k p1n p1w p1l) ++ (oX9 (p1a 3) p1_2a p1_2k p1_2n p1_2w)) H := hP.sub [0, 1, 2, 3, 4, 5, 33, 6, 7, 8, 9, 10, 11, 12, 13, 14, 15, 16, 17, 18, 19, 20, 21, 22, 23, 24, 25, 26, 27, 28, 29, 30, 31, 32] rfl
  have hD : va_D A ((oX5 (p0a 0) p0a p0k (srw (srw o_1 6 o_2) 7 o_3) p0l) ++ (oX1 (p1a 0) p1a p1k p1n p1w p1l) ++ (oX9 (p1a 3) p1_2a p1_2k p1_2n p1_2w)) := hD.sub [0, 1, 2, 3, 4, 5, 33, 6, 7, 8, 9, 10, 11, 12, 13, 14, 15, 16, 17, 18, 19, 20, 21, 22, 23, 24, 25, 26, 27, 28, 29, 30, 31, 32] (by decide) rfl
  have hK : va_K (dC, dI) cls ((tX5 p0k) ++ (tX1 p1k) ++ (tX9 p1_2k)) s := hK.sub [0, 1, 2, 3, 4, 30, 5, 6, 7, 8, 9, 10, 11, 12, 13, 14, 15, 16, 17, 18, 19, 20, 21, 22, 23, 24, 25, 26, 27, 28, 29] rfl
  refine lv_aload_n hx hb dX5_joinEquals_21 rfl (lv_at hl 0 rfl) ?_
  refine lv_iconst (v := 0) hx hb dX5_joinEquals_22 (by decide) ?_
  refine va_put (D := (dC, dI)) (ci := 7) (v := .int 0) (ty := .int) (C := RX5) (T := TX5) (N := 12) hx hb hts i_X5 tyX5 tyX5_ok nmX5 hown hK hP hD hS 0 rfl rfl 10 (by decide) (hts _ qw556) (fun _ h9 => h9) rfl (by decide +kernel) rfl rfl (Nat.le_of_ble_eq_true rfl) dX5_joinEquals_23 (fun H locs hP hD hS => ?_)
  have hP : va_P (dC, dI) cls ((oX5 (p0a 0) p0a p0k (upw (srw (srw o_1 6 o_2) 7 o_3) 0 10 0) p0l) ++ (oX1 (p1a 0) p1a p1k p1n p1w p1l) ++ (oX9 (p1a 3) p1_2a p1_2k p1_2n p1_2w)) H := hP
  have hD : va_D A ((oX5 (p0a 0) p0a p0k (upw (srw (srw o_1 6 o_2) 7 o_3) 0 10 0) p0l) ++ (oX1 (p1a 0) p1a p1k p1n p1w p1l) ++ (oX9 (p1a 3) p1_2a p1_2k p1_2n p1_2w)) := hD
  obtain ⟨w4, ew4, hrun⟩ := let9 hrun
  rw [← ew4] at hP hD
  refine lv_iconst (v := 1) hx hb dX5_joinEquals_26 (by decide) ?_
  refine lv_istore_n (lv' := [(2, .int 1), (0, .ref (p0a 0)), (1, .ref (p1a 0))]) hx hb dX5_joinEquals_27 rfl hl (by decide) rfl (fun ls hl => ?_)
  refine lv_aload_n hx hb dX5_joinEquals_28 rfl (lv_at hl 1 rfl) ?_
  refine va_get (D := (dC, dI)) (ci := 7) (v := .ref (p0a 12)) (C := RX5) (T := TX5) (N := 12) hx hb hts i_X5 hown hK hP 0 rfl rfl 11 (by decide) (hts _ qw583) (fun _ h9 => h9) rfl dX5_joinEquals_29 ?_
  refine lv_iconst (v := 0) hx hb dX5_joinEquals_32 (by decide) ?_
  refine lv_iconst (v := 0) hx hb dX5_joinEquals_33 (by decide) ?_
  refine va_iast hx hb hK hP hD hS 9 8 rfl rfl (by unfold vp_in; decide +kernel) dX5_joinEquals_34 (fun H locs hP hD hS => ?_)
  have hP : va_P (dC, dI) cls ((oX5 (p0a 0) p0a p0k (upw w4 12 (nn 0) 0) p0l) ++ (oX1 (p1a 0) p1a p1k p1n p1w p1l) ++ (oX9 (p1a 3) p1_2a p1_2k p1_2n p1_2w)) H := hP
  have hD : va_D A ((oX5 (p0a 0) p0a p0k (upw w4 12 (nn 0) 0) p0l) ++ (oX1 (p1a 0) p1a p1k p1n p1w p1l) ++ (oX9 (p1a 3) p1_2a p1_2k p1_2n p1_2w)) := hD
  obtain ⟨w5, ew5, hrun⟩ := let9 hrun
  rw [← ew5] at hP hD
  refine lv_iconst (v := 0) hx hb dX5_joinEquals_35 (by decide) ?_
  refine lv_istore_n (lv' := [(3, .int 0), (2, .int 1), (0, .ref (p0a 0)), (1, .ref (p1a 0))]) hx hb dX5_joinEquals_36 rfl hl (by decide) rfl (fun ls hl => ?_)
  have L37 : ∀ (n_37 : Nat) (v2_37 : Int32) (v3_37 : Int32) (p0w_37 : ST) (p1_2w_37 : ST) (o37 : ST × ST) (H : Heap) (locs : List Loc) (ls : Array Slot), (fX5_joinEquals_L37 p1n p1w p1l p1_2n n_37) v2_37 v3_37 p0w_37 p1_2w_37 = some o37 → va_P (dC, dI) cls ((oX5 (p0a 0) p0a p0k p0w_37 p0l) ++ (oX1 (p1a 0) p1a p1k p1n p1w p1l) ++ (oX9 (p1a 3) p1_2a p1_2k p1_2n p1_2w_37)) H → va_D A ((oX5 (p0a 0) p0a p0k p0w_37 p0l) ++ (oX1 (p1a 0) p1a p1k p1n p1w p1l) ++ (oX9 (p1a 3) p1_2a p1_2k p1_2n p1_2w_37)) → va_K (dC, dI) cls ((tX5 p0k) ++ (tX1 p1k) ++ (tX9 p1_2k)) s → va_S A s.heap H locs → lv_has ls 6 [(0, .ref (p0a 0)), (1, .ref (p1a 0)), (2, .int v2_37), (3, .int v3_37)] → (∀ (H : Heap) (locs : List Loc) (ls : Array Slot), va_P (dC, dI) cls ((oX5 (p0a 0) p0a p0k (o37.1) p0l) ++ (oX1 (p1a 0) p1a p1k p1n p1w p1l) ++ (oX9 (p1a 3) p1_2a p1_2k p1_2n (o37.2))) H → va_D A ((oX5 (p0a 0) p0a p0k (o37.1) p0l) ++ (oX1 (p1a 0) p1a p1k p1n p1w p1l) ++ (oX9 (p1a 3) p1_2a p1_2k p1_2n (o37.2))) → va_K (dC, dI) cls ((tX5 p0k) ++ (tX1 p1k) ++ (tX9 p1_2k)) s → va_S A s.heap H locs → lv_has ls 6 [(0, .ref (p0a 0)), (1, .ref (p1a 0))] → W p l e ({ frames := 5, cells := 0, slots := 0, locals := 120 } : Room) s m ([.ref (p0a 0), .ref (p1a 0)] : List Value).toArray below meth c H locs 0 0 Q (F0 m 113 ls [])) → W p l e ({ frames := 5, cells := 0, slots := 0, locals := 120 } : Room) s m ([.ref (p0a 0), .ref (p1a 0)] : List Value).toArray below meth c H locs 0 0 Q (F0 m 37 ls []) := by
    intro n_37
    induction n_37 with
    | zero => intro v2_37 v3_37 p0w_37 p1_2w_37 o37 H locs ls hrun; exact (no9 rfl hrun).elim
    | succ n_37 IH37 =>
      intro v2_37 v3_37 p0w_37 p1_2w_37 o37 H locs ls hrun hP hD hK hS hl hk37
      unfold fX5_joinEquals_L37 at hrun
      refine lv_iload_n hx hb dX5_joinEquals_37 rfl (lv_at hl 2 rfl) ?_
      rcases br9 hrun with ⟨hc6, hrun⟩ | ⟨hc6, hrun⟩
      · refine lv_if_le (tgt := 113) hx hb dX5_joinEquals_38 (by decide) (fun _ => ?_) (fun c => absurd hc6 c)
        obtain rfl := (Option.some.inj hrun)
        exact hk37 _ _ _ hP hD hK hS (lv_sub hl [0, 1] rfl)
      · refine lv_if_le (tgt := 113) hx hb dX5_joinEquals_38 (by decide) (fun c => absurd c hc6) (fun _ => ?_)
        refine lv_iload_n hx hb dX5_joinEquals_41 rfl (lv_at hl 3 rfl) ?_
        refine lv_bipush (v := 60) hx hb dX5_joinEquals_42 (by decide) ?_
        rcases br9 hrun with ⟨hc7, hrun⟩ | ⟨hc7, hrun⟩
        · refine lv_icmp_ge (tgt := 113) hx hb dX5_joinEquals_44 (by decide) (fun _ => ?_) (fun c => absurd hc7 c)
          obtain rfl := (Option.some.inj hrun)
          exact hk37 _ _ _ hP hD hK hS (lv_sub hl [0, 1] rfl)
        · refine lv_icmp_ge (tgt := 113) hx hb dX5_joinEquals_44 (by decide) (fun c => absurd c hc7) (fun _ => ?_)
          refine lv_iinc (v := (v2_37 + (-1))) (lv' := [(2, .int (v2_37 + (-1))), (0, .ref (p0a 0)), (1, .ref (p1a 0)), (3, .int v3_37)]) hx hb dX5_joinEquals_47 hl (k := 2) rfl rfl (by decide) rfl (fun ls hl => ?_)
          refine lv_aload_n hx hb dX5_joinEquals_50 rfl (lv_at hl 1 rfl) ?_
          refine va_get (D := (dC, dI)) (ci := 7) (v := .ref (p0a 12)) (C := RX5) (T := TX5) (N := 12) hx hb hts i_X5 hown hK hP 0 rfl rfl 11 (by decide) (hts _ qw583) (fun _ h9 => h9) rfl dX5_joinEquals_51 ?_
          refine lv_iload_n hx hb dX5_joinEquals_54 rfl (lv_at hl 0 rfl) ?_
          obtain ⟨hq8, hrun⟩ := chk9 hrun
          refine va_iald hx hb hK hP 9 8 rfl rfl (ixb_in hq8) dX5_joinEquals_55 ?_
          refine lv_istore (lv' := [(4, .int (p0w_37 12 (nn (v2_37 + (-1))))), (2, .int (v2_37 + (-1))), (0, .ref (p0a 0)), (1, .ref (p1a 0)), (3, .int v3_37)]) hx hb dX5_joinEquals_56 hl (by decide) rfl (fun ls hl => ?_)
          refine lv_aload_n hx hb dX5_joinEquals_58 rfl (lv_at hl 2 rfl) ?_
          refine lv_aload_n hx hb dX5_joinEquals_59 rfl (lv_at hl 3 rfl) ?_
          refine lv_iload hx hb dX5_joinEquals_60 (lv_at hl 0 rfl) ?_
          obtain ⟨o_9, hc_9, hrun⟩ := bnd9 hrun
          have hPc := hP.sub (ws' := ((oX5 (p0a 0) p0a p0k p0w_37 p0l) ++ (oX1 (p1a 0) p1a p1k p1n p1w p1l) ++ (oX9 (p1a 3) p1_2a p1_2k p1_2n p1_2w_37))) [0, 1, 2, 3, 4, 5, 6, 7, 8, 9, 10, 11, 12, 13, 14, 15, 16, 17, 18, 19, 20, 21, 22, 23, 24, 25, 26, 27, 28, 29, 30, 31, 32, 33] rfl
          have hDc := hD.sub (ws' := ((oX5 (p0a 0) p0a p0k p0w_37 p0l) ++ (oX1 (p1a 0) p1a p1k p1n p1w p1l) ++ (oX9 (p1a 3) p1_2a p1_2k p1_2n p1_2w_37))) [0, 1, 2, 3, 4, 5, 6, 7, 8, 9, 10, 11, 12, 13, 14, 15, 16, 17, 18, 19, 20, 21, 22, 23, 24, 25, 26, 27, 28, 29, 30, 31, 32, 33] (by decide) rfl
          have hKc := hK.sub (tys' := ((tX5 p0k) ++ (tX1 p1k) ++ (tX9 p1_2k))) [0, 1, 2, 3, 4, 5, 6, 7, 8, 9, 10, 11, 12, 13, 14, 15, 16, 17, 18, 19, 20, 21, 22, 23, 24, 25, 26, 27, 28, 29, 30] rfl
          have hFc := va_free (wc := ((oX5 (p0a 0) p0a p0k p0w_37 p0l) ++ (oX1 (p1a 0) p1a p1k p1n p1w p1l) ++ (oX9 (p1a 3) p1_2a p1_2k p1_2n p1_2w_37))) hD hS hA [0, 1, 2, 3, 4, 5, 6, 7, 8, 9, 10, 11, 12, 13, 14, 15, 16, 17, 18, 19, 20, 21, 22, 23, 24, 25, 26, 27, 28, 29, 30, 31, 32, 33] rfl
          refine va_callv (va_runV (As := [.ref (p1a 0), .int (p0w_37 12 (nn (v2_37 + (-1))))]) (rest := []) ⟨hx, hb, hml, hown, hts⟩ (kX5_joinBlock l dC dI (p0a := (st0 (p0a 0) p0a)) (p0k := p0k) (p0w := p0w_37) (p0l := p0l) (p1a := (st0 (p1a 0) p1a)) (p1k := p1k) (p1n := p1n) (p1w := p1w) (p1l := p1l) (p2 := (p0w_37 12 (nn (v2_37 + (-1))))) (p1_2a := p1_2a) (p1_2k := p1_2k) (p1_2n := p1_2n) (p1_2w := p1_2w_37) (sz := _) (o := o_9) (hrun := hc_9)) (cwV 2 hts (gi_V qw585 qw586 qw587 qw442 (gi_z qw584)) rfl rfl rfl (by decide +kernel) ⟨Nat.le_of_ble_eq_true rfl, Nat.le_of_ble_eq_true rfl⟩) ⟨PRE.blind, va_recv hKc hPc (ci := 7) (q0 := 0) rfl rfl, PRE.of hE hS hFc hPc hKc hDc⟩ rfl rfl hl.1 rfl (lv_room (Nat.le_of_ble_eq_true rfl)) dX5_joinEquals_62 ⟨(Nat.le_of_ble_eq_true rfl), (Nat.le_of_ble_eq_true rfl)⟩) hS (fun q _ h => hFc q h) hFc (fun u t H locs ht hvm hw hB hz1 hk1 hS => ?_)
          obtain ⟨hP, hD, hK⟩ := JOIN (wr := ([] : va_W)) hP hD hK [0, 1, 2, 3, 4, 5, 6, 7, 8, 9, 10, 11, 12, 13, 14, 15, 16, 17, 18, 19, 20, 21, 22, 23, 24, 25, 26, 27, 28, 29, 30, 31, 32, 33] [] [] rfl rfl (by decide) (by decide) rfl hk1 hFc ht hvm hB
          have hP : va_P (dC, dI) cls ((oX5 (p0a 0) p0a p0k (o_9.1) p0l) ++ (oX1 (p1a 0) p1a p1k p1n p1w p1l) ++ (oX9 (p1a 3) p1_2a p1_2k p1_2n (o_9.2))) H := hP.sub [0, 1, 2, 3, 4, 5, 6, 7, 8, 9, 10, 11, 12, 13, 14, 15, 16, 17, 18, 19, 20, 21, 22, 23, 24, 25, 26, 27, 28, 29, 30, 31, 32, 33] rfl
          have hD : va_D A ((oX5 (p0a 0) p0a p0k (o_9.1) p0l) ++ (oX1 (p1a 0) p1a p1k p1n p1w p1l) ++ (oX9 (p1a 3) p1_2a p1_2k p1_2n (o_9.2))) := hD.sub [0, 1, 2, 3, 4, 5, 6, 7, 8, 9, 10, 11, 12, 13, 14, 15, 16, 17, 18, 19, 20, 21, 22, 23, 24, 25, 26, 27, 28, 29, 30, 31, 32, 33] (by decide) rfl
          have hK : va_K (dC, dI) cls ((tX5 p0k) ++ (tX1 p1k) ++ (tX9 p1_2k)) s := hK.sub [0, 1, 2, 3, 4, 5, 6, 7, 8, 9, 10, 11, 12, 13, 14, 15, 16, 17, 18, 19, 20, 21, 22, 23, 24, 25, 26, 27, 28, 29, 30] rfl
          refine lv_aload_n hx hb dX5_joinEquals_65 rfl (lv_at hl 3 rfl) ?_
          refine va_get (D := (dC, dI)) (ci := 4) (v := .int (p1w 0 0)) (C := RX1) (T := TX1) (N := 21) hx hb hts i_X1 hown hK hP 10 rfl rfl 0 (by decide) (hts _ qw430) (fun _ h9 => h9) rfl dX5_joinEquals_66 ?_
          refine lv_iconst (v := 1) hx hb dX5_joinEquals_69 (by decide) ?_
          refine lv_isub hx hb dX5_joinEquals_70 ?_
          refine lv_istore (lv' := [(5, .int ((p1w 0 0) - 1)), (4, .int (p0w_37 12 (nn (v2_37 + (-1))))), (2, .int (v2_37 + (-1))), (0, .ref (p0a 0)), (1, .ref (p1a 0)), (3, .int v3_37)]) hx hb dX5_joinEquals_71 hl (by decide) rfl (fun ls hl => ?_)
          have L73 : ∀ (n_73 : Nat) (v2_73 : Int32) (v5_73 : Int32) (p0w_73 : ST) (o73 : Int32 × ST) (H : Heap) (locs : List Loc) (ls : Array Slot), (fX5_joinEquals_L73 p1w v2_37 p0w_37 n_73) v2_73 v5_73 p0w_73 = some o73 → va_P (dC, dI) cls ((oX5 (p0a 0) p0a p0k p0w_73 p0l) ++ (oX1 (p1a 0) p1a p1k p1n p1w p1l) ++ (oX9 (p1a 3) p1_2a p1_2k p1_2n (o_9.2))) H → va_D A ((oX5 (p0a 0) p0a p0k p0w_73 p0l) ++ (oX1 (p1a 0) p1a p1k p1n p1w p1l) ++ (oX9 (p1a 3) p1_2a p1_2k p1_2n (o_9.2))) → va_K (dC, dI) cls ((tX5 p0k) ++ (tX1 p1k) ++ (tX9 p1_2k)) s → va_S A s.heap H locs → lv_has ls 6 [(0, .ref (p0a 0)), (1, .ref (p1a 0)), (2, .int v2_73), (3, .int v3_37), (4, .int (p0w_37 12 (nn (v2_37 + (-1))))), (5, .int v5_73)] → (∀ (H : Heap) (locs : List Loc) (ls : Array Slot), va_P (dC, dI) cls ((oX5 (p0a 0) p0a p0k (o73.2) p0l) ++ (oX1 (p1a 0) p1a p1k p1n p1w p1l) ++ (oX9 (p1a 3) p1_2a p1_2k p1_2n (o_9.2))) H → va_D A ((oX5 (p0a 0) p0a p0k (o73.2) p0l) ++ (oX1 (p1a 0) p1a p1k p1n p1w p1l) ++ (oX9 (p1a 3) p1_2a p1_2k p1_2n (o_9.2))) → va_K (dC, dI) cls ((tX5 p0k) ++ (tX1 p1k) ++ (tX9 p1_2k)) s → va_S A s.heap H locs → lv_has ls 6 [(0, .ref (p0a 0)), (1, .ref (p1a 0)), (2, .int (o73.1)), (3, .int v3_37)] → W p l e ({ frames := 5, cells := 0, slots := 0, locals := 120 } : Room) s m ([.ref (p0a 0), .ref (p1a 0)] : List Value).toArray below meth c H locs 0 0 Q (F0 m 107 ls [])) → W p l e ({ frames := 5, cells := 0, slots := 0, locals := 120 } : Room) s m ([.ref (p0a 0), .ref (p1a 0)] : List Value).toArray below meth c H locs 0 0 Q (F0 m 73 ls []) := by
            intro n_73
            induction n_73 with
            | zero => intro v2_73 v5_73 p0w_73 o73 H locs ls hrun; exact (no9 rfl hrun).elim
            | succ n_73 IH73 =>
              intro v2_73 v5_73 p0w_73 o73 H locs ls hrun hP hD hK hS hl hk73
              unfold fX5_joinEquals_L73 at hrun
              refine lv_iload hx hb dX5_joinEquals_73 (lv_at hl 5 rfl) ?_
              rcases br9 hrun with ⟨hc10, hrun⟩ | ⟨hc10, hrun⟩
              · refine lv_if_le (tgt := 107) hx hb dX5_joinEquals_75 (by decide) (fun _ => ?_) (fun c => absurd hc10 c)
                obtain rfl := (Option.some.inj hrun)
                exact hk73 _ _ _ hP hD hK hS (lv_sub hl [0, 1, 2, 3] rfl)
              · refine lv_if_le (tgt := 107) hx hb dX5_joinEquals_75 (by decide) (fun c => absurd c hc10) (fun _ => ?_)
                refine lv_aload_n hx hb dX5_joinEquals_78 rfl (lv_at hl 1 rfl) ?_
                refine va_get (D := (dC, dI)) (ci := 4) (v := .ref (p1a 12)) (C := RX1) (T := TX1) (N := 21) hx hb hts i_X1 hown hK hP 10 rfl rfl 11 (by decide) (hts _ qw588) (fun _ h9 => h9) rfl dX5_joinEquals_79 ?_
                refine lv_iload hx hb dX5_joinEquals_82 (lv_at hl 5 rfl) ?_
                obtain ⟨hq11, hrun⟩ := chk9 hrun
                refine va_iald hx hb hK hP 19 17 rfl rfl (ixb_in hq11) dX5_joinEquals_84 ?_
                refine lv_iload hx hb dX5_joinEquals_85 (lv_at hl 4 rfl) ?_
                have J101 : ∀ (v2_101 : Int32) (p0w_101 : ST) (H : Heap) (locs : List Loc) (ls : Array Slot), (fX5_joinEquals_J101 (fX5_joinEquals_L73 p1w v2_37 p0w_37 n_73) v5_73 v2_101 p0w_101) = some o73 → va_P (dC, dI) cls ((oX5 (p0a 0) p0a p0k p0w_101 p0l) ++ (oX1 (p1a 0) p1a p1k p1n p1w p1l) ++ (oX9 (p1a 3) p1_2a p1_2k p1_2n (o_9.2))) H → va_D A ((oX5 (p0a 0) p0a p0k p0w_101 p0l) ++ (oX1 (p1a 0) p1a p1k p1n p1w p1l) ++ (oX9 (p1a 3) p1_2a p1_2k p1_2n (o_9.2))) → va_K (dC, dI) cls ((tX5 p0k) ++ (tX1 p1k) ++ (tX9 p1_2k)) s → va_S A s.heap H locs → lv_has ls 6 [(0, .ref (p0a 0)), (1, .ref (p1a 0)), (2, .int v2_101), (3, .int v3_37), (4, .int (p0w_37 12 (nn (v2_37 + (-1))))), (5, .int v5_73)] → W p l e ({ frames := 5, cells := 0, slots := 0, locals := 120 } : Room) s m ([.ref (p0a 0), .ref (p1a 0)] : List Value).toArray below meth c H locs 0 0 Q (F0 m 101 ls []) := by
                  intro v2_101 p0w_101 H locs ls hrun hP hD hK hS hl 
                  unfold fX5_joinEquals_J101 at hrun
                  refine lv_iinc (v := (v5_73 + (-1))) (lv' := [(5, .int (v5_73 + (-1))), (0, .ref (p0a 0)), (1, .ref (p1a 0)), (2, .int v2_101), (3, .int v3_37), (4, .int (p0w_37 12 (nn (v2_37 + (-1)))))]) hx hb dX5_joinEquals_101 hl (k := 5) rfl rfl (by decide) rfl (fun ls hl => ?_)
                  refine lv_goto (tgt := 73) hx hb dX5_joinEquals_104 (by decide) ?_
                  exact IH73 v2_101 (v5_73 + (-1)) p0w_101 o73 _ _ _ hrun hP hD hK hS (lv_sub hl [1, 2, 3, 4, 5, 0] rfl) hk73
                rcases br9 hrun with ⟨hc12, hrun⟩ | ⟨hc12, hrun⟩
                · refine lv_icmp_ne (tgt := 101) hx hb dX5_joinEquals_87 (by decide) (fun c => absurd hc12 c) (fun _ => ?_)
                  refine lv_aload_n hx hb dX5_joinEquals_90 rfl (lv_at hl 0 rfl) ?_
                  refine va_get (D := (dC, dI)) (ci := 7) (v := .ref (p0a 12)) (C := RX5) (T := TX5) (N := 12) hx hb hts i_X5 hown hK hP 0 rfl rfl 11 (by decide) (hts _ qw583) (fun _ h9 => h9) rfl dX5_joinEquals_91 ?_
                  refine lv_iload_n hx hb dX5_joinEquals_94 rfl (lv_at hl 2 rfl) ?_
                  refine lv_iload hx hb dX5_joinEquals_95 (lv_at hl 5 rfl) ?_
                  obtain ⟨hq13, hrun⟩ := chk9 hrun
                  refine va_iast hx hb hK hP hD hS 9 8 rfl rfl (ixb_in hq13) dX5_joinEquals_97 (fun H locs hP hD hS => ?_)
                  have hP : va_P (dC, dI) cls ((oX5 (p0a 0) p0a p0k (upw p0w_73 12 (nn v2_73) v5_73) p0l) ++ (oX1 (p1a 0) p1a p1k p1n p1w p1l) ++ (oX9 (p1a 3) p1_2a p1_2k p1_2n (o_9.2))) H := hP
                  have hD : va_D A ((oX5 (p0a 0) p0a p0k (upw p0w_73 12 (nn v2_73) v5_73) p0l) ++ (oX1 (p1a 0) p1a p1k p1n p1w p1l) ++ (oX9 (p1a 3) p1_2a p1_2k p1_2n (o_9.2))) := hD
                  obtain ⟨w14, ew14, hrun⟩ := let9 hrun
                  rw [← ew14] at hP hD
                  refine lv_iinc (v := (v2_73 + 1)) (lv' := [(2, .int (v2_73 + 1)), (0, .ref (p0a 0)), (1, .ref (p1a 0)), (3, .int v3_37), (4, .int (p0w_37 12 (nn (v2_37 + (-1))))), (5, .int v5_73)]) hx hb dX5_joinEquals_98 hl (k := 2) rfl rfl (by decide) rfl (fun ls hl => ?_)
                  exact J101 (v2_73 + 1) w14 _ _ _ hrun hP hD hK hS (lv_sub hl [1, 2, 0, 3, 4, 5] rfl)
                · refine lv_icmp_ne (tgt := 101) hx hb dX5_joinEquals_87 (by decide) (fun _ => ?_) (fun c => absurd c hc12)
                  exact J101 v2_73 p0w_73 _ _ _ hrun hP hD hK hS (lv_sub hl [0, 1, 2, 3, 4, 5] rfl)
          obtain ⟨o73, hc73, hrun⟩ := bnd9 hrun
          refine L73 NF (v2_37 + (-1)) ((p1w 0 0) - 1) (o_9.1) o73 _ _ _ hc73 hP hD hK hS (lv_sub hl [3, 4, 2, 5, 1, 0] rfl) ?_
          intro H locs ls hP hD hK hS hl
          have hl := hl
          refine lv_iinc (v := (v3_37 + 1)) (lv' := [(3, .int (v3_37 + 1)), (0, .ref (p0a 0)), (1, .ref (p1a 0)), (2, .int (o73.1))]) hx hb dX5_joinEquals_107 hl (k := 3) rfl rfl (by decide) rfl (fun ls hl => ?_)
          refine lv_goto (tgt := 37) hx hb dX5_joinEquals_110 (by decide) ?_
          exact IH37 (o73.1) (v3_37 + 1) (o73.2) (o_9.2) o37 _ _ _ hrun hP hD hK hS (lv_sub hl [1, 2, 3, 0] rfl) hk37
  obtain ⟨o37, hc37, hrun⟩ := bnd9 hrun
  refine L37 NF 1 0 w5 p1_2w o37 _ _ _ hc37 hP hD hK hS (lv_sub hl [2, 3, 1, 0] rfl) ?_
  intro H locs ls hP hD hK hS hl
  have hl := hl
  refine lv_iconst (v := 0) hx hb dX5_joinEquals_113 (by decide) ?_
  refine lv_istore_n (lv' := [(3, .int 0), (0, .ref (p0a 0)), (1, .ref (p1a 0))]) hx hb dX5_joinEquals_114 rfl hl (by decide) rfl (fun ls hl => ?_)
  refine lv_iconst (v := 0) hx hb dX5_joinEquals_115 (by decide) ?_
  refine lv_istore (lv' := [(4, .int 0), (3, .int 0), (0, .ref (p0a 0)), (1, .ref (p1a 0))]) hx hb dX5_joinEquals_116 hl (by decide) rfl (fun ls hl => ?_)
  have L118 : ∀ (n_118 : Nat) (v3_118 : Int32) (v4_118 : Int32) (p0w_118 : ST) (o118 : Int32 × ST) (H : Heap) (locs : List Loc) (ls : Array Slot), (fX5_joinEquals_L118 p1w n_118) v3_118 v4_118 p0w_118 = some o118 → va_P (dC, dI) cls ((oX5 (p0a 0) p0a p0k p0w_118 p0l) ++ (oX1 (p1a 0) p1a p1k p1n p1w p1l) ++ (oX9 (p1a 3) p1_2a p1_2k p1_2n (o37.2))) H → va_D A ((oX5 (p0a 0) p0a p0k p0w_118 p0l) ++ (oX1 (p1a 0) p1a p1k p1n p1w p1l) ++ (oX9 (p1a 3) p1_2a p1_2k p1_2n (o37.2))) → va_K (dC, dI) cls ((tX5 p0k) ++ (tX1 p1k) ++ (tX9 p1_2k)) s → va_S A s.heap H locs → lv_has ls 6 [(0, .ref (p0a 0)), (1, .ref (p1a 0)), (3, .int v3_118), (4, .int v4_118)] → (∀ (H : Heap) (locs : List Loc) (ls : Array Slot), va_P (dC, dI) cls ((oX5 (p0a 0) p0a p0k (o118.2) p0l) ++ (oX1 (p1a 0) p1a p1k p1n p1w p1l) ++ (oX9 (p1a 3) p1_2a p1_2k p1_2n (o37.2))) H → va_D A ((oX5 (p0a 0) p0a p0k (o118.2) p0l) ++ (oX1 (p1a 0) p1a p1k p1n p1w p1l) ++ (oX9 (p1a 3) p1_2a p1_2k p1_2n (o37.2))) → va_K (dC, dI) cls ((tX5 p0k) ++ (tX1 p1k) ++ (tX9 p1_2k)) s → va_S A s.heap H locs → lv_has ls 6 [(0, .ref (p0a 0)), (1, .ref (p1a 0)), (3, .int (o118.1))] → W p l e ({ frames := 5, cells := 0, slots := 0, locals := 120 } : Room) s m ([.ref (p0a 0), .ref (p1a 0)] : List Value).toArray below meth c H locs 0 0 Q (F0 m 183 ls [])) → W p l e ({ frames := 5, cells := 0, slots := 0, locals := 120 } : Room) s m ([.ref (p0a 0), .ref (p1a 0)] : List Value).toArray below meth c H locs 0 0 Q (F0 m 118 ls []) := by
    intro n_118
    induction n_118 with
    | zero => intro v3_118 v4_118 p0w_118 o118 H locs ls hrun; exact (no9 rfl hrun).elim
    | succ n_118 IH118 =>
      intro v3_118 v4_118 p0w_118 o118 H locs ls hrun hP hD hK hS hl hk118
      unfold fX5_joinEquals_L118 at hrun
      refine lv_iload hx hb dX5_joinEquals_118 (lv_at hl 3 rfl) ?_
      refine lv_aload_n hx hb dX5_joinEquals_120 rfl (lv_at hl 1 rfl) ?_
      refine va_get (D := (dC, dI)) (ci := 4) (v := .int (p1w 0 1)) (C := RX1) (T := TX1) (N := 21) hx hb hts i_X1 hown hK hP 10 rfl rfl 1 (by decide) (hts _ qw589) (fun _ h9 => h9) rfl dX5_joinEquals_121 ?_
      rcases br9 hrun with ⟨hc15, hrun⟩ | ⟨hc15, hrun⟩
      · refine lv_icmp_ge (tgt := 183) hx hb dX5_joinEquals_124 (by decide) (fun _ => ?_) (fun c => absurd hc15 c)
        obtain rfl := (Option.some.inj hrun)
        exact hk118 _ _ _ hP hD hK hS (lv_sub hl [0, 1, 2] rfl)
      · refine lv_icmp_ge (tgt := 183) hx hb dX5_joinEquals_124 (by decide) (fun c => absurd c hc15) (fun _ => ?_)
        refine lv_iload_n hx hb dX5_joinEquals_127 rfl (lv_at hl 2 rfl) ?_
        refine lv_aload_n hx hb dX5_joinEquals_128 rfl (lv_at hl 0 rfl) ?_
        refine va_get (D := (dC, dI)) (ci := 7) (v := .ref (p0a 6)) (C := RX5) (T := TX5) (N := 12) hx hb hts i_X5 hown hK hP 0 rfl rfl 5 (by decide) (hts _ qw539) (fun _ h9 => h9) rfl dX5_joinEquals_129 ?_
        refine lv_iload hx hb dX5_joinEquals_132 (lv_at hl 3 rfl) ?_
        obtain ⟨hq16, hrun⟩ := chk9 hrun
        refine va_iald hx hb hK hP 5 4 rfl rfl (ixb_in hq16) dX5_joinEquals_134 ?_
        have J153 : ∀ (y0_153 : Int32) (y1_153 : Int32) (H : Heap) (locs : List Loc) (ls : Array Slot), (fX5_joinEquals_J153 (fX5_joinEquals_L118 p1w n_118) v4_118 p0w_118 y0_153 y1_153) = some o118 → va_P (dC, dI) cls ((oX5 (p0a 0) p0a p0k p0w_118 p0l) ++ (oX1 (p1a 0) p1a p1k p1n p1w p1l) ++ (oX9 (p1a 3) p1_2a p1_2k p1_2n (o37.2))) H → va_D A ((oX5 (p0a 0) p0a p0k p0w_118 p0l) ++ (oX1 (p1a 0) p1a p1k p1n p1w p1l) ++ (oX9 (p1a 3) p1_2a p1_2k p1_2n (o37.2))) → va_K (dC, dI) cls ((tX5 p0k) ++ (tX1 p1k) ++ (tX9 p1_2k)) s → va_S A s.heap H locs → lv_has ls 6 [(0, .ref (p0a 0)), (1, .ref (p1a 0)), (4, .int v4_118)] → W p l e ({ frames := 5, cells := 0, slots := 0, locals := 120 } : Room) s m ([.ref (p0a 0), .ref (p1a 0)] : List Value).toArray below meth c H locs 0 0 Q (F0 m 153 ls [.int y0_153, .int y1_153]) := by
          intro y0_153 y1_153 H locs ls hrun hP hD hK hS hl 
          unfold fX5_joinEquals_J153 at hrun
          refine lv_iadd hx hb dX5_joinEquals_153 ?_
          refine lv_istore_n (lv' := [(3, .int (y1_153 + y0_153)), (0, .ref (p0a 0)), (1, .ref (p1a 0)), (4, .int v4_118)]) hx hb dX5_joinEquals_154 rfl hl (by decide) rfl (fun ls hl => ?_)
          refine lv_aload_n hx hb dX5_joinEquals_155 rfl (lv_at hl 1 rfl) ?_
          refine va_get (D := (dC, dI)) (ci := 7) (v := .ref (p0a 7)) (C := RX5) (T := TX5) (N := 12) hx hb hts i_X5 hown hK hP 0 rfl rfl 6 (by decide) (hts _ qw443) (fun _ h9 => h9) rfl dX5_joinEquals_156 ?_
          refine lv_iload hx hb dX5_joinEquals_159 (lv_at hl 3 rfl) ?_
          refine lv_aload_n hx hb dX5_joinEquals_161 rfl (lv_at hl 1 rfl) ?_
          refine va_get (D := (dC, dI)) (ci := 7) (v := .ref (p0a 6)) (C := RX5) (T := TX5) (N := 12) hx hb hts i_X5 hown hK hP 0 rfl rfl 5 (by decide) (hts _ qw539) (fun _ h9 => h9) rfl dX5_joinEquals_162 ?_
          refine lv_iload hx hb dX5_joinEquals_165 (lv_at hl 3 rfl) ?_
          obtain ⟨hq17, hrun⟩ := chk9 hrun
          refine va_iald hx hb hK hP 5 4 rfl rfl (ixb_in hq17) dX5_joinEquals_167 ?_
          have J176 : ∀ (y0_176 : Int32) (y1_176 : Int32) (H : Heap) (locs : List Loc) (ls : Array Slot), (fX5_joinEquals_J176 (fX5_joinEquals_L118 p1w n_118) v4_118 p0w_118 y0_153 y1_153 y0_176 y1_176) = some o118 → va_P (dC, dI) cls ((oX5 (p0a 0) p0a p0k p0w_118 p0l) ++ (oX1 (p1a 0) p1a p1k p1n p1w p1l) ++ (oX9 (p1a 3) p1_2a p1_2k p1_2n (o37.2))) H → va_D A ((oX5 (p0a 0) p0a p0k p0w_118 p0l) ++ (oX1 (p1a 0) p1a p1k p1n p1w p1l) ++ (oX9 (p1a 3) p1_2a p1_2k p1_2n (o37.2))) → va_K (dC, dI) cls ((tX5 p0k) ++ (tX1 p1k) ++ (tX9 p1_2k)) s → va_S A s.heap H locs → lv_has ls 6 [(0, .ref (p0a 0)), (1, .ref (p1a 0)), (3, .int (y1_153 + y0_153)), (4, .int v4_118)] → W p l e ({ frames := 5, cells := 0, slots := 0, locals := 120 } : Room) s m ([.ref (p0a 0), .ref (p1a 0)] : List Value).toArray below meth c H locs 0 0 Q (F0 m 176 ls [.int y0_176, .int y1_176, .ref (p0a 7)]) := by
            intro y0_176 y1_176 H locs ls hrun hP hD hK hS hl 
            unfold fX5_joinEquals_J176 at hrun
            obtain ⟨hq18, hrun⟩ := chk9 hrun
            refine va_iast hx hb hK hP hD hS 6 5 rfl rfl (ixb_in hq18) dX5_joinEquals_176 (fun H locs hP hD hS => ?_)
            have hP : va_P (dC, dI) cls ((oX5 (p0a 0) p0a p0k (upw p0w_118 7 (nn y1_176) y0_176) p0l) ++ (oX1 (p1a 0) p1a p1k p1n p1w p1l) ++ (oX9 (p1a 3) p1_2a p1_2k p1_2n (o37.2))) H := hP
            have hD : va_D A ((oX5 (p0a 0) p0a p0k (upw p0w_118 7 (nn y1_176) y0_176) p0l) ++ (oX1 (p1a 0) p1a p1k p1n p1w p1l) ++ (oX9 (p1a 3) p1_2a p1_2k p1_2n (o37.2))) := hD
            obtain ⟨w19, ew19, hrun⟩ := let9 hrun
            rw [← ew19] at hP hD
            refine lv_iinc (v := (v4_118 + 1)) (lv' := [(4, .int (v4_118 + 1)), (0, .ref (p0a 0)), (1, .ref (p1a 0)), (3, .int (y1_153 + y0_153))]) hx hb dX5_joinEquals_177 hl (k := 3) rfl rfl (by decide) rfl (fun ls hl => ?_)
            refine lv_goto (tgt := 118) hx hb dX5_joinEquals_180 (by decide) ?_
            exact IH118 (y1_153 + y0_153) (v4_118 + 1) w19 o118 _ _ _ hrun hP hD hK hS (lv_sub hl [1, 2, 3, 0] rfl) hk118
          rcases br9 hrun with ⟨hc20, hrun⟩ | ⟨hc20, hrun⟩
          · refine lv_if_lt (tgt := 175) hx hb dX5_joinEquals_168 (by decide) (fun _ => ?_) (fun c => absurd hc20 c)
            refine lv_iconst (v := 0) hx hb dX5_joinEquals_175 (by decide) ?_
            exact J176 0 v4_118 _ _ _ hrun hP hD hK hS (lv_sub hl [1, 2, 0, 3] rfl)
          · refine lv_if_lt (tgt := 175) hx hb dX5_joinEquals_168 (by decide) (fun c => absurd c hc20) (fun _ => ?_)
            refine lv_iconst (v := 1) hx hb dX5_joinEquals_171 (by decide) ?_
            refine lv_goto (tgt := 176) hx hb dX5_joinEquals_172 (by decide) ?_
            exact J176 1 v4_118 _ _ _ hrun hP hD hK hS (lv_sub hl [1, 2, 0, 3] rfl)
        have J148 : ∀ (y0_148 : Int32) (H : Heap) (locs : List Loc) (ls : Array Slot), (fX5_joinEquals_J148 (fX5_joinEquals_L118 p1w n_118) v4_118 p0w_118 y0_148) = some o118 → va_P (dC, dI) cls ((oX5 (p0a 0) p0a p0k p0w_118 p0l) ++ (oX1 (p1a 0) p1a p1k p1n p1w p1l) ++ (oX9 (p1a 3) p1_2a p1_2k p1_2n (o37.2))) H → va_D A ((oX5 (p0a 0) p0a p0k p0w_118 p0l) ++ (oX1 (p1a 0) p1a p1k p1n p1w p1l) ++ (oX9 (p1a 3) p1_2a p1_2k p1_2n (o37.2))) → va_K (dC, dI) cls ((tX5 p0k) ++ (tX1 p1k) ++ (tX9 p1_2k)) s → va_S A s.heap H locs → lv_has ls 6 [(0, .ref (p0a 0)), (1, .ref (p1a 0)), (4, .int v4_118)] → W p l e ({ frames := 5, cells := 0, slots := 0, locals := 120 } : Room) s m ([.ref (p0a 0), .ref (p1a 0)] : List Value).toArray below meth c H locs 0 0 Q (F0 m 148 ls [.int y0_148]) := by
          intro y0_148 H locs ls hrun hP hD hK hS hl 
          unfold fX5_joinEquals_J148 at hrun
          refine lv_iconst (v := 1) hx hb dX5_joinEquals_148 (by decide) ?_
          refine lv_goto (tgt := 153) hx hb dX5_joinEquals_149 (by decide) ?_
          exact J153 1 y0_148 _ _ _ hrun hP hD hK hS (lv_sub hl [0, 1, 2] rfl)
        rcases br9 hrun with ⟨hc21, hrun⟩ | ⟨hc21, hrun⟩
        · refine lv_if_ge (tgt := 148) hx hb dX5_joinEquals_135 (by decide) (fun _ => ?_) (fun c => absurd hc21 c)
          exact J148 v3_118 _ _ _ hrun hP hD hK hS (lv_sub hl [0, 1, 3] rfl)
        · refine lv_if_ge (tgt := 148) hx hb dX5_joinEquals_135 (by decide) (fun c => absurd c hc21) (fun _ => ?_)
          refine lv_aload_n hx hb dX5_joinEquals_138 rfl (lv_at hl 0 rfl) ?_
          refine va_get (D := (dC, dI)) (ci := 7) (v := .ref (p0a 7)) (C := RX5) (T := TX5) (N := 12) hx hb hts i_X5 hown hK hP 0 rfl rfl 6 (by decide) (hts _ qw443) (fun _ h9 => h9) rfl dX5_joinEquals_139 ?_
          refine lv_iload hx hb dX5_joinEquals_142 (lv_at hl 3 rfl) ?_
          obtain ⟨hq22, hrun⟩ := chk9 hrun
          refine va_iald hx hb hK hP 6 5 rfl rfl (ixb_in hq22) dX5_joinEquals_144 ?_
          rcases br9 hrun with ⟨hc23, hrun⟩ | ⟨hc23, hrun⟩
          · refine lv_if_eq (tgt := 152) hx hb dX5_joinEquals_145 (by decide) (fun _ => ?_) (fun c => absurd hc23 c)
            refine lv_iconst (v := 0) hx hb dX5_joinEquals_152 (by decide) ?_
            exact J153 0 v3_118 _ _ _ hrun hP hD hK hS (lv_sub hl [0, 1, 3] rfl)
          · refine lv_if_eq (tgt := 152) hx hb dX5_joinEquals_145 (by decide) (fun c => absurd c hc23) (fun _ => ?_)
            exact J148 v3_118 _ _ _ hrun hP hD hK hS (lv_sub hl [0, 1, 3] rfl)
  obtain ⟨o118, hc118, hrun⟩ := bnd9 hrun
  refine L118 NF 0 0 (o37.1) o118 _ _ _ hc118 hP hD hK hS (lv_sub hl [2, 3, 1, 0] rfl) ?_
  intro H locs ls hP hD hK hS hl
  have hl := hl
  refine lv_aload_n hx hb dX5_joinEquals_183 rfl (lv_at hl 1 rfl) ?_
  refine lv_aload_n hx hb dX5_joinEquals_184 rfl (lv_at hl 0 rfl) ?_
  refine va_get (D := (dC, dI)) (ci := 7) (v := .ref (p0a 7)) (C := RX5) (T := TX5) (N := 12) hx hb hts i_X5 hown hK hP 0 rfl rfl 6 (by decide) (hts _ qw443) (fun _ h9 => h9) rfl dX5_joinEquals_185 ?_
  obtain ⟨o_24, hc_24, hrun⟩ := bnd9 hrun
  have hPc := hP.sub (ws' := ((oX1 (p1a 0) p1a p1k p1n p1w p1l) ++ (oX9 (p1a 3) p1_2a p1_2k p1_2n (o37.2)) ++ [((p0a 7), .inl ((p0k 7), 250, .inl ((o118.2) 7)))])) [10, 11, 12, 13, 14, 15, 16, 17, 18, 19, 20, 21, 22, 23, 24, 25, 26, 27, 28, 29, 30, 31, 32, 33, 6] rfl
  have hDc := hD.sub (ws' := ((oX1 (p1a 0) p1a p1k p1n p1w p1l) ++ (oX9 (p1a 3) p1_2a p1_2k p1_2n (o37.2)) ++ [((p0a 7), .inl ((p0k 7), 250, .inl ((o118.2) 7)))])) [10, 11, 12, 13, 14, 15, 16, 17, 18, 19, 20, 21, 22, 23, 24, 25, 26, 27, 28, 29, 30, 31, 32, 33, 6] (by decide) rfl
  have hKc := hK.sub (tys' := ((tX1 p1k) ++ (tX9 p1_2k) ++ [((p0k 7), .int)])) [9, 10, 11, 12, 13, 14, 15, 16, 17, 18, 19, 20, 21, 22, 23, 24, 25, 26, 27, 28, 29, 30, 5] rfl
  have hFc := va_free (wc := ((oX1 (p1a 0) p1a p1k p1n p1w p1l) ++ (oX9 (p1a 3) p1_2a p1_2k p1_2n (o37.2)) ++ [((p0a 7), .inl ((p0k 7), 250, .inl ((o118.2) 7)))])) hD hS hA [10, 11, 12, 13, 14, 15, 16, 17, 18, 19, 20, 21, 22, 23, 24, 25, 26, 27, 28, 29, 30, 31, 32, 33, 6] rfl
  refine va_callv (va_runV (As := [.ref (p0a 7)]) (rest := []) ⟨hx, hb, hml, hown, hts⟩ (kX1_leaveOut l dC dI (p0a := (st0 (p1a 0) p1a)) (p0k := p1k) (p0n := p1n) (p0w := p1w) (p0l := p1l) (p1a := (p0a 7)) (p1k := (p0k 7)) (p1n := 250) (p1f := ((o118.2) 7)) (p0_2a := p1_2a) (p0_2k := p1_2k) (p0_2n := p1_2n) (p0_2w := (o37.2)) (sz := _) (o := o_24) (hrun := hc_24)) (cwV 1 hts (gi_V qw485 qw486 qw487 qw126 (gi_z qw484)) rfl rfl rfl (by decide +kernel) ⟨Nat.le_of_ble_eq_true rfl, Nat.le_of_ble_eq_true rfl⟩) ⟨PRE.blind, va_recv hKc hPc (ci := 4) (q0 := 0) rfl rfl, PRE.of hE hS hFc hPc hKc hDc⟩ rfl rfl hl.1 rfl (lv_room (Nat.le_of_ble_eq_true rfl)) dX5_joinEquals_188 ⟨(Nat.le_of_ble_eq_true rfl), (Nat.le_of_ble_eq_true rfl)⟩) hS (fun q _ h => hFc q h) hFc (fun u t H locs ht hvm hw hB hz1 hk1 hS => ?_)
  obtain ⟨hP, hD, hK⟩ := JOIN (wr := [((p0a 0), .inr (7, [.ref (p0a 1), .ref (p0a 2), .ref (p0a 3), .ref (p0a 4), .ref (p0a 5), .ref (p0a 6), .ref (p0a 7), .long (p0l 0 7), .ref (p0a 9), .ref (p0a 10), .int ((o118.2) 0 10), .ref (p0a 12)])), ((p0a 2), .inl ((p0k 2), 250, .inl ((o118.2) 2))), ((p0a 3), .inl ((p0k 3), 250, .inl ((o118.2) 3))), ((p0a 4), .inl ((p0k 4), 250, .inl ((o118.2) 4))), ((p0a 5), .inl ((p0k 5), 250, .inl ((o118.2) 5))), ((p0a 6), .inl ((p0k 6), 250, .inl ((o118.2) 6))), ((p0a 9), .inl ((p0k 9), 250, .inl ((o118.2) 9))), ((p0a 10), .inl ((p0k 10), 250, .inl ((o118.2) 10))), ((p0a 12), .inl ((p0k 12), 60, .inl ((o118.2) 12)))]) hP hD hK [10, 11, 12, 13, 14, 15, 16, 17, 18, 19, 20, 21, 22, 23, 24, 25, 26, 27, 28, 29, 30, 31, 32, 33, 6] [0, 1, 2, 3, 4, 5, 7, 8, 9] [0, 1, 2, 3, 4, 6, 7, 8] rfl rfl (by decide) (by decide) rfl hk1 hFc ht hvm hB
  have hP : va_P (dC, dI) cls ((oX5 (p0a 0) p0a p0k (o118.2) p0l) ++ (oX1 (p1a 0) p1a p1k p1n (o_24.1) p1l) ++ (oX9 (p1a 3) p1_2a p1_2k p1_2n (o_24.2))) H := hP.sub [0, 1, 2, 3, 4, 5, 33, 6, 7, 8, 9, 10, 11, 12, 13, 14, 15, 16, 17, 18, 19, 20, 21, 22, 23, 24, 25, 26, 27, 28, 29, 30, 31, 32] rfl
  have hD : va_D A ((oX5 (p0a 0) p0a p0k (o118.2) p0l) ++ (oX1 (p1a 0) p1a p1k p1n (o_24.1) p1l) ++ (oX9 (p1a 3) p1_2a p1_2k p1_2n (o_24.2))) := hD.sub [0, 1, 2, 3, 4, 5, 33, 6, 7, 8, 9, 10, 11, 12, 13, 14, 15, 16, 17, 18, 19, 20, 21, 22, 23, 24, 25, 26, 27, 28, 29, 30, 31, 32] (by decide) rfl
  have hK : va_K (dC, dI) cls ((tX5 p0k) ++ (tX1 p1k) ++ (tX9 p1_2k)) s := hK.sub [0, 1, 2, 3, 4, 30, 5, 6, 7, 8, 9, 10, 11, 12, 13, 14, 15, 16, 17, 18, 19, 20, 21, 22, 23, 24, 25, 26, 27, 28, 29] rfl
  refine lv_aload_n hx hb dX5_joinEquals_191 rfl (lv_at hl 0 rfl) ?_
  refine lv_aload_n hx hb dX5_joinEquals_192 rfl (lv_at hl 1 rfl) ?_
  obtain ⟨o_25, hc_25, hrun⟩ := bnd9 hrun
  have hPc := hP.sub (ws' := ((oX5 (p0a 0) p0a p0k (o118.2) p0l) ++ (oX1 (p1a 0) p1a p1k p1n (o_24.1) p1l) ++ (oX9 (p1a 3) p1_2a p1_2k p1_2n (o_24.2)))) [0, 1, 2, 3, 4, 5, 6, 7, 8, 9, 10, 11, 12, 13, 14, 15, 16, 17, 18, 19, 20, 21, 22, 23, 24, 25, 26, 27, 28, 29, 30, 31, 32, 33] rfl
  have hDc := hD.sub (ws' := ((oX5 (p0a 0) p0a p0k (o118.2) p0l) ++ (oX1 (p1a 0) p1a p1k p1n (o_24.1) p1l) ++ (oX9 (p1a 3) p1_2a p1_2k p1_2n (o_24.2)))) [0, 1, 2, 3, 4, 5, 6, 7, 8, 9, 10, 11, 12, 13, 14, 15, 16, 17, 18, 19, 20, 21, 22, 23, 24, 25, 26, 27, 28, 29, 30, 31, 32, 33] (by decide) rfl
  have hKc := hK.sub (tys' := ((tX5 p0k) ++ (tX1 p1k) ++ (tX9 p1_2k))) [0, 1, 2, 3, 4, 5, 6, 7, 8, 9, 10, 11, 12, 13, 14, 15, 16, 17, 18, 19, 20, 21, 22, 23, 24, 25, 26, 27, 28, 29, 30] rfl
  have hFc := va_free (wc := ((oX5 (p0a 0) p0a p0k (o118.2) p0l) ++ (oX1 (p1a 0) p1a p1k p1n (o_24.1) p1l) ++ (oX9 (p1a 3) p1_2a p1_2k p1_2n (o_24.2)))) hD hS hA [0, 1, 2, 3, 4, 5, 6, 7, 8, 9, 10, 11, 12, 13, 14, 15, 16, 17, 18, 19, 20, 21, 22, 23, 24, 25, 26, 27, 28, 29, 30, 31, 32, 33] rfl
  refine va_callv (va_runV (As := [.ref (p1a 0)]) (rest := []) ⟨hx, hb, hml, hown, hts⟩ (kX5_useStandIns l dC dI (p0a := (st0 (p0a 0) p0a)) (p0k := p0k) (p0w := (o118.2)) (p0l := p0l) (p1a := (st0 (p1a 0) p1a)) (p1k := p1k) (p1n := p1n) (p1w := (o_24.1)) (p1l := p1l) (p1_2a := p1_2a) (p1_2k := p1_2k) (p1_2n := p1_2n) (p1_2w := (o_24.2)) (sz := _) (o := o_25) (hrun := hc_25)) (cwV 1 hts (gi_V qw592 qw593 qw594 qw442 (gi_z qw591)) rfl rfl rfl (by decide +kernel) ⟨Nat.le_of_ble_eq_true rfl, Nat.le_of_ble_eq_true rfl⟩) ⟨PRE.blind, va_recv hKc hPc (ci := 7) (q0 := 0) rfl rfl, PRE.of hE hS hFc hPc hKc hDc⟩ rfl rfl hl.1 rfl (lv_room (Nat.le_of_ble_eq_true rfl)) dX5_joinEquals_193 ⟨(Nat.le_of_ble_eq_true rfl), (Nat.le_of_ble_eq_true rfl)⟩) hS (fun q _ h => hFc q h) hFc (fun u t H locs ht hvm hw hB hz1 hk1 hS => ?_)
  obtain ⟨hP, hD, hK⟩ := JOIN (wr := ([] : va_W)) hP hD hK [0, 1, 2, 3, 4, 5, 6, 7, 8, 9, 10, 11, 12, 13, 14, 15, 16, 17, 18, 19, 20, 21, 22, 23, 24, 25, 26, 27, 28, 29, 30, 31, 32, 33] [] [] rfl rfl (by decide) (by decide) rfl hk1 hFc ht hvm hB
  have hP : va_P (dC, dI) cls ((oX5 (p0a 0) p0a p0k (o118.2) p0l) ++ (oX1 (p1a 0) p1a p1k p1n (o_25.1) p1l) ++ (oX9 (p1a 3) p1_2a p1_2k p1_2n (o_25.2))) H := hP.sub [0, 1, 2, 3, 4, 5, 6, 7, 8, 9, 10, 11, 12, 13, 14, 15, 16, 17, 18, 19, 20, 21, 22, 23, 24, 25, 26, 27, 28, 29, 30, 31, 32, 33] rfl
  have hD : va_D A ((oX5 (p0a 0) p0a p0k (o118.2) p0l) ++ (oX1 (p1a 0) p1a p1k p1n (o_25.1) p1l) ++ (oX9 (p1a 3) p1_2a p1_2k p1_2n (o_25.2))) := hD.sub [0, 1, 2, 3, 4, 5, 6, 7, 8, 9, 10, 11, 12, 13, 14, 15, 16, 17, 18, 19, 20, 21, 22, 23, 24, 25, 26, 27, 28, 29, 30, 31, 32, 33] (by decide) rfl
  have hK : va_K (dC, dI) cls ((tX5 p0k) ++ (tX1 p1k) ++ (tX9 p1_2k)) s := hK.sub [0, 1, 2, 3, 4, 5, 6, 7, 8, 9, 10, 11, 12, 13, 14, 15, 16, 17, 18, 19, 20, 21, 22, 23, 24, 25, 26, 27, 28, 29, 30] rfl
  refine lv_iload_n hx hb dX5_joinEquals_196 rfl (lv_at hl 2 rfl) ?_
  have ho9 : ((o118.1), (o118.2), (o_25.1), (o_25.2)) = o := Option.some.inj hrun
  have hP9 : va_P (dC, dI) cls ((oX5 (p0a 0) p0a p0k (o.2.1) p0l) ++ (oX1 (p1a 0) p1a p1k p1n (o.2.2.1) p1l) ++ (oX9 (p1a 3) p1_2a p1_2k p1_2n (o.2.2.2))) H := by first | exact hP | (rw [← ho9]; exact hP)
  have hD9 : va_D A ((oX5 (p0a 0) p0a p0k (o.2.1) p0l) ++ (oX1 (p1a 0) p1a p1k p1n (o.2.2.1) p1l) ++ (oX9 (p1a 3) p1_2a p1_2k p1_2n (o.2.2.2))) := by first | exact hD | (rw [← ho9]; exact hD)
  subst hQ
  exact W.iret (v := (o118.1)) hx hb hr (fun t ht hW => ⟨⟨(o118.1), (), rfl, (by rw [← ho9]), ⟨by rw [ht]; exact hP9, va_K.moved hW.alike hK, hD9⟩⟩, hS.F ht⟩) hS.2.2 dX5_joinEquals_197
def fX5_mayLift_J82 (y0_82 : Int32) : Option Int32 := (if y0_82 = 0 ∨ y0_82 = 1 then some y0_82 else none)
def fX5_mayLift_J81  : Option Int32 := (fX5_mayLift_J82 0)
def fX5_mayLift (p0w : ST) (p2 : Int32) (p3 : Int64) (p1_2n : Nat → Nat) (p1_2w : ST) : Option Int32 := (if ixb p2 (p1_2n 2) = true then (if (p1_2w 2 (nn p2)) = 0 then some 1 else ((fX11_isOperator (p1_2w 2 (nn p2))).bind fun (o_3 : Int32) => (if o_3 = 0 then (fX5_mayLift_J81) else ((fX5_mayFail p0w p2 p1_2n p1_2w).bind fun (o_6 : Int32) => (if o_6 = 0 then (if ixb p2 (p1_2n 4) = true then (if ixb (p1_2w 4 (nn p2)) 250 = true then ((fX11_holds p3 (p0w 3 (nn (p1_2w 4 (nn p2))))).bind fun (o_11 : Int32) => (if o_11 = 0 then (if ixb p2 (p1_2n 5) = true then (if ixb (p1_2w 5 (nn p2)) 250 = true then ((fX11_holds p3 (p0w 3 (nn (p1_2w 5 (nn p2))))).bind fun (o_16 : Int32) => (if o_16 = 0 then (fX5_mayLift_J82 1) else (fX5_mayLift_J81))) else none) else none) else (fX5_mayLift_J81))) else none) else none) else (fX5_mayLift_J81)))))) else none)
set_option maxHeartbeats 16000000 in
set_option maxRecDepth 100000 in
theorem kX5_mayLift {zs : Nat × Nat} (l : Launch) (dC : Nat → ClassId) (dI : Nat → Nat → Nat) (p0a : Nat → Nat) (p0k : Nat → ClassId) (p0w : ST) (p0l : SL) (p1a : Nat → Nat) (p1k : Nat → ClassId) (p1n : Nat → Nat) (p1w : ST) (p1l : SL) (p2 : Int32) (p3 : Int64) (p1_2a : Nat → Nat) (p1_2k : Nat → ClassId) (p1_2n : Nat → Nat) (p1_2w : ST) (sz : Nat) (o : Int32) (hrun : fX5_mayLift p0w p2 p3 p1_2n p1_2w = some o) : Met l yX5_mayLift (wz yX5_mayLift cX5_mayLift 6 (Option.some Jvm.ClassFile.FieldType.boolean)) ({ frames := 2, cells := 0, slots := 0, locals := 46 } : Room) (va_Pc [.ref (p0a 0), .ref (p1a 0), .int p2, .long p3] (PRE zs dC dI ((oX5 (p0a 0) p0a p0k p0w p0l) ++ (oX1 (p1a 0) p1a p1k p1n p1w p1l) ++ (oX9 (p1a 3) p1_2a p1_2k p1_2n p1_2w)) ((tX5 p0k) ++ (tX1 p1k) ++ (tX9 p1_2k)) sz)) (va_Qi (fun (r : Int32) (_ : Unit) => r = o) (fun _ t => POST dC dI ((oX5 (p0a 0) p0a p0k p0w p0l) ++ (oX1 (p1a 0) p1a p1k p1n p1w p1l) ++ (oX9 (p1a 3) p1_2a p1_2k p1_2n p1_2w)) ((tX5 p0k) ++ (tX1 p1k) ++ (tX9 p1_2k)) (va_A ((oX5 (p0a 0) p0a p0k p0w p0l) ++ (oX1 (p1a 0) p1a p1k p1n p1w p1l) ++ (oX9 (p1a 3) p1_2a p1_2k p1_2n p1_2w)) sz) t) (va_A ((oX5 (p0a 0) p0a p0k p0w p0l) ++ (oX1 (p1a 0) p1a p1k p1n p1w p1l) ++ (oX9 (p1a 3) p1_2a p1_2k p1_2n p1_2w)) sz)) 0 0 (va_A ((oX5 (p0a 0) p0a p0k p0w p0l) ++ (oX1 (p1a 0) p1a p1k p1n p1w p1l) ++ (oX9 (p1a 3) p1_2a p1_2k p1_2n p1_2w)) sz) := by
  refine Met.ofW (cc := cX5_mayLift) (maxL := 6) (ret := (Option.some Jvm.ClassFile.FieldType.boolean)) (by decide) rfl ?_
  intro p e s m args below meth c s₁ B hml hv
  obtain ⟨rfl, hsz, hP, hK, hD0, hE⟩ := hv
  have hx := B.exec
  have hb := B.bytes
  have hr := B.returns
  have hts0 := atoms_spec (ws := wz yX5_mayLift cX5_mayLift 6 (Option.some Jvm.ClassFile.FieldType.boolean)) B.pre
  have hts : ∀ w ∈ gw, w.before _ s = true := fun w h => hts0 w (List.mem_cons_of_mem _ h)
  have hown : s.vm.findClass RX5 = some m.cls := findClass_of_methodNamed B.named
  have hlocks := B.notSynchronized
  subst hsz
  have hD := hD0.self (sz := s.heap.size)
  refine gQ9 ?_
  intro Q hQ
  generalize hAe : va_A ((oX5 (p0a 0) p0a p0k p0w p0l) ++ (oX1 (p1a 0) p1a p1k p1n p1w p1l) ++ (oX9 (p1a 3) p1_2a p1_2k p1_2n p1_2w)) s.heap.size = A at hD hE hQ
  have hA : ∀ q : Nat, s.heap.size ≤ q → A q := fun q h => by rw [← hAe]; exact Or.inr h
  have hS : va_S A s.heap s.heap [] := va_S.rf
  have hP : va_P (dC, dI) cls ((oX5 (p0a 0) p0a p0k p0w p0l) ++ (oX1 (p1a 0) p1a p1k p1n p1w p1l) ++ (oX9 (p1a 3) p1_2a p1_2k p1_2n p1_2w)) s.heap := hP
  have hl := lv_entry ([.ref (p0a 0), .ref (p1a 0), .int p2, .long p3]) (n := 6) (Nat.le_of_ble_eq_true rfl)
  rw [lg_entry_eq]
  generalize (lg_sl ([.ref (p0a 0), .ref (p1a 0), .int p2, .long p3]) ++ List.replicate (6 - (lg_sl ([.ref (p0a 0), .ref (p1a 0), .int p2, .long p3])).length) Slot.unset).toArray = ls at hl ⊢
  have hl : lv_has ls 6 [(0, .ref (p0a 0)), (1, .ref (p1a 0)), (2, .int p2), (3, .long p3)] := hl
  obtain ⟨H, hHe⟩ : ∃ H, H = s.heap := ⟨_, rfl⟩
  obtain ⟨locs, hle⟩ : ∃ locs : List Loc, locs = [] := ⟨_, rfl⟩
  rw [← hHe] at hP
  have hS : va_S A s.heap H locs := by rw [hHe, hle]; exact hS
  show W p l e ({ frames := 2, cells := 0, slots := 0, locals := 46 } : Room) s m ([.ref (p0a 0), .ref (p1a 0), .int p2, .long p3] : List Value).toArray below meth c s.heap [] 0 0 Q (F0 m 0 ls [])
  rw [← hle]
  refine wH9 hHe ?_
  unfold fX5_mayLift at hrun
  refine lv_aload_n hx hb dX5_mayLift_0 rfl (lv_at hl 1 rfl) ?_
  refine va_get (D := (dC, dI)) (ci := 4) (v := .ref (p1a 3)) (C := RX1) (T := TX1) (N := 21) hx hb hts i_X1 hown hK hP 10 rfl rfl 2 (by decide) (hts _ qw435) (fun _ h9 => h9) rfl dX5_mayLift_1 ?_
  refine va_get (D := (dC, dI)) (ci := 3) (v := .ref (p1_2a 2)) (C := RX9) (T := TX9) (N := 6) hx hb hts i_X9 hown hK hP 28 rfl rfl 1 (by decide) (hts _ qw420) (fun _ h9 => h9) rfl dX5_mayLift_4 ?_
  refine lv_iload_n hx hb dX5_mayLift_7 rfl (lv_at hl 2 rfl) ?_
  obtain ⟨hq1, hrun⟩ := chk9 hrun
  refine va_iald hx hb hK hP 29 26 rfl rfl (ixb_in hq1) dX5_mayLift_8 ?_
  refine lv_istore (lv' := [(5, .int (p1_2w 2 (nn p2))), (0, .ref (p0a 0)), (1, .ref (p1a 0)), (2, .int p2), (3, .long p3)]) hx hb dX5_mayLift_9 hl (by decide) rfl (fun ls hl => ?_)
  refine lv_iload hx hb dX5_mayLift_11 (lv_at hl 0 rfl) ?_
  rcases br9 hrun with ⟨hc2, hrun⟩ | ⟨hc2, hrun⟩
  · refine lv_if_ne (tgt := 18) hx hb dX5_mayLift_13 (by decide) (fun c => absurd hc2 c) (fun _ => ?_)
    refine lv_iconst (v := 1) hx hb dX5_mayLift_16 (by decide) ?_
    have ho9 : 1 = o := Option.some.inj hrun
    have hP9 : va_P (dC, dI) cls ((oX5 (p0a 0) p0a p0k p0w p0l) ++ (oX1 (p1a 0) p1a p1k p1n p1w p1l) ++ (oX9 (p1a 3) p1_2a p1_2k p1_2n p1_2w)) H := by first | exact hP | (rw [← ho9]; exact hP)
    have hD9 : va_D A ((oX5 (p0a 0) p0a p0k p0w p0l) ++ (oX1 (p1a 0) p1a p1k p1n p1w p1l) ++ (oX9 (p1a 3) p1_2a p1_2k p1_2n p1_2w)) := by first | exact hD | (rw [← ho9]; exact hD)
    subst hQ
    exact W.zret (v := 1) hx hb hr (by decide) (fun t ht hW => ⟨⟨1, (), rfl, (by rw [← ho9]), ⟨by rw [ht]; exact hP9, va_K.moved hW.alike hK, hD9⟩⟩, hS.F ht⟩) hS.2.2 dX5_mayLift_17
  · refine lv_if_ne (tgt := 18) hx hb dX5_mayLift_13 (by decide) (fun _ => ?_) (fun c => absurd c hc2)
    refine lv_iload hx hb dX5_mayLift_18 (lv_at hl 0 rfl) ?_
    obtain ⟨o_3, hc_3, hrun⟩ := bnd9 hrun
    have hPc := hP.sub (ws' := ([] : va_W)) [] rfl
    have hDc := hD.sub (ws' := ([] : va_W)) [] (by decide) rfl
    have hKc := hK.sub (tys' := ([] : List (ClassId × FieldType))) [] rfl
    have hFc := va_free (wc := ([] : va_W)) hD hS hA [] rfl
    refine va_calli (va_runSN (As := [.int (p1_2w 2 (nn p2))]) (rest := []) ⟨hx, hb, hml, hown, hts⟩ (kX11_isOperator l dC dI (p0 := (p1_2w 2 (nn p2))) (sz := _) (o := o_3) (hrun := hc_3)) ⟨(va_cnB 1 hts (gi_z qw348) rfl rfl rfl (hE.nw (List.mem_append_right _ (tbl_7 (i := 173) rfl)) rfl) (hts _ qw129) (by decide +kernel) ⟨Nat.le_of_ble_eq_true rfl, Nat.le_of_ble_eq_true rfl⟩), (hts _ qw350), trivial⟩ ⟨PRE.blind, PRE.of hE hS hFc hPc hKc hDc⟩ rfl rfl hl.1 rfl (lv_room (Nat.le_of_ble_eq_true rfl)) dX5_mayLift_20 ⟨(Nat.le_of_ble_eq_true rfl), (Nat.le_of_ble_eq_true rfl)⟩) hS (fun q _ h => hFc q h) hFc (fun r4 u t H locs ht hvm hw hB hz1 hk1 hS => ?_)
    obtain ⟨hP, hD, hK⟩ := JOIN (wr := ((oX5 (p0a 0) p0a p0k p0w p0l) ++ (oX1 (p1a 0) p1a p1k p1n p1w p1l) ++ (oX9 (p1a 3) p1_2a p1_2k p1_2n p1_2w))) hP hD hK [] [0, 1, 2, 3, 4, 5, 6, 7, 8, 9, 10, 11, 12, 13, 14, 15, 16, 17, 18, 19, 20, 21, 22, 23, 24, 25, 26, 27, 28, 29, 30, 31, 32, 33] [0, 1, 2, 3, 4, 5, 6, 7, 8, 9, 10, 11, 12, 13, 14, 15, 16, 17, 18, 19, 20, 21, 22, 23, 24, 25, 26, 27, 28, 29, 30] rfl rfl (by decide) (by decide) rfl hk1 hFc ht hvm hB
    have hP : va_P (dC, dI) cls ((oX5 (p0a 0) p0a p0k p0w p0l) ++ (oX1 (p1a 0) p1a p1k p1n p1w p1l) ++ (oX9 (p1a 3) p1_2a p1_2k p1_2n p1_2w)) H := hP.sub [0, 1, 2, 3, 4, 5, 6, 7, 8, 9, 10, 11, 12, 13, 14, 15, 16, 17, 18, 19, 20, 21, 22, 23, 24, 25, 26, 27, 28, 29, 30, 31, 32, 33] rfl
    have hD : va_D A ((oX5 (p0a 0) p0a p0k p0w p0l) ++ (oX1 (p1a 0) p1a p1k p1n p1w p1l) ++ (oX9 (p1a 3) p1_2a p1_2k p1_2n p1_2w)) := hD.sub [0, 1, 2, 3, 4, 5, 6, 7, 8, 9, 10, 11, 12, 13, 14, 15, 16, 17, 18, 19, 20, 21, 22, 23, 24, 25, 26, 27, 28, 29, 30, 31, 32, 33] (by decide) rfl
    have hK : va_K (dC, dI) cls ((tX5 p0k) ++ (tX1 p1k) ++ (tX9 p1_2k)) s := hK.sub [0, 1, 2, 3, 4, 5, 6, 7, 8, 9, 10, 11, 12, 13, 14, 15, 16, 17, 18, 19, 20, 21, 22, 23, 24, 25, 26, 27, 28, 29, 30] rfl
    obtain rfl : o_3 = r4 := hw.symm
    have J82 : ∀ (y0_82 : Int32) (H : Heap) (locs : List Loc) (ls : Array Slot), (fX5_mayLift_J82 y0_82) = some o → va_P (dC, dI) cls ((oX5 (p0a 0) p0a p0k p0w p0l) ++ (oX1 (p1a 0) p1a p1k p1n p1w p1l) ++ (oX9 (p1a 3) p1_2a p1_2k p1_2n p1_2w)) H → va_D A ((oX5 (p0a 0) p0a p0k p0w p0l) ++ (oX1 (p1a 0) p1a p1k p1n p1w p1l) ++ (oX9 (p1a 3) p1_2a p1_2k p1_2n p1_2w)) → va_K (dC, dI) cls ((tX5 p0k) ++ (tX1 p1k) ++ (tX9 p1_2k)) s → va_S A s.heap H locs → lv_has ls 6 [] → W p l e ({ frames := 2, cells := 0, slots := 0, locals := 46 } : Room) s m ([.ref (p0a 0), .ref (p1a 0), .int p2, .long p3] : List Value).toArray below meth c H locs 0 0 Q (F0 m 82 ls [.int y0_82]) := by
      intro y0_82 H locs ls hrun hP hD hK hS hl 
      unfold fX5_mayLift_J82 at hrun
      obtain ⟨hz9, hrun⟩ := chk9 hrun
      have ho9 : y0_82 = o := Option.some.inj hrun
      have hP9 : va_P (dC, dI) cls ((oX5 (p0a 0) p0a p0k p0w p0l) ++ (oX1 (p1a 0) p1a p1k p1n p1w p1l) ++ (oX9 (p1a 3) p1_2a p1_2k p1_2n p1_2w)) H := by first | exact hP | (rw [← ho9]; exact hP)
      have hD9 : va_D A ((oX5 (p0a 0) p0a p0k p0w p0l) ++ (oX1 (p1a 0) p1a p1k p1n p1w p1l) ++ (oX9 (p1a 3) p1_2a p1_2k p1_2n p1_2w)) := by first | exact hD | (rw [← ho9]; exact hD)
      subst hQ
      exact W.zret (v := y0_82) hx hb hr (bz9 hz9) (fun t ht hW => ⟨⟨y0_82, (), rfl, (by rw [← ho9]), ⟨by rw [ht]; exact hP9, va_K.moved hW.alike hK, hD9⟩⟩, hS.F ht⟩) hS.2.2 dX5_mayLift_82
    have J81 : ∀ (H : Heap) (locs : List Loc) (ls : Array Slot), (fX5_mayLift_J81) = some o → va_P (dC, dI) cls ((oX5 (p0a 0) p0a p0k p0w p0l) ++ (oX1 (p1a 0) p1a p1k p1n p1w p1l) ++ (oX9 (p1a 3) p1_2a p1_2k p1_2n p1_2w)) H → va_D A ((oX5 (p0a 0) p0a p0k p0w p0l) ++ (oX1 (p1a 0) p1a p1k p1n p1w p1l) ++ (oX9 (p1a 3) p1_2a p1_2k p1_2n p1_2w)) → va_K (dC, dI) cls ((tX5 p0k) ++ (tX1 p1k) ++ (tX9 p1_2k)) s → va_S A s.heap H locs → lv_has ls 6 [] → W p l e ({ frames := 2, cells := 0, slots := 0, locals := 46 } : Room) s m ([.ref (p0a 0), .ref (p1a 0), .int p2, .long p3] : List Value).toArray below meth c H locs 0 0 Q (F0 m 81 ls []) := by
      intro  H locs ls hrun hP hD hK hS hl 
      unfold fX5_mayLift_J81 at hrun
      refine lv_iconst (v := 0) hx hb dX5_mayLift_81 (by decide) ?_
      exact J82 0 _ _ _ hrun hP hD hK hS (lv_sub hl [] rfl)
    rcases br9 hrun with ⟨hc5, hrun⟩ | ⟨hc5, hrun⟩
    · refine lv_if_eq (tgt := 81) hx hb dX5_mayLift_23 (by decide) (fun _ => ?_) (fun c => absurd hc5 c)
      exact J81 _ _ _ hrun hP hD hK hS (lv_sub hl [] rfl)
    · refine lv_if_eq (tgt := 81) hx hb dX5_mayLift_23 (by decide) (fun c => absurd c hc5) (fun _ => ?_)
      refine lv_aload_n hx hb dX5_mayLift_26 rfl (lv_at hl 1 rfl) ?_
      refine lv_aload_n hx hb dX5_mayLift_27 rfl (lv_at hl 2 rfl) ?_
      refine lv_iload_n hx hb dX5_mayLift_28 rfl (lv_at hl 3 rfl) ?_
      obtain ⟨o_6, hc_6, hrun⟩ := bnd9 hrun
      have hPc := hP.sub (ws' := ((oX5 (p0a 0) p0a p0k p0w p0l) ++ (oX1 (p1a 0) p1a p1k p1n p1w p1l) ++ (oX9 (p1a 3) p1_2a p1_2k p1_2n p1_2w))) [0, 1, 2, 3, 4, 5, 6, 7, 8, 9, 10, 11, 12, 13, 14, 15, 16, 17, 18, 19, 20, 21, 22, 23, 24, 25, 26, 27, 28, 29, 30, 31, 32, 33] rfl
      have hDc := hD.sub (ws' := ((oX5 (p0a 0) p0a p0k p0w p0l) ++ (oX1 (p1a 0) p1a p1k p1n p1w p1l) ++ (oX9 (p1a 3) p1_2a p1_2k p1_2n p1_2w))) [0, 1, 2, 3, 4, 5, 6, 7, 8, 9, 10, 11, 12, 13, 14, 15, 16, 17, 18, 19, 20, 21, 22, 23, 24, 25, 26, 27, 28, 29, 30, 31, 32, 33] (by decide) rfl
      have hKc := hK.sub (tys' := ((tX5 p0k) ++ (tX1 p1k) ++ (tX9 p1_2k))) [0, 1, 2, 3, 4, 5, 6, 7, 8, 9, 10, 11, 12, 13, 14, 15, 16, 17, 18, 19, 20, 21, 22, 23, 24, 25, 26, 27, 28, 29, 30] rfl
      have hFc := va_free (wc := ((oX5 (p0a 0) p0a p0k p0w p0l) ++ (oX1 (p1a 0) p1a p1k p1n p1w p1l) ++ (oX9 (p1a 3) p1_2a p1_2k p1_2n p1_2w))) hD hS hA [0, 1, 2, 3, 4, 5, 6, 7, 8, 9, 10, 11, 12, 13, 14, 15, 16, 17, 18, 19, 20, 21, 22, 23, 24, 25, 26, 27, 28, 29, 30, 31, 32, 33] rfl
      refine va_calli (va_runV (As := [.ref (p1a 0), .int p2]) (rest := []) ⟨hx, hb, hml, hown, hts⟩ (kX5_mayFail l dC dI (p0a := (st0 (p0a 0) p0a)) (p0k := p0k) (p0w := p0w) (p0l := p0l) (p1a := (st0 (p1a 0) p1a)) (p1k := p1k) (p1n := p1n) (p1w := p1w) (p1l := p1l) (p2 := p2) (p1_2a := p1_2a) (p1_2k := p1_2k) (p1_2n := p1_2n) (p1_2w := p1_2w) (sz := _) (o := o_6) (hrun := hc_6)) (cwV 2 hts (gi_V qw465 qw466 qw467 qw442 (gi_z qw464)) rfl rfl rfl (by decide +kernel) ⟨Nat.le_of_ble_eq_true rfl, Nat.le_of_ble_eq_true rfl⟩) ⟨PRE.blind, va_recv hKc hPc (ci := 7) (q0 := 0) rfl rfl, PRE.of hE hS hFc hPc hKc hDc⟩ rfl rfl hl.1 rfl (lv_room (Nat.le_of_ble_eq_true rfl)) dX5_mayLift_29 ⟨(Nat.le_of_ble_eq_true rfl), (Nat.le_of_ble_eq_true rfl)⟩) hS (fun q _ h => hFc q h) hFc (fun r7 u t H locs ht hvm hw hB hz1 hk1 hS => ?_)
      obtain ⟨hP, hD, hK⟩ := JOIN (wr := ([] : va_W)) hP hD hK [0, 1, 2, 3, 4, 5, 6, 7, 8, 9, 10, 11, 12, 13, 14, 15, 16, 17, 18, 19, 20, 21, 22, 23, 24, 25, 26, 27, 28, 29, 30, 31, 32, 33] [] [] rfl rfl (by decide) (by decide) rfl hk1 hFc ht hvm hB
      have hP : va_P (dC, dI) cls ((oX5 (p0a 0) p0a p0k p0w p0l) ++ (oX1 (p1a 0) p1a p1k p1n p1w p1l) ++ (oX9 (p1a 3) p1_2a p1_2k p1_2n p1_2w)) H := hP.sub [0, 1, 2, 3, 4, 5, 6, 7, 8, 9, 10, 11, 12, 13, 14, 15, 16, 17, 18, 19, 20, 21, 22, 23, 24, 25, 26, 27, 28, 29, 30, 31, 32, 33] rfl
      have hD : va_D A ((oX5 (p0a 0) p0a p0k p0w p0l) ++ (oX1 (p1a 0) p1a p1k p1n p1w p1l) ++ (oX9 (p1a 3) p1_2a p1_2k p1_2n p1_2w)) := hD.sub [0, 1, 2, 3, 4, 5, 6, 7, 8, 9, 10, 11, 12, 13, 14, 15, 16, 17, 18, 19, 20, 21, 22, 23, 24, 25, 26, 27, 28, 29, 30, 31, 32, 33] (by decide) rfl
      have hK : va_K (dC, dI) cls ((tX5 p0k) ++ (tX1 p1k) ++ (tX9 p1_2k)) s := hK.sub [0, 1, 2, 3, 4, 5, 6, 7, 8, 9, 10, 11, 12, 13, 14, 15, 16, 17, 18, 19, 20, 21, 22, 23, 24, 25, 26, 27, 28, 29, 30] rfl
      obtain rfl : o_6 = r7 := hw.symm
      rcases br9 hrun with ⟨hc8, hrun⟩ | ⟨hc8, hrun⟩
      · refine lv_if_ne (tgt := 81) hx hb dX5_mayLift_32 (by decide) (fun c => absurd hc8 c) (fun _ => ?_)
        refine lv_lload_n hx hb dX5_mayLift_35 rfl (lv_at hl 4 rfl) ?_
        refine lv_aload_n hx hb dX5_mayLift_36 rfl (lv_at hl 1 rfl) ?_
        refine va_get (D := (dC, dI)) (ci := 7) (v := .ref (p0a 3)) (C := RX5) (T := TX5) (N := 12) hx hb hts i_X5 hown hK hP 0 rfl rfl 2 (by decide) (hts _ qw429) (fun _ h9 => h9) rfl dX5_mayLift_37 ?_
        refine lv_aload_n hx hb dX5_mayLift_40 rfl (lv_at hl 2 rfl) ?_
        refine va_get (D := (dC, dI)) (ci := 4) (v := .ref (p1a 3)) (C := RX1) (T := TX1) (N := 21) hx hb hts i_X1 hown hK hP 10 rfl rfl 2 (by decide) (hts _ qw435) (fun _ h9 => h9) rfl dX5_mayLift_41 ?_
        refine va_get (D := (dC, dI)) (ci := 3) (v := .ref (p1_2a 4)) (C := RX9) (T := TX9) (N := 6) hx hb hts i_X9 hown hK hP 28 rfl rfl 3 (by decide) (hts _ qw421) (fun _ h9 => h9) rfl dX5_mayLift_44 ?_
        refine lv_iload_n hx hb dX5_mayLift_47 rfl (lv_at hl 3 rfl) ?_
        obtain ⟨hq9, hrun⟩ := chk9 hrun
        refine va_iald hx hb hK hP 31 28 rfl rfl (ixb_in hq9) dX5_mayLift_48 ?_
        obtain ⟨hq10, hrun⟩ := chk9 hrun
        refine va_iald hx hb hK hP 2 1 rfl rfl (ixb_in hq10) dX5_mayLift_49 ?_
        obtain ⟨o_11, hc_11, hrun⟩ := bnd9 hrun
        have hPc := hP.sub (ws' := ([] : va_W)) [] rfl
        have hDc := hD.sub (ws' := ([] : va_W)) [] (by decide) rfl
        have hKc := hK.sub (tys' := ([] : List (ClassId × FieldType))) [] rfl
        have hFc := va_free (wc := ([] : va_W)) hD hS hA [] rfl
        refine va_calli (va_runSN (As := [.long p3, .int (p0w 3 (nn (p1_2w 4 (nn p2))))]) (rest := []) ⟨hx, hb, hml, hown, hts⟩ (kX11_holds l dC dI (p0 := p3) (p1 := (p0w 3 (nn (p1_2w 4 (nn p2))))) (sz := _) (o := o_11) (hrun := hc_11)) ⟨(va_cnB 2 hts (gi_z qw192) rfl rfl rfl (hE.nw (List.mem_append_right _ (tbl_7 (i := 146) rfl)) rfl) (hts _ qw129) (by decide +kernel) ⟨Nat.le_of_ble_eq_true rfl, Nat.le_of_ble_eq_true rfl⟩), (hts _ qw193), trivial⟩ ⟨PRE.blind, PRE.of hE hS hFc hPc hKc hDc⟩ rfl rfl hl.1 rfl (lv_room (Nat.le_of_ble_eq_true rfl)) dX5_mayLift_50 ⟨(Nat.le_of_ble_eq_true rfl), (Nat.le_of_ble_eq_true rfl)⟩) hS (fun q _ h => hFc q h) hFc (fun r12 u t H locs ht hvm hw hB hz1 hk1 hS => ?_)
        obtain ⟨hP, hD, hK⟩ := JOIN (wr := ((oX5 (p0a 0) p0a p0k p0w p0l) ++ (oX1 (p1a 0) p1a p1k p1n p1w p1l) ++ (oX9 (p1a 3) p1_2a p1_2k p1_2n p1_2w))) hP hD hK [] [0, 1, 2, 3, 4, 5, 6, 7, 8, 9, 10, 11, 12, 13, 14, 15, 16, 17, 18, 19, 20, 21, 22, 23, 24, 25, 26, 27, 28, 29, 30, 31, 32, 33] [0, 1, 2, 3, 4, 5, 6, 7, 8, 9, 10, 11, 12, 13, 14, 15, 16, 17, 18, 19, 20, 21, 22, 23, 24, 25, 26, 27, 28, 29, 30] rfl rfl (by decide) (by decide) rfl hk1 hFc ht hvm hB
        have hP : va_P (dC, dI) cls ((oX5 (p0a 0) p0a p0k p0w p0l) ++ (oX1 (p1a 0) p1a p1k p1n p1w p1l) ++ (oX9 (p1a 3) p1_2a p1_2k p1_2n p1_2w)) H := hP.sub [0, 1, 2, 3, 4, 5, 6, 7, 8, 9, 10, 11, 12, 13, 14, 15, 16, 17, 18, 19, 20, 21, 22, 23, 24, 25, 26, 27, 28, 29, 30, 31, 32, 33] rfl
        have hD : va_D A ((oX5 (p0a 0) p0a p0k p0w p0l) ++ (oX1 (p1a 0) p1a p1k p1n p1w p1l) ++ (oX9 (p1a 3) p1_2a p1_2k p1_2n p1_2w)) := hD.sub [0, 1, 2, 3, 4, 5, 6, 7, 8, 9, 10, 11, 12, 13, 14, 15, 16, 17, 18, 19, 20, 21, 22, 23, 24, 25, 26, 27, 28, 29, 30, 31, 32, 33] (by decide) rfl
        have hK : va_K (dC, dI) cls ((tX5 p0k) ++ (tX1 p1k) ++ (tX9 p1_2k)) s := hK.sub [0, 1, 2, 3, 4, 5, 6, 7, 8, 9, 10, 11, 12, 13, 14, 15, 16, 17, 18, 19, 20, 21, 22, 23, 24, 25, 26, 27, 28, 29, 30] rfl
        obtain rfl : o_11 = r12 := hw.symm
        rcases br9 hrun with ⟨hc13, hrun⟩ | ⟨hc13, hrun⟩
        · refine lv_if_ne (tgt := 81) hx hb dX5_mayLift_53 (by decide) (fun c => absurd hc13 c) (fun _ => ?_)
          refine lv_lload_n hx hb dX5_mayLift_56 rfl (lv_at hl 4 rfl) ?_
          refine lv_aload_n hx hb dX5_mayLift_57 rfl (lv_at hl 1 rfl) ?_
          refine va_get (D := (dC, dI)) (ci := 7) (v := .ref (p0a 3)) (C := RX5) (T := TX5) (N := 12) hx hb hts i_X5 hown hK hP 0 rfl rfl 2 (by decide) (hts _ qw429) (fun _ h9 => h9) rfl dX5_mayLift_58 ?_
          refine lv_aload_n hx hb dX5_mayLift_61 rfl (lv_at hl 2 rfl) ?_
          refine va_get (D := (dC, dI)) (ci := 4) (v := .ref (p1a 3)) (C := RX1) (T := TX1) (N := 21) hx hb hts i_X1 hown hK hP 10 rfl rfl 2 (by decide) (hts _ qw435) (fun _ h9 => h9) rfl dX5_mayLift_62 ?_
          refine va_get (D := (dC, dI)) (ci := 3) (v := .ref (p1_2a 5)) (C := RX9) (T := TX9) (N := 6) hx hb hts i_X9 hown hK hP 28 rfl rfl 4 (by decide) (hts _ qw422) (fun _ h9 => h9) rfl dX5_mayLift_65 ?_
          refine lv_iload_n hx hb dX5_mayLift_68 rfl (lv_at hl 3 rfl) ?_
          obtain ⟨hq14, hrun⟩ := chk9 hrun
          refine va_iald hx hb hK hP 32 29 rfl rfl (ixb_in hq14) dX5_mayLift_69 ?_
          obtain ⟨hq15, hrun⟩ := chk9 hrun
          refine va_iald hx hb hK hP 2 1 rfl rfl (ixb_in hq15) dX5_mayLift_70 ?_
          obtain ⟨o_16, hc_16, hrun⟩ := bnd9 hrun
          have hPc := hP.sub (ws' := ([] : va_W)) [] rfl
          have hDc := hD.sub (ws' := ([] : va_W)) [] (by decide) rfl
          have hKc := hK.sub (tys' := ([] : List (ClassId × FieldType))) [] rfl
          have hFc := va_free (wc := ([] : va_W)) hD hS hA [] rfl
          refine va_calli (va_runSN (As := [.long p3, .int (p0w 3 (nn (p1_2w 5 (nn p2))))]) (rest := []) ⟨hx, hb, hml, hown, hts⟩ (kX11_holds l dC dI (p0 := p3) (p1 := (p0w 3 (nn (p1_2w 5 (nn p2))))) (sz := _) (o := o_16) (hrun := hc_16)) ⟨(va_cnB 2 hts (gi_z qw192) rfl rfl rfl (hE.nw (List.mem_append_right _ (tbl_7 (i := 146) rfl)) rfl) (hts _ qw129) (by decide +kernel) ⟨Nat.le_of_ble_eq_true rfl, Nat.le_of_ble_eq_true rfl⟩), (hts _ qw193), trivial⟩ ⟨PRE.blind, PRE.of hE hS hFc hPc hKc hDc⟩ rfl rfl hl.1 rfl (lv_room (Nat.le_of_ble_eq_true rfl)) dX5_mayLift_71 ⟨(Nat.le_of_ble_eq_true rfl), (Nat.le_of_ble_eq_true rfl)⟩) hS (fun q _ h => hFc q h) hFc (fun r17 u t H locs ht hvm hw hB hz1 hk1 hS => ?_)
          obtain ⟨hP, hD, hK⟩ := JOIN (wr := ((oX5 (p0a 0) p0a p0k p0w p0l) ++ (oX1 (p1a 0) p1a p1k p1n p1w p1l) ++ (oX9 (p1a 3) p1_2a p1_2k p1_2n p1_2w))) hP hD hK [] [0, 1, 2, 3, 4, 5, 6, 7, 8, 9, 10, 11, 12, 13, 14, 15, 16, 17, 18, 19, 20, 21, 22, 23, 24, 25, 26, 27, 28, 29, 30, 31, 32, 33] [0, 1, 2, 3, 4, 5, 6, 7, 8, 9, 10, 11, 12, 13, 14, 15, 16, 17, 18, 19, 20, 21, 22, 23, 24, 25, 26, 27, 28, 29, 30] rfl rfl (by decide) (by decide) rfl hk1 hFc ht hvm hB
          have hP : va_P (dC, dI) cls ((oX5 (p0a 0) p0a p0k p0w p0l) ++ (oX1 (p1a 0) p1a p1k p1n p1w p1l) ++ (oX9 (p1a 3) p1_2a p1_2k p1_2n p1_2w)) H := hP.sub [0, 1, 2, 3, 4, 5, 6, 7, 8, 9, 10, 11, 12, 13, 14, 15, 16, 17, 18, 19, 20, 21, 22, 23, 24, 25, 26, 27, 28, 29, 30, 31, 32, 33] rfl
          have hD : va_D A ((oX5 (p0a 0) p0a p0k p0w p0l) ++ (oX1 (p1a 0) p1a p1k p1n p1w p1l) ++ (oX9 (p1a 3) p1_2a p1_2k p1_2n p1_2w)) := hD.sub [0, 1, 2, 3, 4, 5, 6, 7, 8, 9, 10, 11, 12, 13, 14, 15, 16, 17, 18, 19, 20, 21, 22, 23, 24, 25, 26, 27, 28, 29, 30, 31, 32, 33] (by decide) rfl
          have hK : va_K (dC, dI) cls ((tX5 p0k) ++ (tX1 p1k) ++ (tX9 p1_2k)) s := hK.sub [0, 1, 2, 3, 4, 5, 6, 7, 8, 9, 10, 11, 12, 13, 14, 15, 16, 17, 18, 19, 20, 21, 22, 23, 24, 25, 26, 27, 28, 29, 30] rfl
          obtain rfl : o_16 = r17 := hw.symm
          rcases br9 hrun with ⟨hc18, hrun⟩ | ⟨hc18, hrun⟩
          · refine lv_if_ne (tgt := 81) hx hb dX5_mayLift_74 (by decide) (fun c => absurd hc18 c) (fun _ => ?_)
            refine lv_iconst (v := 1) hx hb dX5_mayLift_77 (by decide) ?_
            refine lv_goto (tgt := 82) hx hb dX5_mayLift_78 (by decide) ?_
            exact J82 1 _ _ _ hrun hP hD hK hS (lv_sub hl [] rfl)
          · refine lv_if_ne (tgt := 81) hx hb dX5_mayLift_74 (by decide) (fun _ => ?_) (fun c => absurd c hc18)
            exact J81 _ _ _ hrun hP hD hK hS (lv_sub hl [] rfl)
        · refine lv_if_ne (tgt := 81) hx hb dX5_mayLift_53 (by decide) (fun _ => ?_) (fun c => absurd c hc13)
          exact J81 _ _ _ hrun hP hD hK hS (lv_sub hl [] rfl)
      · refine lv_if_ne (tgt := 81) hx hb dX5_mayLift_32 (by decide) (fun _ => ?_) (fun c => absurd c hc8)
        exact J81 _ _ _ hrun hP hD hK hS (lv_sub hl [] rfl)
def fX5_liftBlock_J76 (kk10 : Int32 → Int32 → ST → ST → ST → Option (Int32 × ST × ST × ST)) (v8_10 : Int32) (p1_2w_10 : ST) (v6_76 : Int32) (p0w_76 : ST) (p1w_76 : ST) (p1_2w_76 : ST) : Option (Int32 × ST × ST × ST) := (kk10 v6_76 (p1_2w_10 6 (nn v8_10)) p0w_76 p1w_76 p1_2w_76)
def fX5_liftBlock_L10 (p2 : Int32) (p3 : Int64) (p4 : Int32) (p1_2n : Nat → Nat) : Nat → Int32 → Int32 → ST → ST → ST → Option (Int32 × ST × ST × ST)
  | 0 => fun _ _ _ _ _ => none
  | n_10 + 1 => fun v6_10 v8_10 p0w_10 p1w_10 p1_2w_10 => (if v8_10 < 0 then some (v6_10, p0w_10, p1w_10, p1_2w_10) else (if ixb v8_10 (p1_2n 6) = true then ((fX5_mayLift p0w_10 v8_10 p3 p1_2n p1_2w_10).bind fun (o_5 : Int32) => (if o_5 = 0 then ((fX1_link p1w_10 p2 v8_10 p1_2n p1_2w_10).bind fun (o_8 : ST × ST) => (fX5_liftBlock_J76 (fX5_liftBlock_L10 p2 p3 p4 p1_2n n_10) v8_10 p1_2w_10 v6_10 p0w_10 (o_8.1) (o_8.2))) else ((fX1_link p1w_10 p4 v8_10 p1_2n p1_2w_10).bind fun (o_9 : ST × ST) => (if ixb v8_10 (p1_2n 3) = true then (if ixb (((o_9.2) 3) (nn v8_10)) 250 = true then (lt9 (upw p0w_10 3 (nn (((o_9.2) 3) (nn v8_10))) p4) fun (w12 : ST) => (fX5_liftBlock_J76 (fX5_liftBlock_L10 p2 p3 p4 p1_2n n_10) v8_10 p1_2w_10 (v6_10 + 1) w12 (o_9.1) (o_9.2))) else none) else none)))) else none))
def fX5_liftBlock (p0w : ST) (p1w : ST) (p2 : Int32) (p3 : Int64) (p4 : Int32) (p1_2n : Nat → Nat) (p1_2w : ST) : Option (Int32 × ST × ST × ST) := ((fX1_takeSteps p1w p2).bind fun (o_1 : Int32 × ST) => ((fX5_liftBlock_L10 p2 p3 p4 p1_2n NF 0 (o_1.1) p0w (o_1.2) p1_2w).bind fun (o10 : Int32 × ST × ST × ST) => some ((o10.1), (o10.2.1), (o10.2.2.1), (o10.2.2.2))))
set_option maxHeartbeats 16000000 in
set_option maxRecDepth 100000 in
theorem kX5_liftBlock {zs : Nat × Nat} (l : Launch) (dC : Nat → ClassId) (dI : Nat → Nat → Nat) (p0a : Nat → Nat) (p0k : Nat → ClassId) (p0w : ST) (p0l : SL) (p1a : Nat → Nat) (p1k : Nat → ClassId) (p1n : Nat → Nat) (p1w : ST) (p1l : SL) (p2 : Int32) (p3 : Int64) (p4 : Int32) (p1_2a : Nat → Nat) (p1_2k : Nat → ClassId) (p1_2n : Nat → Nat) (p1_2w : ST) (sz : Nat) (o : Int32 × ST × ST × ST) (hrun : fX5_liftBlock p0w p1w p2 p3 p4 p1_2n p1_2w = some o) : Met l yX5_liftBlock (wz yX5_liftBlock cX5_liftBlock 9 (Option.some Jvm.ClassFile.FieldType.int)) ({ frames := 3, cells := 0, slots := 0, locals := 71 } : Room) (va_Pc [.ref (p0a 0), .ref (p1a 0), .int p2, .long p3, .int p4] (PRE zs dC dI ((oX5 (p0a 0) p0a p0k p0w p0l) ++ (oX1 (p1a 0) p1a p1k p1n p1w p1l) ++ (oX9 (p1a 3) p1_2a p1_2k p1_2n p1_2w)) ((tX5 p0k) ++ (tX1 p1k) ++ (tX9 p1_2k)) sz)) (va_Qi (fun (r : Int32) (_ : Unit) => r = (o.1)) (fun _ t => POST dC dI ((oX5 (p0a 0) p0a p0k (o.2.1) p0l) ++ (oX1 (p1a 0) p1a p1k p1n (o.2.2.1) p1l) ++ (oX9 (p1a 3) p1_2a p1_2k p1_2n (o.2.2.2))) ((tX5 p0k) ++ (tX1 p1k) ++ (tX9 p1_2k)) (va_A ((oX5 (p0a 0) p0a p0k p0w p0l) ++ (oX1 (p1a 0) p1a p1k p1n p1w p1l) ++ (oX9 (p1a 3) p1_2a p1_2k p1_2n p1_2w)) sz) t) (va_A ((oX5 (p0a 0) p0a p0k p0w p0l) ++ (oX1 (p1a 0) p1a p1k p1n p1w p1l) ++ (oX9 (p1a 3) p1_2a p1_2k p1_2n p1_2w)) sz)) 0 0 (va_A ((oX5 (p0a 0) p0a p0k p0w p0l) ++ (oX1 (p1a 0) p1a p1k p1n p1w p1l) ++ (oX9 (p1a 3) p1_2a p1_2k p1_2n p1_2w)) sz) := by
  refine Met.ofW (cc := cX5_liftBlock) (maxL := 9) (ret := (Option.some Jvm.ClassFile.FieldType.int)) (by decide) rfl ?_
  intro p e s m args below meth c s₁ B hml hv
  obtain ⟨rfl, hsz, hP, hK, hD0, hE⟩ := hv
  have hx := B.exec
  have hb := B.bytes
  have hr := B.returns
  have hts0 := atoms_spec (ws := wz yX5_liftBlock cX5_liftBlock 9 (Option.some Jvm.ClassFile.FieldType.int)) B.pre
  have hts : ∀ w ∈ gw, w.before _ s = true := fun w h => hts0 w (List.mem_cons_of_mem _ h)
  have hown : s.vm.findClass RX5 = some m.cls := findClass_of_methodNamed B.named
  have hlocks := B.notSynchronized
  subst hsz
  have hD := hD0.self (sz := s.heap.size)
  refine gQ9 ?_
  intro Q hQ
  generalize hAe : va_A ((oX5 (p0a 0) p0a p0k p0w p0l) ++ (oX1 (p1a 0) p1a p1k p1n p1w p1l) ++ (oX9 (p1a 3) p1_2a p1_2k p1_2n p1_2w)) s.heap.size = A at hD hE hQ
  have hA : ∀ q : Nat, s.heap.size ≤ q → A q := fun q h => by rw [← hAe]; exact Or.inr h
  have hS : va_S A s.heap s.heap [] := va_S.rf
  have hP : va_P (dC, dI) cls ((oX5 (p0a 0) p0a p0k p0w p0l) ++ (oX1 (p1a 0) p1a p1k p1n p1w p1l) ++ (oX9 (p1a 3) p1_2a p1_2k p1_2n p1_2w)) s.heap := hP
  have hl := lv_entry ([.ref (p0a 0), .ref (p1a 0), .int p2, .long p3, .int p4]) (n := 9) (Nat.le_of_ble_eq_true rfl)
  rw [lg_entry_eq]
  generalize (lg_sl ([.ref (p0a 0), .ref (p1a 0), .int p2, .long p3, .int p4]) ++ List.replicate (9 - (lg_sl ([.ref (p0a 0), .ref (p1a 0), .int p2, .long p3, .int p4])).length) Slot.unset).toArray = ls at hl ⊢
  have hl : lv_has ls 9 [(0, .ref (p0a 0)), (1, .ref (p1a 0)), (2, .int p2), (3, .long p3), (5, .int p4)] := hl
  obtain ⟨H, hHe⟩ : ∃ H, H = s.heap := ⟨_, rfl⟩
  obtain ⟨locs, hle⟩ : ∃ locs : List Loc, locs = [] := ⟨_, rfl⟩
  rw [← hHe] at hP
  have hS : va_S A s.heap H locs := by rw [hHe, hle]; exact hS
  show W p l e ({ frames := 3, cells := 0, slots := 0, locals := 71 } : Room) s m ([.ref (p0a 0), .ref (p1a 0), .int p2, .long p3, .int p4] : List Value).toArray below meth c s.heap [] 0 0 Q (F0 m 0 ls [])
  rw [← hle]
  refine wH9 hHe ?_
  unfold fX5_liftBlock at hrun
  refine lv_iconst (v := 0) hx hb dX5_liftBlock_0 (by decide) ?_
  refine lv_istore (lv' := [(6, .int 0), (0, .ref (p0a 0)), (1, .ref (p1a 0)), (2, .int p2), (3, .long p3), (5, .int p4)]) hx hb dX5_liftBlock_1 hl (by decide) rfl (fun ls hl => ?_)
  refine lv_aload_n hx hb dX5_liftBlock_3 rfl (lv_at hl 2 rfl) ?_
  refine lv_iload_n hx hb dX5_liftBlock_4 rfl (lv_at hl 3 rfl) ?_
  obtain ⟨o_1, hc_1, hrun⟩ := bnd9 hrun
  have hPc := hP.sub (ws' := (oX1 (p1a 0) p1a p1k p1n p1w p1l)) [10, 11, 12, 13, 14, 15, 16, 17, 18, 19, 20, 21, 22, 23, 24, 25, 26, 27] rfl
  have hDc := hD.sub (ws' := (oX1 (p1a 0) p1a p1k p1n p1w p1l)) [10, 11, 12, 13, 14, 15, 16, 17, 18, 19, 20, 21, 22, 23, 24, 25, 26, 27] (by decide) rfl
  have hKc := hK.sub (tys' := (tX1 p1k)) [9, 10, 11, 12, 13, 14, 15, 16, 17, 18, 19, 20, 21, 22, 23, 24, 25] rfl
  have hFc := va_free (wc := (oX1 (p1a 0) p1a p1k p1n p1w p1l)) hD hS hA [10, 11, 12, 13, 14, 15, 16, 17, 18, 19, 20, 21, 22, 23, 24, 25, 26, 27] rfl
  refine va_calli (va_runV (As := [.int p2]) (rest := []) ⟨hx, hb, hml, hown, hts⟩ (kX1_takeSteps l dC dI (p0a := (st0 (p1a 0) p1a)) (p0k := p1k) (p0n := p1n) (p0w := p1w) (p0l := p1l) (p1 := p2) (sz := _) (o := o_1) (hrun := hc_1)) (cwV 1 hts (gi_V qw488 qw179 qw180 qw126 (gi_z qw177)) rfl rfl rfl (by decide +kernel) ⟨Nat.le_of_ble_eq_true rfl, Nat.le_of_ble_eq_true rfl⟩) ⟨PRE.blind, va_recv hKc hPc (ci := 4) (q0 := 0) rfl rfl, PRE.of hE hS hFc hPc hKc hDc⟩ rfl rfl hl.1 rfl (lv_room (Nat.le_of_ble_eq_true rfl)) dX5_liftBlock_5 ⟨(Nat.le_of_ble_eq_true rfl), (Nat.le_of_ble_eq_true rfl)⟩) hS (fun q _ h => hFc q h) hFc (fun r2 u t H locs ht hvm hw hB hz1 hk1 hS => ?_)
  obtain ⟨hP, hD, hK⟩ := JOIN (wr := ((oX5 (p0a 0) p0a p0k p0w p0l) ++ (oX9 (p1a 3) p1_2a p1_2k p1_2n p1_2w))) hP hD hK [10, 11, 12, 13, 14, 15, 16, 17, 18, 19, 20, 21, 22, 23, 24, 25, 26, 27] [0, 1, 2, 3, 4, 5, 6, 7, 8, 9, 28, 29, 30, 31, 32, 33] [0, 1, 2, 3, 4, 5, 6, 7, 8, 26, 27, 28, 29, 30] rfl rfl (by decide) (by decide) rfl hk1 hFc ht hvm hB
  have hP : va_P (dC, dI) cls ((oX5 (p0a 0) p0a p0k p0w p0l) ++ (oX1 (p1a 0) p1a p1k p1n (o_1.2) p1l) ++ (oX9 (p1a 3) p1_2a p1_2k p1_2n p1_2w)) H := hP.sub [0, 1, 2, 3, 4, 5, 6, 7, 8, 9, 16, 17, 18, 19, 20, 21, 22, 23, 24, 25, 26, 27, 28, 29, 30, 31, 32, 33, 10, 11, 12, 13, 14, 15] rfl
  have hD : va_D A ((oX5 (p0a 0) p0a p0k p0w p0l) ++ (oX1 (p1a 0) p1a p1k p1n (o_1.2) p1l) ++ (oX9 (p1a 3) p1_2a p1_2k p1_2n p1_2w)) := hD.sub [0, 1, 2, 3, 4, 5, 6, 7, 8, 9, 16, 17, 18, 19, 20, 21, 22, 23, 24, 25, 26, 27, 28, 29, 30, 31, 32, 33, 10, 11, 12, 13, 14, 15] (by decide) rfl
  have hK : va_K (dC, dI) cls ((tX5 p0k) ++ (tX1 p1k) ++ (tX9 p1_2k)) s := hK.sub [0, 1, 2, 3, 4, 5, 6, 7, 8, 14, 15, 16, 17, 18, 19, 20, 21, 22, 23, 24, 25, 26, 27, 28, 29, 30, 9, 10, 11, 12, 13] rfl
  obtain rfl : r2 = (o_1.1) := hw
  refine lv_istore (lv' := [(8, .int (o_1.1)), (6, .int 0), (0, .ref (p0a 0)), (1, .ref (p1a 0)), (2, .int p2), (3, .long p3), (5, .int p4)]) hx hb dX5_liftBlock_8 hl (by decide) rfl (fun ls hl => ?_)
  have L10 : ∀ (n_10 : Nat) (v6_10 : Int32) (v8_10 : Int32) (p0w_10 : ST) (p1w_10 : ST) (p1_2w_10 : ST) (o10 : Int32 × ST × ST × ST) (H : Heap) (locs : List Loc) (ls : Array Slot), (fX5_liftBlock_L10 p2 p3 p4 p1_2n n_10) v6_10 v8_10 p0w_10 p1w_10 p1_2w_10 = some o10 → va_P (dC, dI) cls ((oX5 (p0a 0) p0a p0k p0w_10 p0l) ++ (oX1 (p1a 0) p1a p1k p1n p1w_10 p1l) ++ (oX9 (p1a 3) p1_2a p1_2k p1_2n p1_2w_10)) H → va_D A ((oX5 (p0a 0) p0a p0k p0w_10 p0l) ++ (oX1 (p1a 0) p1a p1k p1n p1w_10 p1l) ++ (oX9 (p1a 3) p1_2a p1_2k p1_2n p1_2w_10)) → va_K (dC, dI) cls ((tX5 p0k) ++ (tX1 p1k) ++ (tX9 p1_2k)) s → va_S A s.heap H locs → lv_has ls 9 [(0, .ref (p0a 0)), (1, .ref (p1a 0)), (2, .int p2), (3, .long p3), (5, .int p4), (6, .int v6_10), (8, .int v8_10)] → (∀ (H : Heap) (locs : List Loc) (ls : Array Slot), va_P (dC, dI) cls ((oX5 (p0a 0) p0a p0k (o10.2.1) p0l) ++ (oX1 (p1a 0) p1a p1k p1n (o10.2.2.1) p1l) ++ (oX9 (p1a 3) p1_2a p1_2k p1_2n (o10.2.2.2))) H → va_D A ((oX5 (p0a 0) p0a p0k (o10.2.1) p0l) ++ (oX1 (p1a 0) p1a p1k p1n (o10.2.2.1) p1l) ++ (oX9 (p1a 3) p1_2a p1_2k p1_2n (o10.2.2.2))) → va_K (dC, dI) cls ((tX5 p0k) ++ (tX1 p1k) ++ (tX9 p1_2k)) s → va_S A s.heap H locs → lv_has ls 9 [(6, .int (o10.1))] → W p l e ({ frames := 3, cells := 0, slots := 0, locals := 71 } : Room) s m ([.ref (p0a 0), .ref (p1a 0), .int p2, .long p3, .int p4] : List Value).toArray below meth c H locs 0 0 Q (F0 m 83 ls [])) → W p l e ({ frames := 3, cells := 0, slots := 0, locals := 71 } : Room) s m ([.ref (p0a 0), .ref (p1a 0), .int p2, .long p3, .int p4] : List Value).toArray below meth c H locs 0 0 Q (F0 m 10 ls []) := by
    intro n_10
    induction n_10 with
    | zero => intro v6_10 v8_10 p0w_10 p1w_10 p1_2w_10 o10 H locs ls hrun; exact (no9 rfl hrun).elim
    | succ n_10 IH10 =>
      intro v6_10 v8_10 p0w_10 p1w_10 p1_2w_10 o10 H locs ls hrun hP hD hK hS hl hk10
      unfold fX5_liftBlock_L10 at hrun
      refine lv_iload hx hb dX5_liftBlock_10 (lv_at hl 6 rfl) ?_
      rcases br9 hrun with ⟨hc3, hrun⟩ | ⟨hc3, hrun⟩
      · refine lv_if_lt (tgt := 83) hx hb dX5_liftBlock_12 (by decide) (fun _ => ?_) (fun c => absurd hc3 c)
        obtain rfl := (Option.some.inj hrun)
        exact hk10 _ _ _ hP hD hK hS (lv_sub hl [5] rfl)
      · refine lv_if_lt (tgt := 83) hx hb dX5_liftBlock_12 (by decide) (fun c => absurd c hc3) (fun _ => ?_)
        refine lv_aload_n hx hb dX5_liftBlock_15 rfl (lv_at hl 1 rfl) ?_
        refine va_get (D := (dC, dI)) (ci := 4) (v := .ref (p1a 3)) (C := RX1) (T := TX1) (N := 21) hx hb hts i_X1 hown hK hP 10 rfl rfl 2 (by decide) (hts _ qw435) (fun _ h9 => h9) rfl dX5_liftBlock_16 ?_
        refine va_get (D := (dC, dI)) (ci := 3) (v := .ref (p1_2a 6)) (C := RX9) (T := TX9) (N := 6) hx hb hts i_X9 hown hK hP 28 rfl rfl 5 (by decide) (hts _ qw437) (fun _ h9 => h9) rfl dX5_liftBlock_19 ?_
        refine lv_iload hx hb dX5_liftBlock_22 (lv_at hl 6 rfl) ?_
        obtain ⟨hq4, hrun⟩ := chk9 hrun
        refine va_iald hx hb hK hP 33 30 rfl rfl (ixb_in hq4) dX5_liftBlock_24 ?_
        refine lv_istore (lv' := [(7, .int (p1_2w_10 6 (nn v8_10))), (0, .ref (p0a 0)), (1, .ref (p1a 0)), (2, .int p2), (3, .long p3), (5, .int p4), (6, .int v6_10), (8, .int v8_10)]) hx hb dX5_liftBlock_25 hl (by decide) rfl (fun ls hl => ?_)
        refine lv_aload_n hx hb dX5_liftBlock_27 rfl (lv_at hl 1 rfl) ?_
        refine lv_aload_n hx hb dX5_liftBlock_28 rfl (lv_at hl 2 rfl) ?_
        refine lv_iload hx hb dX5_liftBlock_29 (lv_at hl 7 rfl) ?_
        refine lv_lload_n hx hb dX5_liftBlock_31 rfl (lv_at hl 4 rfl) ?_
        obtain ⟨o_5, hc_5, hrun⟩ := bnd9 hrun
        have hPc := hP.sub (ws' := ((oX5 (p0a 0) p0a p0k p0w_10 p0l) ++ (oX1 (p1a 0) p1a p1k p1n p1w_10 p1l) ++ (oX9 (p1a 3) p1_2a p1_2k p1_2n p1_2w_10))) [0, 1, 2, 3, 4, 5, 6, 7, 8, 9, 10, 11, 12, 13, 14, 15, 16, 17, 18, 19, 20, 21, 22, 23, 24, 25, 26, 27, 28, 29, 30, 31, 32, 33] rfl
        have hDc := hD.sub (ws' := ((oX5 (p0a 0) p0a p0k p0w_10 p0l) ++ (oX1 (p1a 0) p1a p1k p1n p1w_10 p1l) ++ (oX9 (p1a 3) p1_2a p1_2k p1_2n p1_2w_10))) [0, 1, 2, 3, 4, 5, 6, 7, 8, 9, 10, 11, 12, 13, 14, 15, 16, 17, 18, 19, 20, 21, 22, 23, 24, 25, 26, 27, 28, 29, 30, 31, 32, 33] (by decide) rfl
        have hKc := hK.sub (tys' := ((tX5 p0k) ++ (tX1 p1k) ++ (tX9 p1_2k))) [0, 1, 2, 3, 4, 5, 6, 7, 8, 9, 10, 11, 12, 13, 14, 15, 16, 17, 18, 19, 20, 21, 22, 23, 24, 25, 26, 27, 28, 29, 30] rfl
        have hFc := va_free (wc := ((oX5 (p0a 0) p0a p0k p0w_10 p0l) ++ (oX1 (p1a 0) p1a p1k p1n p1w_10 p1l) ++ (oX9 (p1a 3) p1_2a p1_2k p1_2n p1_2w_10))) hD hS hA [0, 1, 2, 3, 4, 5, 6, 7, 8, 9, 10, 11, 12, 13, 14, 15, 16, 17, 18, 19, 20, 21, 22, 23, 24, 25, 26, 27, 28, 29, 30, 31, 32, 33] rfl
        refine va_calli (va_runV (As := [.ref (p1a 0), .int v8_10, .long p3]) (rest := []) ⟨hx, hb, hml, hown, hts⟩ (kX5_mayLift l dC dI (p0a := (st0 (p0a 0) p0a)) (p0k := p0k) (p0w := p0w_10) (p0l := p0l) (p1a := (st0 (p1a 0) p1a)) (p1k := p1k) (p1n := p1n) (p1w := p1w_10) (p1l := p1l) (p2 := v8_10) (p3 := p3) (p1_2a := p1_2a) (p1_2k := p1_2k) (p1_2n := p1_2n) (p1_2w := p1_2w_10) (sz := _) (o := o_5) (hrun := hc_5)) (cwV 3 hts (gi_V qw596 qw597 qw598 qw442 (gi_z qw595)) rfl rfl rfl (by decide +kernel) ⟨Nat.le_of_ble_eq_true rfl, Nat.le_of_ble_eq_true rfl⟩) ⟨PRE.blind, va_recv hKc hPc (ci := 7) (q0 := 0) rfl rfl, PRE.of hE hS hFc hPc hKc hDc⟩ rfl rfl hl.1 rfl (lv_room (Nat.le_of_ble_eq_true rfl)) dX5_liftBlock_32 ⟨(Nat.le_of_ble_eq_true rfl), (Nat.le_of_ble_eq_true rfl)⟩) hS (fun q _ h => hFc q h) hFc (fun r6 u t H locs ht hvm hw hB hz1 hk1 hS => ?_)
        obtain ⟨hP, hD, hK⟩ := JOIN (wr := ([] : va_W)) hP hD hK [0, 1, 2, 3, 4, 5, 6, 7, 8, 9, 10, 11, 12, 13, 14, 15, 16, 17, 18, 19, 20, 21, 22, 23, 24, 25, 26, 27, 28, 29, 30, 31, 32, 33] [] [] rfl rfl (by decide) (by decide) rfl hk1 hFc ht hvm hB
        have hP : va_P (dC, dI) cls ((oX5 (p0a 0) p0a p0k p0w_10 p0l) ++ (oX1 (p1a 0) p1a p1k p1n p1w_10 p1l) ++ (oX9 (p1a 3) p1_2a p1_2k p1_2n p1_2w_10)) H := hP.sub [0, 1, 2, 3, 4, 5, 6, 7, 8, 9, 10, 11, 12, 13, 14, 15, 16, 17, 18, 19, 20, 21, 22, 23, 24, 25, 26, 27, 28, 29, 30, 31, 32, 33] rfl
        have hD : va_D A ((oX5 (p0a 0) p0a p0k p0w_10 p0l) ++ (oX1 (p1a 0) p1a p1k p1n p1w_10 p1l) ++ (oX9 (p1a 3) p1_2a p1_2k p1_2n p1_2w_10)) := hD.sub [0, 1, 2, 3, 4, 5, 6, 7, 8, 9, 10, 11, 12, 13, 14, 15, 16, 17, 18, 19, 20, 21, 22, 23, 24, 25, 26, 27, 28, 29, 30, 31, 32, 33] (by decide) rfl
        have hK : va_K (dC, dI) cls ((tX5 p0k) ++ (tX1 p1k) ++ (tX9 p1_2k)) s := hK.sub [0, 1, 2, 3, 4, 5, 6, 7, 8, 9, 10, 11, 12, 13, 14, 15, 16, 17, 18, 19, 20, 21, 22, 23, 24, 25, 26, 27, 28, 29, 30] rfl
        obtain rfl : o_5 = r6 := hw.symm
        have J76 : ∀ (v6_76 : Int32) (p0w_76 : ST) (p1w_76 : ST) (p1_2w_76 : ST) (H : Heap) (locs : List Loc) (ls : Array Slot), (fX5_liftBlock_J76 (fX5_liftBlock_L10 p2 p3 p4 p1_2n n_10) v8_10 p1_2w_10 v6_76 p0w_76 p1w_76 p1_2w_76) = some o10 → va_P (dC, dI) cls ((oX5 (p0a 0) p0a p0k p0w_76 p0l) ++ (oX1 (p1a 0) p1a p1k p1n p1w_76 p1l) ++ (oX9 (p1a 3) p1_2a p1_2k p1_2n p1_2w_76)) H → va_D A ((oX5 (p0a 0) p0a p0k p0w_76 p0l) ++ (oX1 (p1a 0) p1a p1k p1n p1w_76 p1l) ++ (oX9 (p1a 3) p1_2a p1_2k p1_2n p1_2w_76)) → va_K (dC, dI) cls ((tX5 p0k) ++ (tX1 p1k) ++ (tX9 p1_2k)) s → va_S A s.heap H locs → lv_has ls 9 [(0, .ref (p0a 0)), (1, .ref (p1a 0)), (2, .int p2), (3, .long p3), (5, .int p4), (6, .int v6_76), (7, .int (p1_2w_10 6 (nn v8_10)))] → W p l e ({ frames := 3, cells := 0, slots := 0, locals := 71 } : Room) s m ([.ref (p0a 0), .ref (p1a 0), .int p2, .long p3, .int p4] : List Value).toArray below meth c H locs 0 0 Q (F0 m 76 ls []) := by
          intro v6_76 p0w_76 p1w_76 p1_2w_76 H locs ls hrun hP hD hK hS hl 
          unfold fX5_liftBlock_J76 at hrun
          refine lv_iload hx hb dX5_liftBlock_76 (lv_at hl 6 rfl) ?_
          refine lv_istore (lv' := [(8, .int (p1_2w_10 6 (nn v8_10))), (0, .ref (p0a 0)), (1, .ref (p1a 0)), (2, .int p2), (3, .long p3), (5, .int p4), (6, .int v6_76), (7, .int (p1_2w_10 6 (nn v8_10)))]) hx hb dX5_liftBlock_78 hl (by decide) rfl (fun ls hl => ?_)
          refine lv_goto (tgt := 10) hx hb dX5_liftBlock_80 (by decide) ?_
          exact IH10 v6_76 (p1_2w_10 6 (nn v8_10)) p0w_76 p1w_76 p1_2w_76 o10 _ _ _ hrun hP hD hK hS (lv_sub hl [1, 2, 3, 4, 5, 6, 0] rfl) hk10
        rcases br9 hrun with ⟨hc7, hrun⟩ | ⟨hc7, hrun⟩
        · refine lv_if_eq (tgt := 69) hx hb dX5_liftBlock_35 (by decide) (fun _ => ?_) (fun c => absurd hc7 c)
          refine lv_aload_n hx hb dX5_liftBlock_69 rfl (lv_at hl 2 rfl) ?_
          refine lv_iload_n hx hb dX5_liftBlock_70 rfl (lv_at hl 3 rfl) ?_
          refine lv_iload hx hb dX5_liftBlock_71 (lv_at hl 7 rfl) ?_
          obtain ⟨o_8, hc_8, hrun⟩ := bnd9 hrun
          have hPc := hP.sub (ws' := ((oX1 (p1a 0) p1a p1k p1n p1w_10 p1l) ++ (oX9 (p1a 3) p1_2a p1_2k p1_2n p1_2w_10))) [10, 11, 12, 13, 14, 15, 16, 17, 18, 19, 20, 21, 22, 23, 24, 25, 26, 27, 28, 29, 30, 31, 32, 33] rfl
          have hDc := hD.sub (ws' := ((oX1 (p1a 0) p1a p1k p1n p1w_10 p1l) ++ (oX9 (p1a 3) p1_2a p1_2k p1_2n p1_2w_10))) [10, 11, 12, 13, 14, 15, 16, 17, 18, 19, 20, 21, 22, 23, 24, 25, 26, 27, 28, 29, 30, 31, 32, 33] (by decide) rfl
          have hKc := hK.sub (tys' := ((tX1 p1k) ++ (tX9 p1_2k))) [9, 10, 11, 12, 13, 14, 15, 16, 17, 18, 19, 20, 21, 22, 23, 24, 25, 26, 27, 28, 29, 30] rfl
          have hFc := va_free (wc := ((oX1 (p1a 0) p1a p1k p1n p1w_10 p1l) ++ (oX9 (p1a 3) p1_2a p1_2k p1_2n p1_2w_10))) hD hS hA [10, 11, 12, 13, 14, 15, 16, 17, 18, 19, 20, 21, 22, 23, 24, 25, 26, 27, 28, 29, 30, 31, 32, 33] rfl
          refine va_callv (va_runV (As := [.int p2, .int v8_10]) (rest := []) ⟨hx, hb, hml, hown, hts⟩ (kX1_link l dC dI (p0a := (st0 (p1a 0) p1a)) (p0k := p1k) (p0n := p1n) (p0w := p1w_10) (p0l := p1l) (p1 := p2) (p2 := v8_10) (p0_2a := p1_2a) (p0_2k := p1_2k) (p0_2n := p1_2n) (p0_2w := p1_2w_10) (sz := _) (o := o_8) (hrun := hc_8)) (cwV 2 hts (gi_V qw494 qw141 qw142 qw126 (gi_z qw139)) rfl rfl rfl (by decide +kernel) ⟨Nat.le_of_ble_eq_true rfl, Nat.le_of_ble_eq_true rfl⟩) ⟨PRE.blind, va_recv hKc hPc (ci := 4) (q0 := 0) rfl rfl, PRE.of hE hS hFc hPc hKc hDc⟩ rfl rfl hl.1 rfl (lv_room (Nat.le_of_ble_eq_true rfl)) dX5_liftBlock_73 ⟨(Nat.le_of_ble_eq_true rfl), (Nat.le_of_ble_eq_true rfl)⟩) hS (fun q _ h => hFc q h) hFc (fun u t H locs ht hvm hw hB hz1 hk1 hS => ?_)
          obtain ⟨hP, hD, hK⟩ := JOIN (wr := (oX5 (p0a 0) p0a p0k p0w_10 p0l)) hP hD hK [10, 11, 12, 13, 14, 15, 16, 17, 18, 19, 20, 21, 22, 23, 24, 25, 26, 27, 28, 29, 30, 31, 32, 33] [0, 1, 2, 3, 4, 5, 6, 7, 8, 9] [0, 1, 2, 3, 4, 5, 6, 7, 8] rfl rfl (by decide) (by decide) rfl hk1 hFc ht hvm hB
          have hP : va_P (dC, dI) cls ((oX5 (p0a 0) p0a p0k p0w_10 p0l) ++ (oX1 (p1a 0) p1a p1k p1n (o_8.1) p1l) ++ (oX9 (p1a 3) p1_2a p1_2k p1_2n (o_8.2))) H := hP.sub [0, 1, 2, 3, 4, 5, 6, 7, 8, 9, 10, 11, 12, 13, 14, 15, 16, 17, 18, 19, 20, 21, 22, 23, 24, 25, 26, 27, 28, 29, 30, 31, 32, 33] rfl
          have hD : va_D A ((oX5 (p0a 0) p0a p0k p0w_10 p0l) ++ (oX1 (p1a 0) p1a p1k p1n (o_8.1) p1l) ++ (oX9 (p1a 3) p1_2a p1_2k p1_2n (o_8.2))) := hD.sub [0, 1, 2, 3, 4, 5, 6, 7, 8, 9, 10, 11, 12, 13, 14, 15, 16, 17, 18, 19, 20, 21, 22, 23, 24, 25, 26, 27, 28, 29, 30, 31, 32, 33] (by decide) rfl
          have hK : va_K (dC, dI) cls ((tX5 p0k) ++ (tX1 p1k) ++ (tX9 p1_2k)) s := hK.sub [0, 1, 2, 3, 4, 5, 6, 7, 8, 9, 10, 11, 12, 13, 14, 15, 16, 17, 18, 19, 20, 21, 22, 23, 24, 25, 26, 27, 28, 29, 30] rfl
          exact J76 v6_10 p0w_10 (o_8.1) (o_8.2) _ _ _ hrun hP hD hK hS (lv_sub hl [1, 2, 3, 4, 5, 6, 0] rfl)
        · refine lv_if_eq (tgt := 69) hx hb dX5_liftBlock_35 (by decide) (fun c => absurd c hc7) (fun _ => ?_)
          refine lv_aload_n hx hb dX5_liftBlock_38 rfl (lv_at hl 2 rfl) ?_
          refine lv_iload hx hb dX5_liftBlock_39 (lv_at hl 5 rfl) ?_
          refine lv_iload hx hb dX5_liftBlock_41 (lv_at hl 7 rfl) ?_
          obtain ⟨o_9, hc_9, hrun⟩ := bnd9 hrun
          have hPc := hP.sub (ws' := ((oX1 (p1a 0) p1a p1k p1n p1w_10 p1l) ++ (oX9 (p1a 3) p1_2a p1_2k p1_2n p1_2w_10))) [10, 11, 12, 13, 14, 15, 16, 17, 18, 19, 20, 21, 22, 23, 24, 25, 26, 27, 28, 29, 30, 31, 32, 33] rfl
          have hDc := hD.sub (ws' := ((oX1 (p1a 0) p1a p1k p1n p1w_10 p1l) ++ (oX9 (p1a 3) p1_2a p1_2k p1_2n p1_2w_10))) [10, 11, 12, 13, 14, 15, 16, 17, 18, 19, 20, 21, 22, 23, 24, 25, 26, 27, 28, 29, 30, 31, 32, 33] (by decide) rfl
          have hKc := hK.sub (tys' := ((tX1 p1k) ++ (tX9 p1_2k))) [9, 10, 11, 12, 13, 14, 15, 16, 17, 18, 19, 20, 21, 22, 23, 24, 25, 26, 27, 28, 29, 30] rfl
          have hFc := va_free (wc := ((oX1 (p1a 0) p1a p1k p1n p1w_10 p1l) ++ (oX9 (p1a 3) p1_2a p1_2k p1_2n p1_2w_10))) hD hS hA [10, 11, 12, 13, 14, 15, 16, 17, 18, 19, 20, 21, 22, 23, 24, 25, 26, 27, 28, 29, 30, 31, 32, 33] rfl
          refine va_callv (va_runV (As := [.int p4, .int v8_10]) (rest := []) ⟨hx, hb, hml, hown, hts⟩ (kX1_link l dC dI (p0a := (st0 (p1a 0) p1a)) (p0k := p1k) (p0n := p1n) (p0w := p1w_10) (p0l := p1l) (p1 := p4) (p2 := v8_10) (p0_2a := p1_2a) (p0_2k := p1_2k) (p0_2n := p1_2n) (p0_2w := p1_2w_10) (sz := _) (o := o_9) (hrun := hc_9)) (cwV 2 hts (gi_V qw494 qw141 qw142 qw126 (gi_z qw139)) rfl rfl rfl (by decide +kernel) ⟨Nat.le_of_ble_eq_true rfl, Nat.le_of_ble_eq_true rfl⟩) ⟨PRE.blind, va_recv hKc hPc (ci := 4) (q0 := 0) rfl rfl, PRE.of hE hS hFc hPc hKc hDc⟩ rfl rfl hl.1 rfl (lv_room (Nat.le_of_ble_eq_true rfl)) dX5_liftBlock_43 ⟨(Nat.le_of_ble_eq_true rfl), (Nat.le_of_ble_eq_true rfl)⟩) hS (fun q _ h => hFc q h) hFc (fun u t H locs ht hvm hw hB hz1 hk1 hS => ?_)
          obtain ⟨hP, hD, hK⟩ := JOIN (wr := (oX5 (p0a 0) p0a p0k p0w_10 p0l)) hP hD hK [10, 11, 12, 13, 14, 15, 16, 17, 18, 19, 20, 21, 22, 23, 24, 25, 26, 27, 28, 29, 30, 31, 32, 33] [0, 1, 2, 3, 4, 5, 6, 7, 8, 9] [0, 1, 2, 3, 4, 5, 6, 7, 8] rfl rfl (by decide) (by decide) rfl hk1 hFc ht hvm hB
          have hP : va_P (dC, dI) cls ((oX5 (p0a 0) p0a p0k p0w_10 p0l) ++ (oX1 (p1a 0) p1a p1k p1n (o_9.1) p1l) ++ (oX9 (p1a 3) p1_2a p1_2k p1_2n (o_9.2))) H := hP.sub [0, 1, 2, 3, 4, 5, 6, 7, 8, 9, 10, 11, 12, 13, 14, 15, 16, 17, 18, 19, 20, 21, 22, 23, 24, 25, 26, 27, 28, 29, 30, 31, 32, 33] rfl
          have hD : va_D A ((oX5 (p0a 0) p0a p0k p0w_10 p0l) ++ (oX1 (p1a 0) p1a p1k p1n (o_9.1) p1l) ++ (oX9 (p1a 3) p1_2a p1_2k p1_2n (o_9.2))) := hD.sub [0, 1, 2, 3, 4, 5, 6, 7, 8, 9, 10, 11, 12, 13, 14, 15, 16, 17, 18, 19, 20, 21, 22, 23, 24, 25, 26, 27, 28, 29, 30, 31, 32, 33] (by decide) rfl
          have hK : va_K (dC, dI) cls ((tX5 p0k) ++ (tX1 p1k) ++ (tX9 p1_2k)) s := hK.sub [0, 1, 2, 3, 4, 5, 6, 7, 8, 9, 10, 11, 12, 13, 14, 15, 16, 17, 18, 19, 20, 21, 22, 23, 24, 25, 26, 27, 28, 29, 30] rfl
          refine lv_aload_n hx hb dX5_liftBlock_46 rfl (lv_at hl 1 rfl) ?_
          refine va_get (D := (dC, dI)) (ci := 7) (v := .ref (p0a 3)) (C := RX5) (T := TX5) (N := 12) hx hb hts i_X5 hown hK hP 0 rfl rfl 2 (by decide) (hts _ qw429) (fun _ h9 => h9) rfl dX5_liftBlock_47 ?_
          refine lv_aload_n hx hb dX5_liftBlock_50 rfl (lv_at hl 2 rfl) ?_
          refine va_get (D := (dC, dI)) (ci := 4) (v := .ref (p1a 3)) (C := RX1) (T := TX1) (N := 21) hx hb hts i_X1 hown hK hP 10 rfl rfl 2 (by decide) (hts _ qw435) (fun _ h9 => h9) rfl dX5_liftBlock_51 ?_
          refine va_get (D := (dC, dI)) (ci := 3) (v := .ref (p1_2a 3)) (C := RX9) (T := TX9) (N := 6) hx hb hts i_X9 hown hK hP 28 rfl rfl 2 (by decide) (hts _ qw436) (fun _ h9 => h9) rfl dX5_liftBlock_54 ?_
          refine lv_iload hx hb dX5_liftBlock_57 (lv_at hl 7 rfl) ?_
          obtain ⟨hq10, hrun⟩ := chk9 hrun
          refine va_iald hx hb hK hP 30 27 rfl rfl (ixb_in hq10) dX5_liftBlock_59 ?_
          refine lv_iload hx hb dX5_liftBlock_60 (lv_at hl 5 rfl) ?_
          obtain ⟨hq11, hrun⟩ := chk9 hrun
          refine va_iast hx hb hK hP hD hS 2 1 rfl rfl (ixb_in hq11) dX5_liftBlock_62 (fun H locs hP hD hS => ?_)
          have hP : va_P (dC, dI) cls ((oX5 (p0a 0) p0a p0k (upw p0w_10 3 (nn (((o_9.2) 3) (nn v8_10))) p4) p0l) ++ (oX1 (p1a 0) p1a p1k p1n (o_9.1) p1l) ++ (oX9 (p1a 3) p1_2a p1_2k p1_2n (o_9.2))) H := hP
          have hD : va_D A ((oX5 (p0a 0) p0a p0k (upw p0w_10 3 (nn (((o_9.2) 3) (nn v8_10))) p4) p0l) ++ (oX1 (p1a 0) p1a p1k p1n (o_9.1) p1l) ++ (oX9 (p1a 3) p1_2a p1_2k p1_2n (o_9.2))) := hD
          obtain ⟨w12, ew12, hrun⟩ := let9 hrun
          rw [← ew12] at hP hD
          refine lv_iinc (v := (v6_10 + 1)) (lv' := [(6, .int (v6_10 + 1)), (7, .int (p1_2w_10 6 (nn v8_10))), (0, .ref (p0a 0)), (1, .ref (p1a 0)), (2, .int p2), (3, .long p3), (5, .int p4), (8, .int v8_10)]) hx hb dX5_liftBlock_63 hl (k := 6) rfl rfl (by decide) rfl (fun ls hl => ?_)
          refine lv_goto (tgt := 76) hx hb dX5_liftBlock_66 (by decide) ?_
          exact J76 (v6_10 + 1) w12 (o_9.1) (o_9.2) _ _ _ hrun hP hD hK hS (lv_sub hl [2, 3, 4, 5, 6, 0, 1] rfl)
  obtain ⟨o10, hc10, hrun⟩ := bnd9 hrun
  refine L10 NF 0 (o_1.1) p0w (o_1.2) p1_2w o10 _ _ _ hc10 hP hD hK hS (lv_sub hl [2, 3, 4, 5, 6, 1, 0] rfl) ?_
  intro H locs ls hP hD hK hS hl
  have hl := hl
  refine lv_iload hx hb dX5_liftBlock_83 (lv_at hl 0 rfl) ?_
  have ho9 : ((o10.1), (o10.2.1), (o10.2.2.1), (o10.2.2.2)) = o := Option.some.inj hrun
  have hP9 : va_P (dC, dI) cls ((oX5 (p0a 0) p0a p0k (o.2.1) p0l) ++ (oX1 (p1a 0) p1a p1k p1n (o.2.2.1) p1l) ++ (oX9 (p1a 3) p1_2a p1_2k p1_2n (o.2.2.2))) H := by first | exact hP | (rw [← ho9]; exact hP)
  have hD9 : va_D A ((oX5 (p0a 0) p0a p0k (o.2.1) p0l) ++ (oX1 (p1a 0) p1a p1k p1n (o.2.2.1) p1l) ++ (oX9 (p1a 3) p1_2a p1_2k p1_2n (o.2.2.2))) := by first | exact hD | (rw [← ho9]; exact hD)
  subst hQ
  exact W.iret (v := (o10.1)) hx hb hr (fun t ht hW => ⟨⟨(o10.1), (), rfl, (by rw [← ho9]), ⟨by rw [ht]; exact hP9, va_K.moved hW.alike hK, hD9⟩⟩, hS.F ht⟩) hS.2.2 dX5_liftBlock_85
def fX5_liftFromLoops_J95 (kk14 : Int32 → Int32 → ST → ST → ST → Option (Int32 × ST × ST × ST)) (v3_14 : Int32) (v2_95 : Int32) (p0w_95 : ST) (p1w_95 : ST) (p1_2w_95 : ST) : Option (Int32 × ST × ST × ST) := (kk14 v2_95 (v3_14 + (-1)) p0w_95 p1w_95 p1_2w_95)
def fX5_liftFromLoops_J89 (kk48 : Int32 → Int32 → ST → ST → ST → Option (Int32 × ST × ST × ST)) (v5_48 : Int32) (v2_89 : Int32) (p0w_89 : ST) (p1w_89 : ST) (p1_2w_89 : ST) : Option (Int32 × ST × ST × ST) := (kk48 v2_89 (v5_48 + 1) p0w_89 p1w_89 p1_2w_89)
def fX5_liftFromLoops_L48 (p1l : SL) (p1_2n : Nat → Nat) (v3_14 : Int32) (y0_38 : Int32) : Nat → Int32 → Int32 → ST → ST → ST → Option (Int32 × ST × ST × ST)
  | 0 => fun _ _ _ _ _ => none
  | n_48 + 1 => fun v2_48 v5_48 p0w_48 p1w_48 p1_2w_48 => (if (p1w_48 0 0) ≤ v5_48 then some (v2_48, p0w_48, p1w_48, p1_2w_48) else (if ixb v3_14 60 = true then ((fX11_holds (p1l 17 (nn v3_14)) v5_48).bind fun (o_7 : Int32) => (if o_7 = 0 then (fX5_liftFromLoops_J89 (fX5_liftFromLoops_L48 p1l p1_2n v3_14 y0_38 n_48) v5_48 v2_48 p0w_48 p1w_48 p1_2w_48) else (if ixb v3_14 60 = true then ((fX5_liftBlock p0w_48 p1w_48 v5_48 (p1l 17 (nn v3_14)) y0_38 p1_2n p1_2w_48).bind fun (o_11 : Int32 × ST × ST × ST) => (fX5_liftFromLoops_J89 (fX5_liftFromLoops_L48 p1l p1_2n v3_14 y0_38 n_48) v5_48 (v2_48 + (o_11.1)) (o_11.2.1) (o_11.2.2.1) (o_11.2.2.2))) else none))) else none))
def fX5_liftFromLoops_J38 (kk14 : Int32 → Int32 → ST → ST → ST → Option (Int32 × ST × ST × ST)) (p1l : SL) (p1_2n : Nat → Nat) (v2_14 : Int32) (v3_14 : Int32) (p0w_14 : ST) (p1w_14 : ST) (p1_2w_14 : ST) (y0_38 : Int32) : Option (Int32 × ST × ST × ST) := (if y0_38 < 0 then (fX5_liftFromLoops_J95 kk14 v3_14 v2_14 p0w_14 p1w_14 p1_2w_14) else ((fX5_liftFromLoops_L48 p1l p1_2n v3_14 y0_38 NF v2_14 0 p0w_14 p1w_14 p1_2w_14).bind fun (o48 : Int32 × ST × ST × ST) => (fX5_liftFromLoops_J95 kk14 v3_14 (o48.1) (o48.2.1) (o48.2.2.1) (o48.2.2.2))))
def fX5_liftFromLoops_L14 (p1l : SL) (p1_2n : Nat → Nat) : Nat → Int32 → Int32 → ST → ST → ST → Option (Int32 × ST × ST × ST)
  | 0 => fun _ _ _ _ _ => none
  | n_14 + 1 => fun v2_14 v3_14 p0w_14 p1w_14 p1_2w_14 => (if v3_14 < 0 then some (v2_14, p0w_14, p1w_14, p1_2w_14) else (if ixb v3_14 60 = true then (if (lg_cmp (p1l 17 (nn v3_14)) (0 : Int64)) = 0 then (fX5_liftFromLoops_J38 (fX5_liftFromLoops_L14 p1l p1_2n n_14) p1l p1_2n v2_14 v3_14 p0w_14 p1w_14 p1_2w_14 (-1)) else ((fX5_blockAhead p1w_14 p1l v3_14).bind fun (o_14 : Int32) => (fX5_liftFromLoops_J38 (fX5_liftFromLoops_L14 p1l p1_2n n_14) p1l p1_2n v2_14 v3_14 p0w_14 p1w_14 p1_2w_14 o_14))) else none))
def fX5_liftFromLoops (p0w : ST) (p1n : Nat → Nat) (p1w : ST) (p1l : SL) (p1_2n : Nat → Nat) (p1_2w : ST) : Option (Int32 × ST × ST × ST) := ((fX5_findGivers p0w p1n p1w p1_2n p1_2w).bind fun (o_1 : ST) => ((fX5_liftFromLoops_L14 p1l p1_2n NF 0 ((p1w 0 0) - 1) o_1 p1w p1_2w).bind fun (o14 : Int32 × ST × ST × ST) => some ((o14.1), (o14.2.1), (o14.2.2.1), (o14.2.2.2))))
set_option maxHeartbeats 16000000 in
set_option maxRecDepth 100000 in
theorem kX5_liftFromLoops {zs : Nat × Nat} (l : Launch) (dC : Nat → ClassId) (dI : Nat → Nat → Nat) (p0a : Nat → Nat) (p0k : Nat → ClassId) (p0w : ST) (p0l : SL) (p1a : Nat → Nat) (p1k : Nat → ClassId) (p1n : Nat → Nat) (p1w : ST) (p1l : SL) (p1_2a : Nat → Nat) (p1_2k : Nat → ClassId) (p1_2n : Nat → Nat) (p1_2w : ST) (sz : Nat) (o : Int32 × ST × ST × ST) (hrun : fX5_liftFromLoops p0w p1n p1w p1l p1_2n p1_2w = some o) : Met l yX5_liftFromLoops (wz yX5_liftFromLoops cX5_liftFromLoops 6 (Option.some Jvm.ClassFile.FieldType.int)) ({ frames := 4, cells := 0, slots := 0, locals := 99 } : Room) (va_Pc [.ref (p0a 0), .ref (p1a 0)] (PRE zs dC dI ((oX5 (p0a 0) p0a p0k p0w p0l) ++ (oX1 (p1a 0) p1a p1k p1n p1w p1l) ++ (oX9 (p1a 3) p1_2a p1_2k p1_2n p1_2w)) ((tX5 p0k) ++ (tX1 p1k) ++ (tX9 p1_2k)) sz)) (va_Qi (fun (r : Int32) (_ : Unit) => r = (o.1)) (fun _ t => POST dC dI ((oX5 (p0a 0) p0a p0k (o.2.1) p0l) ++ (oX1 (p1a 0) p1a p1k p1n (o.2.2.1) p1l) ++ (oX9 (p1a 3) p1_2a p1_2k p1_2n (o.2.2.2))) ((tX5 p0k) ++ (tX1 p1k) ++ (tX9 p1_2k)) (va_A ((oX5 (p0a 0) p0a p0k p0w p0l) ++ (oX1 (p1a 0) p1a p1k p1n p1w p1l) ++ (oX9 (p1a 3) p1_2a p1_2k p1_2n p1_2w)) sz) t) (va_A ((oX5 (p0a 0) p0a p0k p0w p0l) ++ (oX1 (p1a 0) p1a p1k p1n p1w p1l) ++ (oX9 (p1a 3) p1_2a p1_2k p1_2n p1_2w)) sz)) 0 0 (va_A ((oX5 (p0a 0) p0a p0k p0w p0l) ++ (oX1 (p1a 0) p1a p1k p1n p1w p1l) ++ (oX9 (p1a 3) p1_2a p1_2k p1_2n p1_2w)) sz) := by
  refine Met.ofW (cc := cX5_liftFromLoops) (maxL := 6) (ret := (Option.some Jvm.ClassFile.FieldType.int)) (by decide) rfl ?_
  intro p e s m args below meth c s₁ B hml hv
  obtain ⟨rfl, hsz, hP, hK, hD0, hE⟩ := hv
  have hx := B.exec
  have hb := B.bytes
  have hr := B.returns
  have hts0 := atoms_spec (ws := wz yX5_liftFromLoops cX5_liftFromLoops 6 (Option.some Jvm.ClassFile.FieldType.int)) B.pre
  have hts : ∀ w ∈ gw, w.before _ s = true := fun w h => hts0 w (List.mem_cons_of_mem _ h)
  have hown : s.vm.findClass RX5 = some m.cls := findClass_of_methodNamed B.named
  have hlocks := B.notSynchronized
  subst hsz
  have hD := hD0.self (sz := s.heap.size)
  refine gQ9 ?_
  intro Q hQ
  generalize hAe : va_A ((oX5 (p0a 0) p0a p0k p0w p0l) ++ (oX1 (p1a 0) p1a p1k p1n p1w p1l) ++ (oX9 (p1a 3) p1_2a p1_2k p1_2n p1_2w)) s.heap.size = A at hD hE hQ
  have hA : ∀ q : Nat, s.heap.size ≤ q → A q := fun q h => by rw [← hAe]; exact Or.inr h
  have hS : va_S A s.heap s.heap [] := va_S.rf
  have hP : va_P (dC, dI) cls ((oX5 (p0a 0) p0a p0k p0w p0l) ++ (oX1 (p1a 0) p1a p1k p1n p1w p1l) ++ (oX9 (p1a 3) p1_2a p1_2k p1_2n p1_2w)) s.heap := hP
  have hl := lv_entry ([.ref (p0a 0), .ref (p1a 0)]) (n := 6) (Nat.le_of_ble_eq_true rfl)
  rw [lg_entry_eq]
  generalize (lg_sl ([.ref (p0a 0), .ref (p1a 0)]) ++ List.replicate (6 - (lg_sl ([.ref (p0a 0), .ref (p1a 0)])).length) Slot.unset).toArray = ls at hl ⊢
  have hl : lv_has ls 6 [(0, .ref (p0a 0)), (1, .ref (p1a 0))] := hl
  obtain ⟨H, hHe⟩ : ∃ H, H = s.heap := ⟨_, rfl⟩
  obtain ⟨locs, hle⟩ : ∃ locs : List Loc, locs = [] := ⟨_, rfl⟩
  rw [← hHe] at hP
  have hS : va_S A s.heap H locs := by rw [hHe, hle]; exact hS
  show W p l e ({ frames := 4, cells := 0, slots := 0, locals := 99 } : Room) s m ([.ref (p0a 0), .ref (p1a 0)] : List Value).toArray below meth c s.heap [] 0 0 Q (F0 m 0 ls [])
  rw [← hle]
  refine wH9 hHe ?_
  unfold fX5_liftFromLoops at hrun
  refine lv_aload_n hx hb dX5_liftFromLoops_0 rfl (lv_at hl 0 rfl) ?_
  refine lv_aload_n hx hb dX5_liftFromLoops_1 rfl (lv_at hl 1 rfl) ?_
  obtain ⟨o_1, hc_1, hrun⟩ := bnd9 hrun
  have hPc := hP.sub (ws' := ((oX5 (p0a 0) p0a p0k p0w p0l) ++ (oX1 (p1a 0) p1a p1k p1n p1w p1l) ++ (oX9 (p1a 3) p1_2a p1_2k p1_2n p1_2w))) [0, 1, 2, 3, 4, 5, 6, 7, 8, 9, 10, 11, 12, 13, 14, 15, 16, 17, 18, 19, 20, 21, 22, 23, 24, 25, 26, 27, 28, 29, 30, 31, 32, 33] rfl
  have hDc := hD.sub (ws' := ((oX5 (p0a 0) p0a p0k p0w p0l) ++ (oX1 (p1a 0) p1a p1k p1n p1w p1l) ++ (oX9 (p1a 3) p1_2a p1_2k p1_2n p1_2w))) [0, 1, 2, 3, 4, 5, 6, 7, 8, 9, 10, 11, 12, 13, 14, 15, 16, 17, 18, 19, 20, 21, 22, 23, 24, 25, 26, 27, 28, 29, 30, 31, 32, 33] (by decide) rfl
  have hKc := hK.sub (tys' := ((tX5 p0k) ++ (tX1 p1k) ++ (tX9 p1_2k))) [0, 1, 2, 3, 4, 5, 6, 7, 8, 9, 10, 11, 12, 13, 14, 15, 16, 17, 18, 19, 20, 21, 22, 23, 24, 25, 26, 27, 28, 29, 30] rfl
  have hFc := va_free (wc := ((oX5 (p0a 0) p0a p0k p0w p0l) ++ (oX1 (p1a 0) p1a p1k p1n p1w p1l) ++ (oX9 (p1a 3) p1_2a p1_2k p1_2n p1_2w))) hD hS hA [0, 1, 2, 3, 4, 5, 6, 7, 8, 9, 10, 11, 12, 13, 14, 15, 16, 17, 18, 19, 20, 21, 22, 23, 24, 25, 26, 27, 28, 29, 30, 31, 32, 33] rfl
  refine va_callv (va_runV (As := [.ref (p1a 0)]) (rest := []) ⟨hx, hb, hml, hown, hts⟩ (kX5_findGivers l dC dI (p0a := (st0 (p0a 0) p0a)) (p0k := p0k) (p0w := p0w) (p0l := p0l) (p1a := (st0 (p1a 0) p1a)) (p1k := p1k) (p1n := p1n) (p1w := p1w) (p1l := p1l) (p1_2a := p1_2a) (p1_2k := p1_2k) (p1_2n := p1_2n) (p1_2w := p1_2w) (sz := _) (o := o_1) (hrun := hc_1)) (cwV 1 hts (gi_V qw439 qw440 qw441 qw442 (gi_z qw438)) rfl rfl rfl (by decide +kernel) ⟨Nat.le_of_ble_eq_true rfl, Nat.le_of_ble_eq_true rfl⟩) ⟨PRE.blind, va_recv hKc hPc (ci := 7) (q0 := 0) rfl rfl, PRE.of hE hS hFc hPc hKc hDc⟩ rfl rfl hl.1 rfl (lv_room (Nat.le_of_ble_eq_true rfl)) dX5_liftFromLoops_2 ⟨(Nat.le_of_ble_eq_true rfl), (Nat.le_of_ble_eq_true rfl)⟩) hS (fun q _ h => hFc q h) hFc (fun u t H locs ht hvm hw hB hz1 hk1 hS => ?_)
  obtain ⟨hP, hD, hK⟩ := JOIN (wr := ([] : va_W)) hP hD hK [0, 1, 2, 3, 4, 5, 6, 7, 8, 9, 10, 11, 12, 13, 14, 15, 16, 17, 18, 19, 20, 21, 22, 23, 24, 25, 26, 27, 28, 29, 30, 31, 32, 33] [] [] rfl rfl (by decide) (by decide) rfl hk1 hFc ht hvm hB
  have hP : va_P (dC, dI) cls ((oX5 (p0a 0) p0a p0k o_1 p0l) ++ (oX1 (p1a 0) p1a p1k p1n p1w p1l) ++ (oX9 (p1a 3) p1_2a p1_2k p1_2n p1_2w)) H := hP.sub [0, 1, 2, 3, 4, 5, 6, 7, 8, 9, 10, 11, 12, 13, 14, 15, 16, 17, 18, 19, 20, 21, 22, 23, 24, 25, 26, 27, 28, 29, 30, 31, 32, 33] rfl
  have hD : va_D A ((oX5 (p0a 0) p0a p0k o_1 p0l) ++ (oX1 (p1a 0) p1a p1k p1n p1w p1l) ++ (oX9 (p1a 3) p1_2a p1_2k p1_2n p1_2w)) := hD.sub [0, 1, 2, 3, 4, 5, 6, 7, 8, 9, 10, 11, 12, 13, 14, 15, 16, 17, 18, 19, 20, 21, 22, 23, 24, 25, 26, 27, 28, 29, 30, 31, 32, 33] (by decide) rfl
  have hK : va_K (dC, dI) cls ((tX5 p0k) ++ (tX1 p1k) ++ (tX9 p1_2k)) s := hK.sub [0, 1, 2, 3, 4, 5, 6, 7, 8, 9, 10, 11, 12, 13, 14, 15, 16, 17, 18, 19, 20, 21, 22, 23, 24, 25, 26, 27, 28, 29, 30] rfl
  refine lv_iconst (v := 0) hx hb dX5_liftFromLoops_5 (by decide) ?_
  refine lv_istore_n (lv' := [(2, .int 0), (0, .ref (p0a 0)), (1, .ref (p1a 0))]) hx hb dX5_liftFromLoops_6 rfl hl (by decide) rfl (fun ls hl => ?_)
  refine lv_aload_n hx hb dX5_liftFromLoops_7 rfl (lv_at hl 2 rfl) ?_
  refine va_get (D := (dC, dI)) (ci := 4) (v := .int (p1w 0 0)) (C := RX1) (T := TX1) (N := 21) hx hb hts i_X1 hown hK hP 10 rfl rfl 0 (by decide) (hts _ qw430) (fun _ h9 => h9) rfl dX5_liftFromLoops_8 ?_
  refine lv_iconst (v := 1) hx hb dX5_liftFromLoops_11 (by decide) ?_
  refine lv_isub hx hb dX5_liftFromLoops_12 ?_
  refine lv_istore_n (lv' := [(3, .int ((p1w 0 0) - 1)), (2, .int 0), (0, .ref (p0a 0)), (1, .ref (p1a 0))]) hx hb dX5_liftFromLoops_13 rfl hl (by decide) rfl (fun ls hl => ?_)
  have L14 : ∀ (n_14 : Nat) (v2_14 : Int32) (v3_14 : Int32) (p0w_14 : ST) (p1w_14 : ST) (p1_2w_14 : ST) (o14 : Int32 × ST × ST × ST) (H : Heap) (locs : List Loc) (ls : Array Slot), (fX5_liftFromLoops_L14 p1l p1_2n n_14) v2_14 v3_14 p0w_14 p1w_14 p1_2w_14 = some o14 → va_P (dC, dI) cls ((oX5 (p0a 0) p0a p0k p0w_14 p0l) ++ (oX1 (p1a 0) p1a p1k p1n p1w_14 p1l) ++ (oX9 (p1a 3) p1_2a p1_2k p1_2n p1_2w_14)) H → va_D A ((oX5 (p0a 0) p0a p0k p0w_14 p0l) ++ (oX1 (p1a 0) p1a p1k p1n p1w_14 p1l) ++ (oX9 (p1a 3) p1_2a p1_2k p1_2n p1_2w_14)) → va_K (dC, dI) cls ((tX5 p0k) ++ (tX1 p1k) ++ (tX9 p1_2k)) s → va_S A s.heap H locs → lv_has ls 6 [(0, .ref (p0a 0)), (1, .ref (p1a 0)), (2, .int v2_14), (3, .int v3_14)] → (∀ (H : Heap) (locs : List Loc) (ls : Array Slot), va_P (dC, dI) cls ((oX5 (p0a 0) p0a p0k (o14.2.1) p0l) ++ (oX1 (p1a 0) p1a p1k p1n (o14.2.2.1) p1l) ++ (oX9 (p1a 3) p1_2a p1_2k p1_2n (o14.2.2.2))) H → va_D A ((oX5 (p0a 0) p0a p0k (o14.2.1) p0l) ++ (oX1 (p1a 0) p1a p1k p1n (o14.2.2.1) p1l) ++ (oX9 (p1a 3) p1_2a p1_2k p1_2n (o14.2.2.2))) → va_K (dC, dI) cls ((tX5 p0k) ++ (tX1 p1k) ++ (tX9 p1_2k)) s → va_S A s.heap H locs → lv_has ls 6 [(2, .int (o14.1))] → W p l e ({ frames := 4, cells := 0, slots := 0, locals := 99 } : Room) s m ([.ref (p0a 0), .ref (p1a 0)] : List Value).toArray below meth c H locs 0 0 Q (F0 m 101 ls [])) → W p l e ({ frames := 4, cells := 0, slots := 0, locals := 99 } : Room) s m ([.ref (p0a 0), .ref (p1a 0)] : List Value).toArray below meth c H locs 0 0 Q (F0 m 14 ls []) := by
    intro n_14
    induction n_14 with
    | zero => intro v2_14 v3_14 p0w_14 p1w_14 p1_2w_14 o14 H locs ls hrun; exact (no9 rfl hrun).elim
    | succ n_14 IH14 =>
      intro v2_14 v3_14 p0w_14 p1w_14 p1_2w_14 o14 H locs ls hrun hP hD hK hS hl hk14
      unfold fX5_liftFromLoops_L14 at hrun
      refine lv_iload_n hx hb dX5_liftFromLoops_14 rfl (lv_at hl 3 rfl) ?_
      rcases br9 hrun with ⟨hc2, hrun⟩ | ⟨hc2, hrun⟩
      · refine lv_if_lt (tgt := 101) hx hb dX5_liftFromLoops_15 (by decide) (fun _ => ?_) (fun c => absurd hc2 c)
        obtain rfl := (Option.some.inj hrun)
        exact hk14 _ _ _ hP hD hK hS (lv_sub hl [2] rfl)
      · refine lv_if_lt (tgt := 101) hx hb dX5_liftFromLoops_15 (by decide) (fun c => absurd c hc2) (fun _ => ?_)
        refine lv_aload_n hx hb dX5_liftFromLoops_18 rfl (lv_at hl 1 rfl) ?_
        refine va_get (D := (dC, dI)) (ci := 4) (v := .ref (p1a 17)) (C := RX1) (T := TX1) (N := 21) hx hb hts i_X1 hown hK hP 10 rfl rfl 16 (by decide) (hts _ qw425) (fun _ h9 => h9) rfl dX5_liftFromLoops_19 ?_
        refine lv_iload_n hx hb dX5_liftFromLoops_22 rfl (lv_at hl 3 rfl) ?_
        obtain ⟨hq3, hrun⟩ := chk9 hrun
        refine va_lald hx hb hK hP 24 22 rfl rfl (ixb_in hq3) dX5_liftFromLoops_23 ?_
        refine lv_lconst (v := 0) hx hb dX5_liftFromLoops_24 (by decide) ?_
        refine W.lcmp hx hb dX5_liftFromLoops_25 ?_
        have J38 : ∀ (y0_38 : Int32) (H : Heap) (locs : List Loc) (ls : Array Slot), (fX5_liftFromLoops_J38 (fX5_liftFromLoops_L14 p1l p1_2n n_14) p1l p1_2n v2_14 v3_14 p0w_14 p1w_14 p1_2w_14 y0_38) = some o14 → va_P (dC, dI) cls ((oX5 (p0a 0) p0a p0k p0w_14 p0l) ++ (oX1 (p1a 0) p1a p1k p1n p1w_14 p1l) ++ (oX9 (p1a 3) p1_2a p1_2k p1_2n p1_2w_14)) H → va_D A ((oX5 (p0a 0) p0a p0k p0w_14 p0l) ++ (oX1 (p1a 0) p1a p1k p1n p1w_14 p1l) ++ (oX9 (p1a 3) p1_2a p1_2k p1_2n p1_2w_14)) → va_K (dC, dI) cls ((tX5 p0k) ++ (tX1 p1k) ++ (tX9 p1_2k)) s → va_S A s.heap H locs → lv_has ls 6 [(0, .ref (p0a 0)), (1, .ref (p1a 0)), (2, .int v2_14), (3, .int v3_14)] → W p l e ({ frames := 4, cells := 0, slots := 0, locals := 99 } : Room) s m ([.ref (p0a 0), .ref (p1a 0)] : List Value).toArray below meth c H locs 0 0 Q (F0 m 38 ls [.int y0_38]) := by
          intro y0_38 H locs ls hrun hP hD hK hS hl 
          unfold fX5_liftFromLoops_J38 at hrun
          refine lv_istore (lv' := [(4, .int y0_38), (0, .ref (p0a 0)), (1, .ref (p1a 0)), (2, .int v2_14), (3, .int v3_14)]) hx hb dX5_liftFromLoops_38 hl (by decide) rfl (fun ls hl => ?_)
          refine lv_iload hx hb dX5_liftFromLoops_40 (lv_at hl 0 rfl) ?_
          have J95 : ∀ (v2_95 : Int32) (p0w_95 : ST) (p1w_95 : ST) (p1_2w_95 : ST) (H : Heap) (locs : List Loc) (ls : Array Slot), (fX5_liftFromLoops_J95 (fX5_liftFromLoops_L14 p1l p1_2n n_14) v3_14 v2_95 p0w_95 p1w_95 p1_2w_95) = some o14 → va_P (dC, dI) cls ((oX5 (p0a 0) p0a p0k p0w_95 p0l) ++ (oX1 (p1a 0) p1a p1k p1n p1w_95 p1l) ++ (oX9 (p1a 3) p1_2a p1_2k p1_2n p1_2w_95)) H → va_D A ((oX5 (p0a 0) p0a p0k p0w_95 p0l) ++ (oX1 (p1a 0) p1a p1k p1n p1w_95 p1l) ++ (oX9 (p1a 3) p1_2a p1_2k p1_2n p1_2w_95)) → va_K (dC, dI) cls ((tX5 p0k) ++ (tX1 p1k) ++ (tX9 p1_2k)) s → va_S A s.heap H locs → lv_has ls 6 [(0, .ref (p0a 0)), (1, .ref (p1a 0)), (2, .int v2_95), (3, .int v3_14)] → W p l e ({ frames := 4, cells := 0, slots := 0, locals := 99 } : Room) s m ([.ref (p0a 0), .ref (p1a 0)] : List Value).toArray below meth c H locs 0 0 Q (F0 m 95 ls []) := by
            intro v2_95 p0w_95 p1w_95 p1_2w_95 H locs ls hrun hP hD hK hS hl 
            unfold fX5_liftFromLoops_J95 at hrun
            refine lv_iinc (v := (v3_14 + (-1))) (lv' := [(3, .int (v3_14 + (-1))), (0, .ref (p0a 0)), (1, .ref (p1a 0)), (2, .int v2_95)]) hx hb dX5_liftFromLoops_95 hl (k := 3) rfl rfl (by decide) rfl (fun ls hl => ?_)
            refine lv_goto (tgt := 14) hx hb dX5_liftFromLoops_98 (by decide) ?_
            exact IH14 v2_95 (v3_14 + (-1)) p0w_95 p1w_95 p1_2w_95 o14 _ _ _ hrun hP hD hK hS (lv_sub hl [1, 2, 3, 0] rfl) hk14
          rcases br9 hrun with ⟨hc4, hrun⟩ | ⟨hc4, hrun⟩
          · refine lv_if_lt (tgt := 95) hx hb dX5_liftFromLoops_42 (by decide) (fun _ => ?_) (fun c => absurd hc4 c)
            exact J95 v2_14 p0w_14 p1w_14 p1_2w_14 _ _ _ hrun hP hD hK hS (lv_sub hl [1, 2, 3, 4] rfl)
          · refine lv_if_lt (tgt := 95) hx hb dX5_liftFromLoops_42 (by decide) (fun c => absurd c hc4) (fun _ => ?_)
            refine lv_iconst (v := 0) hx hb dX5_liftFromLoops_45 (by decide) ?_
            refine lv_istore (lv' := [(5, .int 0), (4, .int y0_38), (0, .ref (p0a 0)), (1, .ref (p1a 0)), (2, .int v2_14), (3, .int v3_14)]) hx hb dX5_liftFromLoops_46 hl (by decide) rfl (fun ls hl => ?_)
            have L48 : ∀ (n_48 : Nat) (v2_48 : Int32) (v5_48 : Int32) (p0w_48 : ST) (p1w_48 : ST) (p1_2w_48 : ST) (o48 : Int32 × ST × ST × ST) (H : Heap) (locs : List Loc) (ls : Array Slot), (fX5_liftFromLoops_L48 p1l p1_2n v3_14 y0_38 n_48) v2_48 v5_48 p0w_48 p1w_48 p1_2w_48 = some o48 → va_P (dC, dI) cls ((oX5 (p0a 0) p0a p0k p0w_48 p0l) ++ (oX1 (p1a 0) p1a p1k p1n p1w_48 p1l) ++ (oX9 (p1a 3) p1_2a p1_2k p1_2n p1_2w_48)) H → va_D A ((oX5 (p0a 0) p0a p0k p0w_48 p0l) ++ (oX1 (p1a 0) p1a p1k p1n p1w_48 p1l) ++ (oX9 (p1a 3) p1_2a p1_2k p1_2n p1_2w_48)) → va_K (dC, dI) cls ((tX5 p0k) ++ (tX1 p1k) ++ (tX9 p1_2k)) s → va_S A s.heap H locs → lv_has ls 6 [(0, .ref (p0a 0)), (1, .ref (p1a 0)), (2, .int v2_48), (3, .int v3_14), (4, .int y0_38), (5, .int v5_48)] → (∀ (H : Heap) (locs : List Loc) (ls : Array Slot), va_P (dC, dI) cls ((oX5 (p0a 0) p0a p0k (o48.2.1) p0l) ++ (oX1 (p1a 0) p1a p1k p1n (o48.2.2.1) p1l) ++ (oX9 (p1a 3) p1_2a p1_2k p1_2n (o48.2.2.2))) H → va_D A ((oX5 (p0a 0) p0a p0k (o48.2.1) p0l) ++ (oX1 (p1a 0) p1a p1k p1n (o48.2.2.1) p1l) ++ (oX9 (p1a 3) p1_2a p1_2k p1_2n (o48.2.2.2))) → va_K (dC, dI) cls ((tX5 p0k) ++ (tX1 p1k) ++ (tX9 p1_2k)) s → va_S A s.heap H locs → lv_has ls 6 [(0, .ref (p0a 0)), (1, .ref (p1a 0)), (2, .int (o48.1)), (3, .int v3_14)] → W p l e ({ frames := 4, cells := 0, slots := 0, locals := 99 } : Room) s m ([.ref (p0a 0), .ref (p1a 0)] : List Value).toArray below meth c H locs 0 0 Q (F0 m 95 ls [])) → W p l e ({ frames := 4, cells := 0, slots := 0, locals := 99 } : Room) s m ([.ref (p0a 0), .ref (p1a 0)] : List Value).toArray below meth c H locs 0 0 Q (F0 m 48 ls []) := by
              intro n_48
              induction n_48 with
              | zero => intro v2_48 v5_48 p0w_48 p1w_48 p1_2w_48 o48 H locs ls hrun; exact (no9 rfl hrun).elim
              | succ n_48 IH48 =>
                intro v2_48 v5_48 p0w_48 p1w_48 p1_2w_48 o48 H locs ls hrun hP hD hK hS hl hk48
                unfold fX5_liftFromLoops_L48 at hrun
                refine lv_iload hx hb dX5_liftFromLoops_48 (lv_at hl 5 rfl) ?_
                refine lv_aload_n hx hb dX5_liftFromLoops_50 rfl (lv_at hl 1 rfl) ?_
                refine va_get (D := (dC, dI)) (ci := 4) (v := .int (p1w_48 0 0)) (C := RX1) (T := TX1) (N := 21) hx hb hts i_X1 hown hK hP 10 rfl rfl 0 (by decide) (hts _ qw430) (fun _ h9 => h9) rfl dX5_liftFromLoops_51 ?_
                rcases br9 hrun with ⟨hc5, hrun⟩ | ⟨hc5, hrun⟩
                · refine lv_icmp_ge (tgt := 95) hx hb dX5_liftFromLoops_54 (by decide) (fun _ => ?_) (fun c => absurd hc5 c)
                  obtain rfl := (Option.some.inj hrun)
                  exact hk48 _ _ _ hP hD hK hS (lv_sub hl [0, 1, 2, 3] rfl)
                · refine lv_icmp_ge (tgt := 95) hx hb dX5_liftFromLoops_54 (by decide) (fun c => absurd c hc5) (fun _ => ?_)
                  refine lv_aload_n hx hb dX5_liftFromLoops_57 rfl (lv_at hl 1 rfl) ?_
                  refine va_get (D := (dC, dI)) (ci := 4) (v := .ref (p1a 17)) (C := RX1) (T := TX1) (N := 21) hx hb hts i_X1 hown hK hP 10 rfl rfl 16 (by decide) (hts _ qw425) (fun _ h9 => h9) rfl dX5_liftFromLoops_58 ?_
                  refine lv_iload_n hx hb dX5_liftFromLoops_61 rfl (lv_at hl 3 rfl) ?_
                  obtain ⟨hq6, hrun⟩ := chk9 hrun
                  refine va_lald hx hb hK hP 24 22 rfl rfl (ixb_in hq6) dX5_liftFromLoops_62 ?_
                  refine lv_iload hx hb dX5_liftFromLoops_63 (lv_at hl 5 rfl) ?_
                  obtain ⟨o_7, hc_7, hrun⟩ := bnd9 hrun
                  have hPc := hP.sub (ws' := ([] : va_W)) [] rfl
                  have hDc := hD.sub (ws' := ([] : va_W)) [] (by decide) rfl
                  have hKc := hK.sub (tys' := ([] : List (ClassId × FieldType))) [] rfl
                  have hFc := va_free (wc := ([] : va_W)) hD hS hA [] rfl
                  refine va_calli (va_runSN (As := [.long (p1l 17 (nn v3_14)), .int v5_48]) (rest := []) ⟨hx, hb, hml, hown, hts⟩ (kX11_holds l dC dI (p0 := (p1l 17 (nn v3_14))) (p1 := v5_48) (sz := _) (o := o_7) (hrun := hc_7)) ⟨(va_cnB 2 hts (gi_z qw192) rfl rfl rfl (hE.nw (List.mem_append_right _ (tbl_7 (i := 146) rfl)) rfl) (hts _ qw129) (by decide +kernel) ⟨Nat.le_of_ble_eq_true rfl, Nat.le_of_ble_eq_true rfl⟩), (hts _ qw193), trivial⟩ ⟨PRE.blind, PRE.of hE hS hFc hPc hKc hDc⟩ rfl rfl hl.1 rfl (lv_room (Nat.le_of_ble_eq_true rfl)) dX5_liftFromLoops_65 ⟨(Nat.le_of_ble_eq_true rfl), (Nat.le_of_ble_eq_true rfl)⟩) hS (fun q _ h => hFc q h) hFc (fun r8 u t H locs ht hvm hw hB hz1 hk1 hS => ?_)
                  obtain ⟨hP, hD, hK⟩ := JOIN (wr := ((oX5 (p0a 0) p0a p0k p0w_48 p0l) ++ (oX1 (p1a 0) p1a p1k p1n p1w_48 p1l) ++ (oX9 (p1a 3) p1_2a p1_2k p1_2n p1_2w_48))) hP hD hK [] [0, 1, 2, 3, 4, 5, 6, 7, 8, 9, 10, 11, 12, 13, 14, 15, 16, 17, 18, 19, 20, 21, 22, 23, 24, 25, 26, 27, 28, 29, 30, 31, 32, 33] [0, 1, 2, 3, 4, 5, 6, 7, 8, 9, 10, 11, 12, 13, 14, 15, 16, 17, 18, 19, 20, 21, 22, 23, 24, 25, 26, 27, 28, 29, 30] rfl rfl (by decide) (by decide) rfl hk1 hFc ht hvm hB
                  have hP : va_P (dC, dI) cls ((oX5 (p0a 0) p0a p0k p0w_48 p0l) ++ (oX1 (p1a 0) p1a p1k p1n p1w_48 p1l) ++ (oX9 (p1a 3) p1_2a p1_2k p1_2n p1_2w_48)) H := hP.sub [0, 1, 2, 3, 4, 5, 6, 7, 8, 9, 10, 11, 12, 13, 14, 15, 16, 17, 18, 19, 20, 21, 22, 23, 24, 25, 26, 27, 28, 29, 30, 31, 32, 33] rfl
                  have hD : va_D A ((oX5 (p0a 0) p0a p0k p0w_48 p0l) ++ (oX1 (p1a 0) p1a p1k p1n p1w_48 p1l) ++ (oX9 (p1a 3) p1_2a p1_2k p1_2n p1_2w_48)) := hD.sub [0, 1, 2, 3, 4, 5, 6, 7, 8, 9, 10, 11, 12, 13, 14, 15, 16, 17, 18, 19, 20, 21, 22, 23, 24, 25, 26, 27, 28, 29, 30, 31, 32, 33] (by decide) rfl
                  have hK : va_K (dC, dI) cls ((tX5 p0k) ++ (tX1 p1k) ++ (tX9 p1_2k)) s := hK.sub [0, 1, 2, 3, 4, 5, 6, 7, 8, 9, 10, 11, 12, 13, 14, 15, 16, 17, 18, 19, 20, 21, 22, 23, 24, 25, 26, 27, 28, 29, 30] rfl
                  obtain rfl : o_7 = r8 := hw.symm
                  have J89 : ∀ (v2_89 : Int32) (p0w_89 : ST) (p1w_89 : ST) (p1_2w_89 : ST) (H : Heap) (locs : List Loc) (ls : Array Slot), (fX5_liftFromLoops_J89 (fX5_liftFromLoops_L48 p1l p1_2n v3_14 y0_38 n_48) v5_48 v2_89 p0w_89 p1w_89 p1_2w_89) = some o48 → va_P (dC, dI) cls ((oX5 (p0a 0) p0a p0k p0w_89 p0l) ++ (oX1 (p1a 0) p1a p1k p1n p1w_89 p1l) ++ (oX9 (p1a 3) p1_2a p1_2k p1_2n p1_2w_89)) H → va_D A ((oX5 (p0a 0) p0a p0k p0w_89 p0l) ++ (oX1 (p1a 0) p1a p1k p1n p1w_89 p1l) ++ (oX9 (p1a 3) p1_2a p1_2k p1_2n p1_2w_89)) → va_K (dC, dI) cls ((tX5 p0k) ++ (tX1 p1k) ++ (tX9 p1_2k)) s → va_S A s.heap H locs → lv_has ls 6 [(0, .ref (p0a 0)), (1, .ref (p1a 0)), (2, .int v2_89), (3, .int v3_14), (4, .int y0_38), (5, .int v5_48)] → W p l e ({ frames := 4, cells := 0, slots := 0, locals := 99 } : Room) s m ([.ref (p0a 0), .ref (p1a 0)] : List Value).toArray below meth c H locs 0 0 Q (F0 m 89 ls []) := by
                    intro v2_89 p0w_89 p1w_89 p1_2w_89 H locs ls hrun hP hD hK hS hl 
                    unfold fX5_liftFromLoops_J89 at hrun
                    refine lv_iinc (v := (v5_48 + 1)) (lv' := [(5, .int (v5_48 + 1)), (0, .ref (p0a 0)), (1, .ref (p1a 0)), (2, .int v2_89), (3, .int v3_14), (4, .int y0_38)]) hx hb dX5_liftFromLoops_89 hl (k := 5) rfl rfl (by decide) rfl (fun ls hl => ?_)
                    refine lv_goto (tgt := 48) hx hb dX5_liftFromLoops_92 (by decide) ?_
                    exact IH48 v2_89 (v5_48 + 1) p0w_89 p1w_89 p1_2w_89 o48 _ _ _ hrun hP hD hK hS (lv_sub hl [1, 2, 3, 4, 5, 0] rfl) hk48
                  rcases br9 hrun with ⟨hc9, hrun⟩ | ⟨hc9, hrun⟩
                  · refine lv_if_eq (tgt := 89) hx hb dX5_liftFromLoops_68 (by decide) (fun _ => ?_) (fun c => absurd hc9 c)
                    exact J89 v2_48 p0w_48 p1w_48 p1_2w_48 _ _ _ hrun hP hD hK hS (lv_sub hl [0, 1, 2, 3, 4, 5] rfl)
                  · refine lv_if_eq (tgt := 89) hx hb dX5_liftFromLoops_68 (by decide) (fun c => absurd c hc9) (fun _ => ?_)
                    refine lv_iload_n hx hb dX5_liftFromLoops_71 rfl (lv_at hl 2 rfl) ?_
                    refine lv_aload_n hx hb dX5_liftFromLoops_72 rfl (lv_at hl 0 rfl) ?_
                    refine lv_aload_n hx hb dX5_liftFromLoops_73 rfl (lv_at hl 1 rfl) ?_
                    refine lv_iload hx hb dX5_liftFromLoops_74 (lv_at hl 5 rfl) ?_
                    refine lv_aload_n hx hb dX5_liftFromLoops_76 rfl (lv_at hl 1 rfl) ?_
                    refine va_get (D := (dC, dI)) (ci := 4) (v := .ref (p1a 17)) (C := RX1) (T := TX1) (N := 21) hx hb hts i_X1 hown hK hP 10 rfl rfl 16 (by decide) (hts _ qw425) (fun _ h9 => h9) rfl dX5_liftFromLoops_77 ?_
                    refine lv_iload_n hx hb dX5_liftFromLoops_80 rfl (lv_at hl 3 rfl) ?_
                    obtain ⟨hq10, hrun⟩ := chk9 hrun
                    refine va_lald hx hb hK hP 24 22 rfl rfl (ixb_in hq10) dX5_liftFromLoops_81 ?_
                    refine lv_iload hx hb dX5_liftFromLoops_82 (lv_at hl 4 rfl) ?_
                    obtain ⟨o_11, hc_11, hrun⟩ := bnd9 hrun
                    have hPc := hP.sub (ws' := ((oX5 (p0a 0) p0a p0k p0w_48 p0l) ++ (oX1 (p1a 0) p1a p1k p1n p1w_48 p1l) ++ (oX9 (p1a 3) p1_2a p1_2k p1_2n p1_2w_48))) [0, 1, 2, 3, 4, 5, 6, 7, 8, 9, 10, 11, 12, 13, 14, 15, 16, 17, 18, 19, 20, 21, 22, 23, 24, 25, 26, 27, 28, 29, 30, 31, 32, 33] rfl
                    have hDc := hD.sub (ws' := ((oX5 (p0a 0) p0a p0k p0w_48 p0l) ++ (oX1 (p1a 0) p1a p1k p1n p1w_48 p1l) ++ (oX9 (p1a 3) p1_2a p1_2k p1_2n p1_2w_48))) [0, 1, 2, 3, 4, 5, 6, 7, 8, 9, 10, 11, 12, 13, 14, 15, 16, 17, 18, 19, 20, 21, 22, 23, 24, 25, 26, 27, 28, 29, 30, 31, 32, 33] (by decide) rfl
                    have hKc := hK.sub (tys' := ((tX5 p0k) ++ (tX1 p1k) ++ (tX9 p1_2k))) [0, 1, 2, 3, 4, 5, 6, 7, 8, 9, 10, 11, 12, 13, 14, 15, 16, 17, 18, 19, 20, 21, 22, 23, 24, 25, 26, 27, 28, 29, 30] rfl
                    have hFc := va_free (wc := ((oX5 (p0a 0) p0a p0k p0w_48 p0l) ++ (oX1 (p1a 0) p1a p1k p1n p1w_48 p1l) ++ (oX9 (p1a 3) p1_2a p1_2k p1_2n p1_2w_48))) hD hS hA [0, 1, 2, 3, 4, 5, 6, 7, 8, 9, 10, 11, 12, 13, 14, 15, 16, 17, 18, 19, 20, 21, 22, 23, 24, 25, 26, 27, 28, 29, 30, 31, 32, 33] rfl
                    refine va_calli (va_runV (As := [.ref (p1a 0), .int v5_48, .long (p1l 17 (nn v3_14)), .int y0_38]) (rest := [.int v2_48]) ⟨hx, hb, hml, hown, hts⟩ (kX5_liftBlock l dC dI (p0a := (st0 (p0a 0) p0a)) (p0k := p0k) (p0w := p0w_48) (p0l := p0l) (p1a := (st0 (p1a 0) p1a)) (p1k := p1k) (p1n := p1n) (p1w := p1w_48) (p1l := p1l) (p2 := v5_48) (p3 := (p1l 17 (nn v3_14))) (p4 := y0_38) (p1_2a := p1_2a) (p1_2k := p1_2k) (p1_2n := p1_2n) (p1_2w := p1_2w_48) (sz := _) (o := o_11) (hrun := hc_11)) (cwV 4 hts (gi_V qw600 qw601 qw602 qw442 (gi_z qw599)) rfl rfl rfl (by decide +kernel) ⟨Nat.le_of_ble_eq_true rfl, Nat.le_of_ble_eq_true rfl⟩) ⟨PRE.blind, va_recv hKc hPc (ci := 7) (q0 := 0) rfl rfl, PRE.of hE hS hFc hPc hKc hDc⟩ rfl rfl hl.1 rfl (lv_room (Nat.le_of_ble_eq_true rfl)) dX5_liftFromLoops_84 ⟨(Nat.le_of_ble_eq_true rfl), (Nat.le_of_ble_eq_true rfl)⟩) hS (fun q _ h => hFc q h) hFc (fun r12 u t H locs ht hvm hw hB hz1 hk1 hS => ?_)
                    obtain ⟨hP, hD, hK⟩ := JOIN (wr := ([] : va_W)) hP hD hK [0, 1, 2, 3, 4, 5, 6, 7, 8, 9, 10, 11, 12, 13, 14, 15, 16, 17, 18, 19, 20, 21, 22, 23, 24, 25, 26, 27, 28, 29, 30, 31, 32, 33] [] [] rfl rfl (by decide) (by decide) rfl hk1 hFc ht hvm hB
                    have hP : va_P (dC, dI) cls ((oX5 (p0a 0) p0a p0k (o_11.2.1) p0l) ++ (oX1 (p1a 0) p1a p1k p1n (o_11.2.2.1) p1l) ++ (oX9 (p1a 3) p1_2a p1_2k p1_2n (o_11.2.2.2))) H := hP.sub [0, 1, 2, 3, 4, 5, 6, 7, 8, 9, 10, 11, 12, 13, 14, 15, 16, 17, 18, 19, 20, 21, 22, 23, 24, 25, 26, 27, 28, 29, 30, 31, 32, 33] rfl
                    have hD : va_D A ((oX5 (p0a 0) p0a p0k (o_11.2.1) p0l) ++ (oX1 (p1a 0) p1a p1k p1n (o_11.2.2.1) p1l) ++ (oX9 (p1a 3) p1_2a p1_2k p1_2n (o_11.2.2.2))) := hD.sub [0, 1, 2, 3, 4, 5, 6, 7, 8, 9, 10, 11, 12, 13, 14, 15, 16, 17, 18, 19, 20, 21, 22, 23, 24, 25, 26, 27, 28, 29, 30, 31, 32, 33] (by decide) rfl
                    have hK : va_K (dC, dI) cls ((tX5 p0k) ++ (tX1 p1k) ++ (tX9 p1_2k)) s := hK.sub [0, 1, 2, 3, 4, 5, 6, 7, 8, 9, 10, 11, 12, 13, 14, 15, 16, 17, 18, 19, 20, 21, 22, 23, 24, 25, 26, 27, 28, 29, 30] rfl
                    obtain rfl : r12 = (o_11.1) := hw
                    refine lv_iadd hx hb dX5_liftFromLoops_87 ?_
                    refine lv_istore_n (lv' := [(2, .int (v2_48 + (o_11.1))), (0, .ref (p0a 0)), (1, .ref (p1a 0)), (3, .int v3_14), (4, .int y0_38), (5, .int v5_48)]) hx hb dX5_liftFromLoops_88 rfl hl (by decide) rfl (fun ls hl => ?_)
                    exact J89 (v2_48 + (o_11.1)) (o_11.2.1) (o_11.2.2.1) (o_11.2.2.2) _ _ _ hrun hP hD hK hS (lv_sub hl [1, 2, 0, 3, 4, 5] rfl)
            obtain ⟨o48, hc48, hrun⟩ := bnd9 hrun
            refine L48 NF v2_14 0 p0w_14 p1w_14 p1_2w_14 o48 _ _ _ hc48 hP hD hK hS (lv_sub hl [2, 3, 4, 5, 1, 0] rfl) ?_
            intro H locs ls hP hD hK hS hl
            have hl := hl
            exact J95 (o48.1) (o48.2.1) (o48.2.2.1) (o48.2.2.2) _ _ _ hrun hP hD hK hS (lv_sub hl [0, 1, 2, 3] rfl)
        rcases br9 hrun with ⟨hc13, hrun⟩ | ⟨hc13, hrun⟩
        · refine lv_if_ne (tgt := 33) hx hb dX5_liftFromLoops_26 (by decide) (fun c => absurd hc13 c) (fun _ => ?_)
          refine lv_iconst (v := (-1)) hx hb dX5_liftFromLoops_29 (by decide) ?_
          refine lv_goto (tgt := 38) hx hb dX5_liftFromLoops_30 (by decide) ?_
          exact J38 (-1) _ _ _ hrun hP hD hK hS (lv_sub hl [0, 1, 2, 3] rfl)
        · refine lv_if_ne (tgt := 33) hx hb dX5_liftFromLoops_26 (by decide) (fun _ => ?_) (fun c => absurd c hc13)
          refine lv_aload_n hx hb dX5_liftFromLoops_33 rfl (lv_at hl 1 rfl) ?_
          refine lv_iload_n hx hb dX5_liftFromLoops_34 rfl (lv_at hl 3 rfl) ?_
          obtain ⟨o_14, hc_14, hrun⟩ := bnd9 hrun
          have hPc := hP.sub (ws' := (oX1 (p1a 0) p1a p1k p1n p1w_14 p1l)) [10, 11, 12, 13, 14, 15, 16, 17, 18, 19, 20, 21, 22, 23, 24, 25, 26, 27] rfl
          have hDc := hD.sub (ws' := (oX1 (p1a 0) p1a p1k p1n p1w_14 p1l)) [10, 11, 12, 13, 14, 15, 16, 17, 18, 19, 20, 21, 22, 23, 24, 25, 26, 27] (by decide) rfl
          have hKc := hK.sub (tys' := (tX1 p1k)) [9, 10, 11, 12, 13, 14, 15, 16, 17, 18, 19, 20, 21, 22, 23, 24, 25] rfl
          have hFc := va_free (wc := (oX1 (p1a 0) p1a p1k p1n p1w_14 p1l)) hD hS hA [10, 11, 12, 13, 14, 15, 16, 17, 18, 19, 20, 21, 22, 23, 24, 25, 26, 27] rfl
          refine va_calli (va_runS (As := [.ref (p1a 0), .int v3_14]) (rest := []) ⟨hx, hb, hml, hown, hts⟩ (kX5_blockAhead l dC dI (p0a := (st0 (p1a 0) p1a)) (p0k := p1k) (p0n := p1n) (p0w := p1w_14) (p0l := p1l) (p1 := v3_14) (sz := _) (o := o_14) (hrun := hc_14)) (va_cwS 2 hts (gi_S qw604 qw605 qw442 (gi_z qw603)) rfl rfl rfl (by decide +kernel) ⟨Nat.le_of_ble_eq_true rfl, Nat.le_of_ble_eq_true rfl⟩) ⟨PRE.blind, PRE.of hE hS hFc hPc hKc hDc⟩ rfl rfl hl.1 rfl (lv_room (Nat.le_of_ble_eq_true rfl)) dX5_liftFromLoops_35 ⟨(Nat.le_of_ble_eq_true rfl), (Nat.le_of_ble_eq_true rfl)⟩) hS (fun q _ h => hFc q h) hFc (fun r15 u t H locs ht hvm hw hB hz1 hk1 hS => ?_)
          obtain ⟨hP, hD, hK⟩ := JOIN (wr := ((oX5 (p0a 0) p0a p0k p0w_14 p0l) ++ (oX9 (p1a 3) p1_2a p1_2k p1_2n p1_2w_14))) hP hD hK [10, 11, 12, 13, 14, 15, 16, 17, 18, 19, 20, 21, 22, 23, 24, 25, 26, 27] [0, 1, 2, 3, 4, 5, 6, 7, 8, 9, 28, 29, 30, 31, 32, 33] [0, 1, 2, 3, 4, 5, 6, 7, 8, 26, 27, 28, 29, 30] rfl rfl (by decide) (by decide) rfl hk1 hFc ht hvm hB
          have hP : va_P (dC, dI) cls ((oX5 (p0a 0) p0a p0k p0w_14 p0l) ++ (oX1 (p1a 0) p1a p1k p1n p1w_14 p1l) ++ (oX9 (p1a 3) p1_2a p1_2k p1_2n p1_2w_14)) H := hP.sub [0, 1, 2, 3, 4, 5, 6, 7, 8, 9, 16, 17, 18, 19, 20, 21, 22, 23, 24, 25, 26, 27, 28, 29, 30, 31, 32, 33, 10, 11, 12, 13, 14, 15] rfl
          have hD : va_D A ((oX5 (p0a 0) p0a p0k p0w_14 p0l) ++ (oX1 (p1a 0) p1a p1k p1n p1w_14 p1l) ++ (oX9 (p1a 3) p1_2a p1_2k p1_2n p1_2w_14)) := hD.sub [0, 1, 2, 3, 4, 5, 6, 7, 8, 9, 16, 17, 18, 19, 20, 21, 22, 23, 24, 25, 26, 27, 28, 29, 30, 31, 32, 33, 10, 11, 12, 13, 14, 15] (by decide) rfl
          have hK : va_K (dC, dI) cls ((tX5 p0k) ++ (tX1 p1k) ++ (tX9 p1_2k)) s := hK.sub [0, 1, 2, 3, 4, 5, 6, 7, 8, 14, 15, 16, 17, 18, 19, 20, 21, 22, 23, 24, 25, 26, 27, 28, 29, 30, 9, 10, 11, 12, 13] rfl
          obtain rfl : o_14 = r15 := hw.symm
          exact J38 o_14 _ _ _ hrun hP hD hK hS (lv_sub hl [0, 1, 2, 3] rfl)
  obtain ⟨o14, hc14, hrun⟩ := bnd9 hrun
  refine L14 NF 0 ((p1w 0 0) - 1) o_1 p1w p1_2w o14 _ _ _ hc14 hP hD hK hS (lv_sub hl [2, 3, 1, 0] rfl) ?_
  intro H locs ls hP hD hK hS hl
  have hl := hl
  refine lv_iload_n hx hb dX5_liftFromLoops_101 rfl (lv_at hl 0 rfl) ?_
  have ho9 : ((o14.1), (o14.2.1), (o14.2.2.1), (o14.2.2.2)) = o := Option.some.inj hrun
  have hP9 : va_P (dC, dI) cls ((oX5 (p0a 0) p0a p0k (o.2.1) p0l) ++ (oX1 (p1a 0) p1a p1k p1n (o.2.2.1) p1l) ++ (oX9 (p1a 3) p1_2a p1_2k p1_2n (o.2.2.2))) H := by first | exact hP | (rw [← ho9]; exact hP)
  have hD9 : va_D A ((oX5 (p0a 0) p0a p0k (o.2.1) p0l) ++ (oX1 (p1a 0) p1a p1k p1n (o.2.2.1) p1l) ++ (oX9 (p1a 3) p1_2a p1_2k p1_2n (o.2.2.2))) := by first | exact hD | (rw [← ho9]; exact hD)
  subst hQ
  exact W.iret (v := (o14.1)) hx hb hr (fun t ht hW => ⟨⟨(o14.1), (), rfl, (by rw [← ho9]), ⟨by rw [ht]; exact hP9, va_K.moved hW.alike hK, hD9⟩⟩, hS.F ht⟩) hS.2.2 dX5_liftFromLoops_102
def fX5_mergeable_J55 (kk2 : Int32 → Option (Sum Int32 Unit)) (v2_2 : Int32) : Option (Sum Int32 Unit) := (kk2 (v2_2 + 1))
def fX5_mergeable_L2 (p0l : SL) (p1w : ST) : Nat → Int32 → Option (Sum Int32 Unit)
  | 0 => fun _ => none
  | n_2 + 1 => fun v2_2 => (if (p1w 0 0) ≤ v2_2 then some (Sum.inr ()) else ((fX11_holds (p0l 0 7) v2_2).bind fun (o_2 : Int32) => (if o_2 = 0 then (fX5_mergeable_J55 (fX5_mergeable_L2 p0l p1w n_2) v2_2) else (if ixb v2_2 60 = true then (if (p1w 8 (nn v2_2)) = 22 then (if ixb v2_2 60 = true then (if (p1w 10 (nn v2_2)) = v2_2 then (fX5_mergeable_J55 (fX5_mergeable_L2 p0l p1w n_2) v2_2) else ((fX1_waysTo p1w (p1w 10 (nn v2_2))).bind fun (o_9 : Int32) => (if o_9 = 1 then some (Sum.inl v2_2) else (fX5_mergeable_J55 (fX5_mergeable_L2 p0l p1w n_2) v2_2)))) else none) else (fX5_mergeable_J55 (fX5_mergeable_L2 p0l p1w n_2) v2_2)) else none))))
def fX5_mergeable (p0l : SL) (p1w : ST) : Option Int32 := ((fX5_mergeable_L2 p0l p1w NF 0).bind fun (o2 : (Sum Int32 Unit)) => Sum.elim (fun r => some r) (fun (t2 : Unit) => some (-1)) o2)
set_option maxHeartbeats 16000000 in
set_option maxRecDepth 100000 in
theorem kX5_mergeable {zs : Nat × Nat} (l : Launch) (dC : Nat → ClassId) (dI : Nat → Nat → Nat) (p0a : Nat → Nat) (p0k : Nat → ClassId) (p0w : ST) (p0l : SL) (p1a : Nat → Nat) (p1k : Nat → ClassId) (p1n : Nat → Nat) (p1w : ST) (p1l : SL) (sz : Nat) (o : Int32) (hrun : fX5_mergeable p0l p1w = some o) : Met l yX5_mergeable (wz yX5_mergeable cX5_mergeable 4 (Option.some Jvm.ClassFile.FieldType.int)) ({ frames := 1, cells := 0, slots := 0, locals := 22 } : Room) (va_Pc [.ref (p0a 0), .ref (p1a 0)] (PRE zs dC dI ((oX5 (p0a 0) p0a p0k p0w p0l) ++ (oX1 (p1a 0) p1a p1k p1n p1w p1l)) ((tX5 p0k) ++ (tX1 p1k)) sz)) (va_Qi (fun (r : Int32) (_ : Unit) => r = o) (fun _ t => POST dC dI ((oX5 (p0a 0) p0a p0k p0w p0l) ++ (oX1 (p1a 0) p1a p1k p1n p1w p1l)) ((tX5 p0k) ++ (tX1 p1k)) (va_A ((oX5 (p0a 0) p0a p0k p0w p0l) ++ (oX1 (p1a 0) p1a p1k p1n p1w p1l)) sz) t) (va_A ((oX5 (p0a 0) p0a p0k p0w p0l) ++ (oX1 (p1a 0) p1a p1k p1n p1w p1l)) sz)) 0 0 (va_A ((oX5 (p0a 0) p0a p0k p0w p0l) ++ (oX1 (p1a 0) p1a p1k p1n p1w p1l)) sz) := by
  refine Met.ofW (cc := cX5_mergeable) (maxL := 4) (ret := (Option.some Jvm.ClassFile.FieldType.int)) (by decide) rfl ?_
  intro p e s m args below meth c s₁ B hml hv
  obtain ⟨rfl, hsz, hP, hK, hD0, hE⟩ := hv
  have hx := B.exec
  have hb := B.bytes
  have hr := B.returns
  have hts0 := atoms_spec (ws := wz yX5_mergeable cX5_mergeable 4 (Option.some Jvm.ClassFile.FieldType.int)) B.pre
  have hts : ∀ w ∈ gw, w.before _ s = true := fun w h => hts0 w (List.mem_cons_of_mem _ h)
  have hown : s.vm.findClass RX5 = some m.cls := findClass_of_methodNamed B.named
  have hlocks := B.notSynchronized
  subst hsz
  have hD := hD0.self (sz := s.heap.size)
  refine gQ9 ?_
  intro Q hQ
  generalize hAe : va_A ((oX5 (p0a 0) p0a p0k p0w p0l) ++ (oX1 (p1a 0) p1a p1k p1n p1w p1l)) s.heap.size = A at hD hE hQ
  have hA : ∀ q : Nat, s.heap.size ≤ q → A q := fun q h => by rw [← hAe]; exact Or.inr h
  have hS : va_S A s.heap s.heap [] := va_S.rf
  have hP : va_P (dC, dI) cls ((oX5 (p0a 0) p0a p0k p0w p0l) ++ (oX1 (p1a 0) p1a p1k p1n p1w p1l)) s.heap := hP
  have hl := lv_entry ([.ref (p0a 0), .ref (p1a 0)]) (n := 4) (Nat.le_of_ble_eq_true rfl)
  rw [lg_entry_eq]
  generalize (lg_sl ([.ref (p0a 0), .ref (p1a 0)]) ++ List.replicate (4 - (lg_sl ([.ref (p0a 0), .ref (p1a 0)])).length) Slot.unset).toArray = ls at hl ⊢
  have hl : lv_has ls 4 [(0, .ref (p0a 0)), (1, .ref (p1a 0))] := hl
  obtain ⟨H, hHe⟩ : ∃ H, H = s.heap := ⟨_, rfl⟩
  obtain ⟨locs, hle⟩ : ∃ locs : List Loc, locs = [] := ⟨_, rfl⟩
  rw [← hHe] at hP
  have hS : va_S A s.heap H locs := by rw [hHe, hle]; exact hS
  show W p l e ({ frames := 1, cells := 0, slots := 0, locals := 22 } : Room) s m ([.ref (p0a 0), .ref (p1a 0)] : List Value).toArray below meth c s.heap [] 0 0 Q (F0 m 0 ls [])
  rw [← hle]
  refine wH9 hHe ?_
  unfold fX5_mergeable at hrun
  refine lv_iconst (v := 0) hx hb dX5_mergeable_0 (by decide) ?_
  refine lv_istore_n (lv' := [(2, .int 0), (0, .ref (p0a 0)), (1, .ref (p1a 0))]) hx hb dX5_mergeable_1 rfl hl (by decide) rfl (fun ls hl => ?_)
  have L2 : ∀ (n_2 : Nat) (v2_2 : Int32) (o2 : (Sum Int32 Unit)) (H : Heap) (locs : List Loc) (ls : Array Slot), (fX5_mergeable_L2 p0l p1w n_2) v2_2 = some o2 → va_P (dC, dI) cls ((oX5 (p0a 0) p0a p0k p0w p0l) ++ (oX1 (p1a 0) p1a p1k p1n p1w p1l)) H → va_D A ((oX5 (p0a 0) p0a p0k p0w p0l) ++ (oX1 (p1a 0) p1a p1k p1n p1w p1l)) → va_K (dC, dI) cls ((tX5 p0k) ++ (tX1 p1k)) s → va_S A s.heap H locs → lv_has ls 4 [(0, .ref (p0a 0)), (1, .ref (p1a 0)), (2, .int v2_2)] → (∀ r, o2 = Sum.inl r → r = o) → (∀ (t2 : Unit), o2 = Sum.inr t2 → ∀ (H : Heap) (locs : List Loc) (ls : Array Slot), va_P (dC, dI) cls ((oX5 (p0a 0) p0a p0k p0w p0l) ++ (oX1 (p1a 0) p1a p1k p1n p1w p1l)) H → va_D A ((oX5 (p0a 0) p0a p0k p0w p0l) ++ (oX1 (p1a 0) p1a p1k p1n p1w p1l)) → va_K (dC, dI) cls ((tX5 p0k) ++ (tX1 p1k)) s → va_S A s.heap H locs → lv_has ls 4 [] → W p l e ({ frames := 1, cells := 0, slots := 0, locals := 22 } : Room) s m ([.ref (p0a 0), .ref (p1a 0)] : List Value).toArray below meth c H locs 0 0 Q (F0 m 61 ls [])) → W p l e ({ frames := 1, cells := 0, slots := 0, locals := 22 } : Room) s m ([.ref (p0a 0), .ref (p1a 0)] : List Value).toArray below meth c H locs 0 0 Q (F0 m 2 ls []) := by
    intro n_2
    induction n_2 with
    | zero => intro v2_2 o2 H locs ls hrun; exact (no9 rfl hrun).elim
    | succ n_2 IH2 =>
      intro v2_2 o2 H locs ls hrun hP hD hK hS hl hr2 hk2
      unfold fX5_mergeable_L2 at hrun
      refine lv_iload_n hx hb dX5_mergeable_2 rfl (lv_at hl 2 rfl) ?_
      refine lv_aload_n hx hb dX5_mergeable_3 rfl (lv_at hl 1 rfl) ?_
      refine va_get (D := (dC, dI)) (ci := 4) (v := .int (p1w 0 0)) (C := RX1) (T := TX1) (N := 21) hx hb hts i_X1 hown hK hP 10 rfl rfl 0 (by decide) (hts _ qw430) (fun _ h9 => h9) rfl dX5_mergeable_4 ?_
      rcases br9 hrun with ⟨hc1, hrun⟩ | ⟨hc1, hrun⟩
      · refine lv_icmp_ge (tgt := 61) hx hb dX5_mergeable_7 (by decide) (fun _ => ?_) (fun c => absurd hc1 c)
        obtain rfl := (Option.some.inj hrun)
        exact hk2 _ rfl _ _ _ hP hD hK hS (lv_sub hl [] rfl)
      · refine lv_icmp_ge (tgt := 61) hx hb dX5_mergeable_7 (by decide) (fun c => absurd c hc1) (fun _ => ?_)
        refine lv_aload_n hx hb dX5_mergeable_10 rfl (lv_at hl 0 rfl) ?_
        refine va_get (D := (dC, dI)) (ci := 7) (v := .long (p0l 0 7)) (C := RX5) (T := TX5) (N := 12) hx hb hts i_X5 hown hK hP 0 rfl rfl 7 (by decide) (hts _ qw504) (fun _ h9 => h9) rfl dX5_mergeable_11 ?_
        refine lv_iload_n hx hb dX5_mergeable_14 rfl (lv_at hl 2 rfl) ?_
        obtain ⟨o_2, hc_2, hrun⟩ := bnd9 hrun
        have hPc := hP.sub (ws' := ([] : va_W)) [] rfl
        have hDc := hD.sub (ws' := ([] : va_W)) [] (by decide) rfl
        have hKc := hK.sub (tys' := ([] : List (ClassId × FieldType))) [] rfl
        have hFc := va_free (wc := ([] : va_W)) hD hS hA [] rfl
        refine va_calli (va_runSN (As := [.long (p0l 0 7), .int v2_2]) (rest := []) ⟨hx, hb, hml, hown, hts⟩ (kX11_holds l dC dI (p0 := (p0l 0 7)) (p1 := v2_2) (sz := _) (o := o_2) (hrun := hc_2)) ⟨(va_cnB 2 hts (gi_z qw192) rfl rfl rfl (hE.nw (List.mem_append_right _ (tbl_7 (i := 146) rfl)) rfl) (hts _ qw129) (by decide +kernel) ⟨Nat.le_of_ble_eq_true rfl, Nat.le_of_ble_eq_true rfl⟩), (hts _ qw193), trivial⟩ ⟨PRE.blind, PRE.of hE hS hFc hPc hKc hDc⟩ rfl rfl hl.1 rfl (lv_room (Nat.le_of_ble_eq_true rfl)) dX5_mergeable_15 ⟨(Nat.le_of_ble_eq_true rfl), (Nat.le_of_ble_eq_true rfl)⟩) hS (fun q _ h => hFc q h) hFc (fun r3 u t H locs ht hvm hw hB hz1 hk1 hS => ?_)
        obtain ⟨hP, hD, hK⟩ := JOIN (wr := ((oX5 (p0a 0) p0a p0k p0w p0l) ++ (oX1 (p1a 0) p1a p1k p1n p1w p1l))) hP hD hK [] [0, 1, 2, 3, 4, 5, 6, 7, 8, 9, 10, 11, 12, 13, 14, 15, 16, 17, 18, 19, 20, 21, 22, 23, 24, 25, 26, 27] [0, 1, 2, 3, 4, 5, 6, 7, 8, 9, 10, 11, 12, 13, 14, 15, 16, 17, 18, 19, 20, 21, 22, 23, 24, 25] rfl rfl (by decide) (by decide) rfl hk1 hFc ht hvm hB
        have hP : va_P (dC, dI) cls ((oX5 (p0a 0) p0a p0k p0w p0l) ++ (oX1 (p1a 0) p1a p1k p1n p1w p1l)) H := hP.sub [0, 1, 2, 3, 4, 5, 6, 7, 8, 9, 10, 11, 12, 13, 14, 15, 16, 17, 18, 19, 20, 21, 22, 23, 24, 25, 26, 27] rfl
        have hD : va_D A ((oX5 (p0a 0) p0a p0k p0w p0l) ++ (oX1 (p1a 0) p1a p1k p1n p1w p1l)) := hD.sub [0, 1, 2, 3, 4, 5, 6, 7, 8, 9, 10, 11, 12, 13, 14, 15, 16, 17, 18, 19, 20, 21, 22, 23, 24, 25, 26, 27] (by decide) rfl
        have hK : va_K (dC, dI) cls ((tX5 p0k) ++ (tX1 p1k)) s := hK.sub [0, 1, 2, 3, 4, 5, 6, 7, 8, 9, 10, 11, 12, 13, 14, 15, 16, 17, 18, 19, 20, 21, 22, 23, 24, 25] rfl
        obtain rfl : o_2 = r3 := hw.symm
        have J55 : ∀ (H : Heap) (locs : List Loc) (ls : Array Slot), (fX5_mergeable_J55 (fX5_mergeable_L2 p0l p1w n_2) v2_2) = some o2 → va_P (dC, dI) cls ((oX5 (p0a 0) p0a p0k p0w p0l) ++ (oX1 (p1a 0) p1a p1k p1n p1w p1l)) H → va_D A ((oX5 (p0a 0) p0a p0k p0w p0l) ++ (oX1 (p1a 0) p1a p1k p1n p1w p1l)) → va_K (dC, dI) cls ((tX5 p0k) ++ (tX1 p1k)) s → va_S A s.heap H locs → lv_has ls 4 [(0, .ref (p0a 0)), (1, .ref (p1a 0)), (2, .int v2_2)] → W p l e ({ frames := 1, cells := 0, slots := 0, locals := 22 } : Room) s m ([.ref (p0a 0), .ref (p1a 0)] : List Value).toArray below meth c H locs 0 0 Q (F0 m 55 ls []) := by
          intro  H locs ls hrun hP hD hK hS hl 
          unfold fX5_mergeable_J55 at hrun
          refine lv_iinc (v := (v2_2 + 1)) (lv' := [(2, .int (v2_2 + 1)), (0, .ref (p0a 0)), (1, .ref (p1a 0))]) hx hb dX5_mergeable_55 hl (k := 2) rfl rfl (by decide) rfl (fun ls hl => ?_)
          refine lv_goto (tgt := 2) hx hb dX5_mergeable_58 (by decide) ?_
          exact IH2 (v2_2 + 1) o2 _ _ _ hrun hP hD hK hS (lv_sub hl [1, 2, 0] rfl) hr2 hk2
        rcases br9 hrun with ⟨hc4, hrun⟩ | ⟨hc4, hrun⟩
        · refine lv_if_eq (tgt := 55) hx hb dX5_mergeable_18 (by decide) (fun _ => ?_) (fun c => absurd hc4 c)
          exact J55 _ _ _ hrun hP hD hK hS (lv_sub hl [0, 1, 2] rfl)
        · refine lv_if_eq (tgt := 55) hx hb dX5_mergeable_18 (by decide) (fun c => absurd c hc4) (fun _ => ?_)
          refine lv_aload_n hx hb dX5_mergeable_21 rfl (lv_at hl 1 rfl) ?_
          refine va_get (D := (dC, dI)) (ci := 4) (v := .ref (p1a 8)) (C := RX1) (T := TX1) (N := 21) hx hb hts i_X1 hown hK hP 10 rfl rfl 7 (by decide) (hts _ qw426) (fun _ h9 => h9) rfl dX5_mergeable_22 ?_
          refine lv_iload_n hx hb dX5_mergeable_25 rfl (lv_at hl 2 rfl) ?_
          obtain ⟨hq5, hrun⟩ := chk9 hrun
          refine va_iald hx hb hK hP 15 13 rfl rfl (ixb_in hq5) dX5_mergeable_26 ?_
          refine lv_bipush (v := 22) hx hb dX5_mergeable_27 (by decide) ?_
          rcases br9 hrun with ⟨hc6, hrun⟩ | ⟨hc6, hrun⟩
          · refine lv_icmp_ne (tgt := 55) hx hb dX5_mergeable_29 (by decide) (fun c => absurd hc6 c) (fun _ => ?_)
            refine lv_aload_n hx hb dX5_mergeable_32 rfl (lv_at hl 1 rfl) ?_
            refine va_get (D := (dC, dI)) (ci := 4) (v := .ref (p1a 10)) (C := RX1) (T := TX1) (N := 21) hx hb hts i_X1 hown hK hP 10 rfl rfl 9 (by decide) (hts _ qw498) (fun _ h9 => h9) rfl dX5_mergeable_33 ?_
            refine lv_iload_n hx hb dX5_mergeable_36 rfl (lv_at hl 2 rfl) ?_
            obtain ⟨hq7, hrun⟩ := chk9 hrun
            refine va_iald hx hb hK hP 17 15 rfl rfl (ixb_in hq7) dX5_mergeable_37 ?_
            refine lv_istore_n (lv' := [(3, .int (p1w 10 (nn v2_2))), (0, .ref (p0a 0)), (1, .ref (p1a 0)), (2, .int v2_2)]) hx hb dX5_mergeable_38 rfl hl (by decide) rfl (fun ls hl => ?_)
            refine lv_iload_n hx hb dX5_mergeable_39 rfl (lv_at hl 0 rfl) ?_
            refine lv_iload_n hx hb dX5_mergeable_40 rfl (lv_at hl 3 rfl) ?_
            rcases br9 hrun with ⟨hc8, hrun⟩ | ⟨hc8, hrun⟩
            · refine lv_icmp_eq (tgt := 55) hx hb dX5_mergeable_41 (by decide) (fun _ => ?_) (fun c => absurd hc8 c)
              exact J55 _ _ _ hrun hP hD hK hS (lv_sub hl [1, 2, 3] rfl)
            · refine lv_icmp_eq (tgt := 55) hx hb dX5_mergeable_41 (by decide) (fun c => absurd c hc8) (fun _ => ?_)
              refine lv_aload_n hx hb dX5_mergeable_44 rfl (lv_at hl 2 rfl) ?_
              refine lv_iload_n hx hb dX5_mergeable_45 rfl (lv_at hl 0 rfl) ?_
              obtain ⟨o_9, hc_9, hrun⟩ := bnd9 hrun
              have hPc := hP.sub (ws' := (oX1 (p1a 0) p1a p1k p1n p1w p1l)) [10, 11, 12, 13, 14, 15, 16, 17, 18, 19, 20, 21, 22, 23, 24, 25, 26, 27] rfl
              have hDc := hD.sub (ws' := (oX1 (p1a 0) p1a p1k p1n p1w p1l)) [10, 11, 12, 13, 14, 15, 16, 17, 18, 19, 20, 21, 22, 23, 24, 25, 26, 27] (by decide) rfl
              have hKc := hK.sub (tys' := (tX1 p1k)) [9, 10, 11, 12, 13, 14, 15, 16, 17, 18, 19, 20, 21, 22, 23, 24, 25] rfl
              have hFc := va_free (wc := (oX1 (p1a 0) p1a p1k p1n p1w p1l)) hD hS hA [10, 11, 12, 13, 14, 15, 16, 17, 18, 19, 20, 21, 22, 23, 24, 25, 26, 27] rfl
              refine va_calli (va_runV (As := [.int (p1w 10 (nn v2_2))]) (rest := []) ⟨hx, hb, hml, hown, hts⟩ (kX1_waysTo l dC dI (p0a := (st0 (p1a 0) p1a)) (p0k := p1k) (p0n := p1n) (p0w := p1w) (p0l := p1l) (p1 := (p1w 10 (nn v2_2))) (sz := _) (o := o_9) (hrun := hc_9)) (cwV 1 hts (gi_V qw423 qw185 qw186 qw126 (gi_z qw183)) rfl rfl rfl (by decide +kernel) ⟨Nat.le_of_ble_eq_true rfl, Nat.le_of_ble_eq_true rfl⟩) ⟨PRE.blind, va_recv hKc hPc (ci := 4) (q0 := 0) rfl rfl, PRE.of hE hS hFc hPc hKc hDc⟩ rfl rfl hl.1 rfl (lv_room (Nat.le_of_ble_eq_true rfl)) dX5_mergeable_46 ⟨(Nat.le_of_ble_eq_true rfl), (Nat.le_of_ble_eq_true rfl)⟩) hS (fun q _ h => hFc q h) hFc (fun r10 u t H locs ht hvm hw hB hz1 hk1 hS => ?_)
              obtain ⟨hP, hD, hK⟩ := JOIN (wr := (oX5 (p0a 0) p0a p0k p0w p0l)) hP hD hK [10, 11, 12, 13, 14, 15, 16, 17, 18, 19, 20, 21, 22, 23, 24, 25, 26, 27] [0, 1, 2, 3, 4, 5, 6, 7, 8, 9] [0, 1, 2, 3, 4, 5, 6, 7, 8] rfl rfl (by decide) (by decide) rfl hk1 hFc ht hvm hB
              have hP : va_P (dC, dI) cls ((oX5 (p0a 0) p0a p0k p0w p0l) ++ (oX1 (p1a 0) p1a p1k p1n p1w p1l)) H := hP.sub [0, 1, 2, 3, 4, 5, 6, 7, 8, 9, 10, 11, 12, 13, 14, 15, 16, 17, 18, 19, 20, 21, 22, 23, 24, 25, 26, 27] rfl
              have hD : va_D A ((oX5 (p0a 0) p0a p0k p0w p0l) ++ (oX1 (p1a 0) p1a p1k p1n p1w p1l)) := hD.sub [0, 1, 2, 3, 4, 5, 6, 7, 8, 9, 10, 11, 12, 13, 14, 15, 16, 17, 18, 19, 20, 21, 22, 23, 24, 25, 26, 27] (by decide) rfl
              have hK : va_K (dC, dI) cls ((tX5 p0k) ++ (tX1 p1k)) s := hK.sub [0, 1, 2, 3, 4, 5, 6, 7, 8, 9, 10, 11, 12, 13, 14, 15, 16, 17, 18, 19, 20, 21, 22, 23, 24, 25] rfl
              obtain rfl : o_9 = r10 := hw.symm
              refine lv_iconst (v := 1) hx hb dX5_mergeable_49 (by decide) ?_
              rcases br9 hrun with ⟨hc11, hrun⟩ | ⟨hc11, hrun⟩
              · refine lv_icmp_ne (tgt := 55) hx hb dX5_mergeable_50 (by decide) (fun c => absurd hc11 c) (fun _ => ?_)
                refine lv_iload_n hx hb dX5_mergeable_53 rfl (lv_at hl 3 rfl) ?_
                have ho9 : v2_2 = o := hr2 _ (Option.some.inj hrun).symm
                have hP9 : va_P (dC, dI) cls ((oX5 (p0a 0) p0a p0k p0w p0l) ++ (oX1 (p1a 0) p1a p1k p1n p1w p1l)) H := by first | exact hP | (rw [← ho9]; exact hP)
                have hD9 : va_D A ((oX5 (p0a 0) p0a p0k p0w p0l) ++ (oX1 (p1a 0) p1a p1k p1n p1w p1l)) := by first | exact hD | (rw [← ho9]; exact hD)
                subst hQ
                exact W.iret (v := v2_2) hx hb hr (fun t ht hW => ⟨⟨v2_2, (), rfl, (by rw [← ho9]), ⟨by rw [ht]; exact hP9, va_K.moved hW.alike hK, hD9⟩⟩, hS.F ht⟩) hS.2.2 dX5_mergeable_54
              · refine lv_icmp_ne (tgt := 55) hx hb dX5_mergeable_50 (by decide) (fun _ => ?_) (fun c => absurd c hc11)
                exact J55 _ _ _ hrun hP hD hK hS (lv_sub hl [1, 2, 3] rfl)
          · refine lv_icmp_ne (tgt := 55) hx hb dX5_mergeable_29 (by decide) (fun _ => ?_) (fun c => absurd c hc6)
            exact J55 _ _ _ hrun hP hD hK hS (lv_sub hl [0, 1, 2] rfl)
  obtain ⟨o2, hc2, hrun⟩ := bnd9 hrun
  refine L2 NF 0 o2 _ _ _ hc2 hP hD hK hS (lv_sub hl [1, 2, 0] rfl) (fun r e9 => by subst e9; exact Option.some.inj hrun) ?_
  intro t2 e9
  subst e9
  replace hrun := el9 hrun
  intro H locs ls hP hD hK hS hl
  have hl := hl
  refine lv_iconst (v := (-1)) hx hb dX5_mergeable_61 (by decide) ?_
  have ho9 : (-1) = o := Option.some.inj hrun
  have hP9 : va_P (dC, dI) cls ((oX5 (p0a 0) p0a p0k p0w p0l) ++ (oX1 (p1a 0) p1a p1k p1n p1w p1l)) H := by first | exact hP | (rw [← ho9]; exact hP)
  have hD9 : va_D A ((oX5 (p0a 0) p0a p0k p0w p0l) ++ (oX1 (p1a 0) p1a p1k p1n p1w p1l)) := by first | exact hD | (rw [← ho9]; exact hD)
  subst hQ
  exact W.iret (v := (-1)) hx hb hr (fun t ht hW => ⟨⟨(-1), (), rfl, (by rw [← ho9]), ⟨by rw [ht]; exact hP9, va_K.moved hW.alike hK, hD9⟩⟩, hS.F ht⟩) hS.2.2 dX5_mergeable_62
def fX5_takeFrom_J43 (p0w_43 : ST) : Option ST := some p0w_43
def fX5_takeFrom_L12 (p0n : Nat → Nat) (p2 : Int32) (p3 : Int32) : Nat → Int32 → ST → Option ST
  | 0 => fun _ _ => none
  | n_12 + 1 => fun v4_12 p0w_12 => (if v4_12 < 0 then some p0w_12 else ((fX1_take p0n p0w_12 v4_12 p2).bind fun (o_4 : Int32) => ((fX1_setTake p0n p0w_12 v4_12 p3 o_4).bind fun (o_6 : ST) => (if ixb v4_12 (p0n 20) = true then ((fX5_takeFrom_L12 p0n p2 p3 n_12) (o_6 20 (nn v4_12)) o_6) else none))))
def fX5_takeFrom (p0n : Nat → Nat) (p0w : ST) (p1 : Int32) (p2 : Int32) (p3 : Int32) : Option ST := (if p1 < 0 then (fX5_takeFrom_J43 p0w) else (if ixb p1 60 = true then ((fX5_takeFrom_L12 p0n p2 p3 NF (p0w 6 (nn p1)) p0w).bind fun (o12 : ST) => (fX5_takeFrom_J43 o12)) else none))
set_option maxHeartbeats 16000000 in
set_option maxRecDepth 100000 in
theorem kX5_takeFrom {zs : Nat × Nat} (l : Launch) (dC : Nat → ClassId) (dI : Nat → Nat → Nat) (p0a : Nat → Nat) (p0k : Nat → ClassId) (p0n : Nat → Nat) (p0w : ST) (p0l : SL) (p1 : Int32) (p2 : Int32) (p3 : Int32) (sz : Nat) (o : ST) (hrun : fX5_takeFrom p0n p0w p1 p2 p3 = some o) : Met l yX5_takeFrom (wz yX5_takeFrom cX5_takeFrom 5 (Option.none : Option Jvm.ClassFile.FieldType)) ({ frames := 1, cells := 0, slots := 0, locals := 23 } : Room) (va_Pc [.ref (p0a 0), .int p1, .int p2, .int p3] (PRE zs dC dI (oX1 (p0a 0) p0a p0k p0n p0w p0l) (tX1 p0k) sz)) (va_Qv (fun (_ : Unit) => True) (fun _ t => POST dC dI (oX1 (p0a 0) p0a p0k p0n o p0l) (tX1 p0k) (va_A (oX1 (p0a 0) p0a p0k p0n p0w p0l) sz) t) (va_A (oX1 (p0a 0) p0a p0k p0n p0w p0l) sz)) 0 0 (va_A (oX1 (p0a 0) p0a p0k p0n p0w p0l) sz) := by
  refine Met.ofW (cc := cX5_takeFrom) (maxL := 5) (ret := (Option.none : Option Jvm.ClassFile.FieldType)) (by decide) rfl ?_
  intro p e s m args below meth c s₁ B hml hv
  obtain ⟨rfl, hsz, hP, hK, hD0, hE⟩ := hv
  have hx := B.exec
  have hb := B.bytes
  have hr := B.returns
  have hts0 := atoms_spec (ws := wz yX5_takeFrom cX5_takeFrom 5 (Option.none : Option Jvm.ClassFile.FieldType)) B.pre
  have hts : ∀ w ∈ gw, w.before _ s = true := fun w h => hts0 w (List.mem_cons_of_mem _ h)
  have hown : s.vm.findClass RX5 = some m.cls := findClass_of_methodNamed B.named
  have hlocks := B.notSynchronized
  subst hsz
  have hD := hD0.self (sz := s.heap.size)
  refine gQ9 ?_
  intro Q hQ
  generalize hAe : va_A (oX1 (p0a 0) p0a p0k p0n p0w p0l) s.heap.size = A at hD hE hQ
  have hA : ∀ q : Nat, s.heap.size ≤ q → A q := fun q h => by rw [← hAe]; exact Or.inr h
  have hS : va_S A s.heap s.heap [] := va_S.rf
  have hP : va_P (dC, dI) cls (oX1 (p0a 0) p0a p0k p0n p0w p0l) s.heap := hP
  have hl := lv_entry ([.ref (p0a 0), .int p1, .int p2, .int p3]) (n := 5) (Nat.le_of_ble_eq_true rfl)
  rw [lg_entry_eq]
  generalize (lg_sl ([.ref (p0a 0), .int p1, .int p2, .int p3]) ++ List.replicate (5 - (lg_sl ([.ref (p0a 0), .int p1, .int p2, .int p3])).length) Slot.unset).toArray = ls at hl ⊢
  have hl : lv_has ls 5 [(0, .ref (p0a 0)), (1, .int p1), (2, .int p2), (3, .int p3)] := hl
  obtain ⟨H, hHe⟩ : ∃ H, H = s.heap := ⟨_, rfl⟩
  obtain ⟨locs, hle⟩ : ∃ locs : List Loc, locs = [] := ⟨_, rfl⟩
  rw [← hHe] at hP
  have hS : va_S A s.heap H locs := by rw [hHe, hle]; exact hS
  show W p l e ({ frames := 1, cells := 0, slots := 0, locals := 23 } : Room) s m ([.ref (p0a 0), .int p1, .int p2, .int p3] : List Value).toArray below meth c s.heap [] 0 0 Q (F0 m 0 ls [])
  rw [← hle]
  refine wH9 hHe ?_
  unfold fX5_takeFrom at hrun
  refine lv_iload_n hx hb dX5_takeFrom_0 rfl (lv_at hl 1 rfl) ?_
  have J43 : ∀ (p0w_43 : ST) (H : Heap) (locs : List Loc) (ls : Array Slot), (fX5_takeFrom_J43 p0w_43) = some o → va_P (dC, dI) cls (oX1 (p0a 0) p0a p0k p0n p0w_43 p0l) H → va_D A (oX1 (p0a 0) p0a p0k p0n p0w_43 p0l) → va_K (dC, dI) cls (tX1 p0k) s → va_S A s.heap H locs → lv_has ls 5 [] → W p l e ({ frames := 1, cells := 0, slots := 0, locals := 23 } : Room) s m ([.ref (p0a 0), .int p1, .int p2, .int p3] : List Value).toArray below meth c H locs 0 0 Q (F0 m 43 ls []) := by
    intro p0w_43 H locs ls hrun hP hD hK hS hl 
    unfold fX5_takeFrom_J43 at hrun
    have ho9 : p0w_43 = o := Option.some.inj hrun
    have hP9 : va_P (dC, dI) cls (oX1 (p0a 0) p0a p0k p0n o p0l) H := by first | exact hP | (rw [← ho9]; exact hP)
    have hD9 : va_D A (oX1 (p0a 0) p0a p0k p0n o p0l) := by first | exact hD | (rw [← ho9]; exact hD)
    subst hQ
    exact W.vret hx hb hr (fun t ht hW => ⟨⟨(), rfl, trivial, ⟨by rw [ht]; exact hP9, va_K.moved hW.alike hK, hD9⟩⟩, hS.F ht⟩) hS.2.2 dX5_takeFrom_43
  rcases br9 hrun with ⟨hc1, hrun⟩ | ⟨hc1, hrun⟩
  · refine lv_if_lt (tgt := 43) hx hb dX5_takeFrom_1 (by decide) (fun _ => ?_) (fun c => absurd hc1 c)
    exact J43 p0w _ _ _ hrun hP hD hK hS (lv_sub hl [] rfl)
  · refine lv_if_lt (tgt := 43) hx hb dX5_takeFrom_1 (by decide) (fun c => absurd c hc1) (fun _ => ?_)
    refine lv_aload_n hx hb dX5_takeFrom_4 rfl (lv_at hl 0 rfl) ?_
    refine va_get (D := (dC, dI)) (ci := 4) (v := .ref (p0a 6)) (C := RX1) (T := TX1) (N := 21) hx hb hts i_X1 hown hK hP 0 rfl rfl 5 (by decide) (hts _ qw431) (fun _ h9 => h9) rfl dX5_takeFrom_5 ?_
    refine lv_iload_n hx hb dX5_takeFrom_8 rfl (lv_at hl 1 rfl) ?_
    obtain ⟨hq2, hrun⟩ := chk9 hrun
    refine va_iald hx hb hK hP 3 2 rfl rfl (ixb_in hq2) dX5_takeFrom_9 ?_
    refine lv_istore (lv' := [(4, .int (p0w 6 (nn p1))), (0, .ref (p0a 0)), (1, .int p1), (2, .int p2), (3, .int p3)]) hx hb dX5_takeFrom_10 hl (by decide) rfl (fun ls hl => ?_)
    have L12 : ∀ (n_12 : Nat) (v4_12 : Int32) (p0w_12 : ST) (o12 : ST) (H : Heap) (locs : List Loc) (ls : Array Slot), (fX5_takeFrom_L12 p0n p2 p3 n_12) v4_12 p0w_12 = some o12 → va_P (dC, dI) cls (oX1 (p0a 0) p0a p0k p0n p0w_12 p0l) H → va_D A (oX1 (p0a 0) p0a p0k p0n p0w_12 p0l) → va_K (dC, dI) cls (tX1 p0k) s → va_S A s.heap H locs → lv_has ls 5 [(0, .ref (p0a 0)), (2, .int p2), (3, .int p3), (4, .int v4_12)] → (∀ (H : Heap) (locs : List Loc) (ls : Array Slot), va_P (dC, dI) cls (oX1 (p0a 0) p0a p0k p0n o12 p0l) H → va_D A (oX1 (p0a 0) p0a p0k p0n o12 p0l) → va_K (dC, dI) cls (tX1 p0k) s → va_S A s.heap H locs → lv_has ls 5 [] → W p l e ({ frames := 1, cells := 0, slots := 0, locals := 23 } : Room) s m ([.ref (p0a 0), .int p1, .int p2, .int p3] : List Value).toArray below meth c H locs 0 0 Q (F0 m 43 ls [])) → W p l e ({ frames := 1, cells := 0, slots := 0, locals := 23 } : Room) s m ([.ref (p0a 0), .int p1, .int p2, .int p3] : List Value).toArray below meth c H locs 0 0 Q (F0 m 12 ls []) := by
      intro n_12
      induction n_12 with
      | zero => intro v4_12 p0w_12 o12 H locs ls hrun; exact (no9 rfl hrun).elim
      | succ n_12 IH12 =>
        intro v4_12 p0w_12 o12 H locs ls hrun hP hD hK hS hl hk12
        unfold fX5_takeFrom_L12 at hrun
        refine lv_iload hx hb dX5_takeFrom_12 (lv_at hl 3 rfl) ?_
        rcases br9 hrun with ⟨hc3, hrun⟩ | ⟨hc3, hrun⟩
        · refine lv_if_lt (tgt := 43) hx hb dX5_takeFrom_14 (by decide) (fun _ => ?_) (fun c => absurd hc3 c)
          obtain rfl := (Option.some.inj hrun)
          exact hk12 _ _ _ hP hD hK hS (lv_sub hl [] rfl)
        · refine lv_if_lt (tgt := 43) hx hb dX5_takeFrom_14 (by decide) (fun c => absurd c hc3) (fun _ => ?_)
          refine lv_aload_n hx hb dX5_takeFrom_17 rfl (lv_at hl 0 rfl) ?_
          refine lv_iload hx hb dX5_takeFrom_18 (lv_at hl 3 rfl) ?_
          refine lv_iload_n hx hb dX5_takeFrom_20 rfl (lv_at hl 2 rfl) ?_
          refine lv_aload_n hx hb dX5_takeFrom_21 rfl (lv_at hl 0 rfl) ?_
          refine lv_iload hx hb dX5_takeFrom_22 (lv_at hl 3 rfl) ?_
          refine lv_iload_n hx hb dX5_takeFrom_24 rfl (lv_at hl 1 rfl) ?_
          obtain ⟨o_4, hc_4, hrun⟩ := bnd9 hrun
          have hPc := hP.sub (ws' := (oX1 (p0a 0) p0a p0k p0n p0w_12 p0l)) [0, 1, 2, 3, 4, 5, 6, 7, 8, 9, 10, 11, 12, 13, 14, 15, 16, 17] rfl
          have hDc := hD.sub (ws' := (oX1 (p0a 0) p0a p0k p0n p0w_12 p0l)) [0, 1, 2, 3, 4, 5, 6, 7, 8, 9, 10, 11, 12, 13, 14, 15, 16, 17] (by decide) rfl
          have hKc := hK.sub (tys' := (tX1 p0k)) [0, 1, 2, 3, 4, 5, 6, 7, 8, 9, 10, 11, 12, 13, 14, 15, 16] rfl
          have hFc := va_free (wc := (oX1 (p0a 0) p0a p0k p0n p0w_12 p0l)) hD hS hA [0, 1, 2, 3, 4, 5, 6, 7, 8, 9, 10, 11, 12, 13, 14, 15, 16, 17] rfl
          refine va_calli (va_runV (As := [.int v4_12, .int p2]) (rest := [.int p3, .int v4_12, .ref (p0a 0)]) ⟨hx, hb, hml, hown, hts⟩ (kX1_take l dC dI (p0a := (st0 (p0a 0) p0a)) (p0k := p0k) (p0n := p0n) (p0w := p0w_12) (p0l := p0l) (p1 := v4_12) (p2 := p2) (sz := _) (o := o_4) (hrun := hc_4)) (cwV 2 hts (gi_V qw469 qw470 qw471 qw126 (gi_z qw468)) rfl rfl rfl (by decide +kernel) ⟨Nat.le_of_ble_eq_true rfl, Nat.le_of_ble_eq_true rfl⟩) ⟨PRE.blind, va_recv hKc hPc (ci := 4) (q0 := 0) rfl rfl, PRE.of hE hS hFc hPc hKc hDc⟩ rfl rfl hl.1 rfl (lv_room (Nat.le_of_ble_eq_true rfl)) dX5_takeFrom_25 ⟨(Nat.le_of_ble_eq_true rfl), (Nat.le_of_ble_eq_true rfl)⟩) hS (fun q _ h => hFc q h) hFc (fun r5 u t H locs ht hvm hw hB hz1 hk1 hS => ?_)
          obtain ⟨hP, hD, hK⟩ := JOIN (wr := ([] : va_W)) hP hD hK [0, 1, 2, 3, 4, 5, 6, 7, 8, 9, 10, 11, 12, 13, 14, 15, 16, 17] [] [] rfl rfl (by decide) (by decide) rfl hk1 hFc ht hvm hB
          have hP : va_P (dC, dI) cls (oX1 (p0a 0) p0a p0k p0n p0w_12 p0l) H := hP.sub [0, 1, 2, 3, 4, 5, 6, 7, 8, 9, 10, 11, 12, 13, 14, 15, 16, 17] rfl
          have hD : va_D A (oX1 (p0a 0) p0a p0k p0n p0w_12 p0l) := hD.sub [0, 1, 2, 3, 4, 5, 6, 7, 8, 9, 10, 11, 12, 13, 14, 15, 16, 17] (by decide) rfl
          have hK : va_K (dC, dI) cls (tX1 p0k) s := hK.sub [0, 1, 2, 3, 4, 5, 6, 7, 8, 9, 10, 11, 12, 13, 14, 15, 16] rfl
          obtain rfl : o_4 = r5 := hw.symm
          obtain ⟨o_6, hc_6, hrun⟩ := bnd9 hrun
          have hPc := hP.sub (ws' := (oX1 (p0a 0) p0a p0k p0n p0w_12 p0l)) [0, 1, 2, 3, 4, 5, 6, 7, 8, 9, 10, 11, 12, 13, 14, 15, 16, 17] rfl
          have hDc := hD.sub (ws' := (oX1 (p0a 0) p0a p0k p0n p0w_12 p0l)) [0, 1, 2, 3, 4, 5, 6, 7, 8, 9, 10, 11, 12, 13, 14, 15, 16, 17] (by decide) rfl
          have hKc := hK.sub (tys' := (tX1 p0k)) [0, 1, 2, 3, 4, 5, 6, 7, 8, 9, 10, 11, 12, 13, 14, 15, 16] rfl
          have hFc := va_free (wc := (oX1 (p0a 0) p0a p0k p0n p0w_12 p0l)) hD hS hA [0, 1, 2, 3, 4, 5, 6, 7, 8, 9, 10, 11, 12, 13, 14, 15, 16, 17] rfl
          refine va_callv (va_runV (As := [.int v4_12, .int p3, .int o_4]) (rest := []) ⟨hx, hb, hml, hown, hts⟩ (kX1_setTake l dC dI (p0a := (st0 (p0a 0) p0a)) (p0k := p0k) (p0n := p0n) (p0w := p0w_12) (p0l := p0l) (p1 := v4_12) (p2 := p3) (p3 := o_4) (sz := _) (o := o_6) (hrun := hc_6)) (cwV 3 hts (gi_V qw590 qw318 qw319 qw126 (gi_z qw316)) rfl rfl rfl (by decide +kernel) ⟨Nat.le_of_ble_eq_true rfl, Nat.le_of_ble_eq_true rfl⟩) ⟨PRE.blind, va_recv hKc hPc (ci := 4) (q0 := 0) rfl rfl, PRE.of hE hS hFc hPc hKc hDc⟩ rfl rfl hl.1 rfl (lv_room (Nat.le_of_ble_eq_true rfl)) dX5_takeFrom_28 ⟨(Nat.le_of_ble_eq_true rfl), (Nat.le_of_ble_eq_true rfl)⟩) hS (fun q _ h => hFc q h) hFc (fun u t H locs ht hvm hw hB hz1 hk1 hS => ?_)
          obtain ⟨hP, hD, hK⟩ := JOIN (wr := ([] : va_W)) hP hD hK [0, 1, 2, 3, 4, 5, 6, 7, 8, 9, 10, 11, 12, 13, 14, 15, 16, 17] [] [] rfl rfl (by decide) (by decide) rfl hk1 hFc ht hvm hB
          have hP : va_P (dC, dI) cls (oX1 (p0a 0) p0a p0k p0n o_6 p0l) H := hP.sub [0, 1, 2, 3, 4, 5, 6, 7, 8, 9, 10, 11, 12, 13, 14, 15, 16, 17] rfl
          have hD : va_D A (oX1 (p0a 0) p0a p0k p0n o_6 p0l) := hD.sub [0, 1, 2, 3, 4, 5, 6, 7, 8, 9, 10, 11, 12, 13, 14, 15, 16, 17] (by decide) rfl
          have hK : va_K (dC, dI) cls (tX1 p0k) s := hK.sub [0, 1, 2, 3, 4, 5, 6, 7, 8, 9, 10, 11, 12, 13, 14, 15, 16] rfl
          refine lv_aload_n hx hb dX5_takeFrom_31 rfl (lv_at hl 0 rfl) ?_
          refine va_get (D := (dC, dI)) (ci := 4) (v := .ref (p0a 20)) (C := RX1) (T := TX1) (N := 21) hx hb hts i_X1 hown hK hP 0 rfl rfl 19 (by decide) (hts _ qw433) (fun _ h9 => h9) rfl dX5_takeFrom_32 ?_
          refine lv_iload hx hb dX5_takeFrom_35 (lv_at hl 3 rfl) ?_
          obtain ⟨hq7, hrun⟩ := chk9 hrun
          refine va_iald hx hb hK hP 16 15 rfl rfl (ixb_in hq7) dX5_takeFrom_37 ?_
          refine lv_istore (lv' := [(4, .int (o_6 20 (nn v4_12))), (0, .ref (p0a 0)), (2, .int p2), (3, .int p3)]) hx hb dX5_takeFrom_38 hl (by decide) rfl (fun ls hl => ?_)
          refine lv_goto (tgt := 12) hx hb dX5_takeFrom_40 (by decide) ?_
          exact IH12 (o_6 20 (nn v4_12)) o_6 o12 _ _ _ hrun hP hD hK hS (lv_sub hl [1, 2, 3, 0] rfl) hk12
    obtain ⟨o12, hc12, hrun⟩ := bnd9 hrun
    refine L12 NF (p0w 6 (nn p1)) p0w o12 _ _ _ hc12 hP hD hK hS (lv_sub hl [1, 3, 4, 0] rfl) ?_
    intro H locs ls hP hD hK hS hl
    have hl := hl
    exact J43 o12 _ _ _ hrun hP hD hK hS (lv_sub hl [] rfl)
def fX5_mergeInto_L15 (p1n : Nat → Nat) (o_1 : Int32) (o_3 : Int32 × ST) : Nat → Int32 → ST → Option ST
  | 0 => fun _ _ => none
  | n_15 + 1 => fun v5_15 p0w_15 => (if v5_15 < 0 then some p0w_15 else (if ixb v5_15 (p1n 19) = true then ((fX1_take p1n (o_3.2) v5_15 o_1).bind fun (o_7 : Int32) => (if ixb (((o_3.2) 19) (nn v5_15)) 250 = true then (lt9 (upw p0w_15 6 (nn (((o_3.2) 19) (nn v5_15))) o_7) fun (w10 : ST) => (if ixb v5_15 (p1n 20) = true then ((fX5_mergeInto_L15 p1n o_1 o_3 n_15) (((o_3.2) 20) (nn v5_15)) w10) else none)) else none)) else none))
def fX5_mergeInto_L59 (p2 : Int32) (p1_2n : Nat → Nat) : Nat → Int32 → ST → ST → Option (ST × ST)
  | 0 => fun _ _ _ => none
  | n_59 + 1 => fun v6_59 p1w_59 p1_2w_59 => (if v6_59 < 0 then some (p1w_59, p1_2w_59) else (if ixb v6_59 (p1_2n 6) = true then ((fX1_link p1w_59 p2 v6_59 p1_2n p1_2w_59).bind fun (o_16 : ST × ST) => ((fX5_mergeInto_L59 p2 p1_2n n_59) (p1_2w_59 6 (nn v6_59)) (o_16.1) (o_16.2))) else none))
def fX5_mergeInto (p0w : ST) (p0l : SL) (p1n : Nat → Nat) (p1w : ST) (p2 : Int32) (p3 : Int32) (p1_2n : Nat → Nat) (p1_2w : ST) : Option (ST × SL × ST × ST) := ((fX1_wayFrom p1w p3 0).bind fun (o_1 : Int32) => ((fX1_takePhis p1w p3).bind fun (o_3 : Int32 × ST) => ((fX5_mergeInto_L15 p1n o_1 o_3 NF (o_3.1) p0w).bind fun (o15 : ST) => ((fX1_takeSteps (o_3.2) p3).bind fun (o_12 : Int32 × ST) => ((fX5_mergeInto_L59 p2 p1_2n NF (o_12.1) (o_12.2) p1_2w).bind fun (o59 : ST × ST) => (if ixb p3 60 = true then (if ixb p2 60 = true then (lt9 (upw (o59.1) 8 (nn p2) (((o59.1) 8) (nn p3))) fun (w19 : ST) => (if ixb p3 60 = true then (if ixb p2 60 = true then (lt9 (upw w19 9 (nn p2) (w19 9 (nn p3))) fun (w22 : ST) => (if ixb p3 60 = true then (if ixb p2 60 = true then (lt9 (upw w22 10 (nn p2) (w22 10 (nn p3))) fun (w25 : ST) => (if ixb p3 60 = true then (if ixb p2 60 = true then (lt9 (upw w25 11 (nn p2) (w25 11 (nn p3))) fun (w28 : ST) => (lt9 (upl p0l 0 7 ((p0l 0 7) &&& ((((1 : Int64) <<< ((p3 : Int32).toInt64 &&& 63))) ^^^ ((-1) : Int64)))) fun (l29 : SL) => (if ixb p2 60 = true then ((fX5_takeFrom p1n w28 (w28 10 (nn p2)) p3 p2).bind fun (o_31 : ST) => (if ixb p2 60 = true then ((fX5_takeFrom p1n o_31 (o_31 11 (nn p2)) p3 p2).bind fun (o_33 : ST) => some (o15, l29, o_33, (o59.2))) else none)) else none))) else none) else none)) else none) else none)) else none) else none)) else none) else none))))))
set_option maxHeartbeats 16000000 in
set_option maxRecDepth 100000 in
theorem kX5_mergeInto {zs : Nat × Nat} (l : Launch) (dC : Nat → ClassId) (dI : Nat → Nat → Nat) (p0a : Nat → Nat) (p0k : Nat → ClassId) (p0w : ST) (p0l : SL) (p1a : Nat → Nat) (p1k : Nat → ClassId) (p1n : Nat → Nat) (p1w : ST) (p1l : SL) (p2 : Int32) (p3 : Int32) (p1_2a : Nat → Nat) (p1_2k : Nat → ClassId) (p1_2n : Nat → Nat) (p1_2w : ST) (sz : Nat) (o : ST × SL × ST × ST) (hrun : fX5_mergeInto p0w p0l p1n p1w p2 p3 p1_2n p1_2w = some o) : Met l yX5_mergeInto (wz yX5_mergeInto cX5_mergeInto 7 (Option.none : Option Jvm.ClassFile.FieldType)) ({ frames := 2, cells := 0, slots := 0, locals := 47 } : Room) (va_Pc [.ref (p0a 0), .ref (p1a 0), .int p2, .int p3] (PRE zs dC dI ((oX5 (p0a 0) p0a p0k p0w p0l) ++ (oX1 (p1a 0) p1a p1k p1n p1w p1l) ++ (oX9 (p1a 3) p1_2a p1_2k p1_2n p1_2w)) ((tX5 p0k) ++ (tX1 p1k) ++ (tX9 p1_2k)) sz)) (va_Qv (fun (_ : Unit) => True) (fun _ t => POST dC dI ((oX5 (p0a 0) p0a p0k (o.1) (o.2.1)) ++ (oX1 (p1a 0) p1a p1k p1n (o.2.2.1) p1l) ++ (oX9 (p1a 3) p1_2a p1_2k p1_2n (o.2.2.2))) ((tX5 p0k) ++ (tX1 p1k) ++ (tX9 p1_2k)) (va_A ((oX5 (p0a 0) p0a p0k p0w p0l) ++ (oX1 (p1a 0) p1a p1k p1n p1w p1l) ++ (oX9 (p1a 3) p1_2a p1_2k p1_2n p1_2w)) sz) t) (va_A ((oX5 (p0a 0) p0a p0k p0w p0l) ++ (oX1 (p1a 0) p1a p1k p1n p1w p1l) ++ (oX9 (p1a 3) p1_2a p1_2k p1_2n p1_2w)) sz)) 0 0 (va_A ((oX5 (p0a 0) p0a p0k p0w p0l) ++ (oX1 (p1a 0) p1a p1k p1n p1w p1l) ++ (oX9 (p1a 3) p1_2a p1_2k p1_2n p1_2w)) sz) := by
  refine Met.ofW (cc := cX5_mergeInto) (maxL := 7) (ret := (Option.none : Option Jvm.ClassFile.FieldType)) (by decide) rfl ?_
  intro p e s m args below meth c s₁ B hml hv
  obtain ⟨rfl, hsz, hP, hK, hD0, hE⟩ := hv
  have hx := B.exec
  have hb := B.bytes
  have hr := B.returns
  have hts0 := atoms_spec (ws := wz yX5_mergeInto cX5_mergeInto 7 (Option.none : Option Jvm.ClassFile.FieldType)) B.pre
  have hts : ∀ w ∈ gw, w.before _ s = true := fun w h => hts0 w (List.mem_cons_of_mem _ h)
  have hown : s.vm.findClass RX5 = some m.cls := findClass_of_methodNamed B.named
  have hlocks := B.notSynchronized
  subst hsz
  have hD := hD0.self (sz := s.heap.size)
  refine gQ9 ?_
  intro Q hQ
  generalize hAe : va_A ((oX5 (p0a 0) p0a p0k p0w p0l) ++ (oX1 (p1a 0) p1a p1k p1n p1w p1l) ++ (oX9 (p1a 3) p1_2a p1_2k p1_2n p1_2w)) s.heap.size = A at hD hE hQ
  have hA : ∀ q : Nat, s.heap.size ≤ q → A q := fun q h => by rw [← hAe]; exact Or.inr h
  have hS : va_S A s.heap s.heap [] := va_S.rf
  have hP : va_P (dC, dI) cls ((oX5 (p0a 0) p0a p0k p0w p0l) ++ (oX1 (p1a 0) p1a p1k p1n p1w p1l) ++ (oX9 (p1a 3) p1_2a p1_2k p1_2n p1_2w)) s.heap := hP
  have hl := lv_entry ([.ref (p0a 0), .ref (p1a 0), .int p2, .int p3]) (n := 7) (Nat.le_of_ble_eq_true rfl)
  rw [lg_entry_eq]
  generalize (lg_sl ([.ref (p0a 0), .ref (p1a 0), .int p2, .int p3]) ++ List.replicate (7 - (lg_sl ([.ref (p0a 0), .ref (p1a 0), .int p2, .int p3])).length) Slot.unset).toArray = ls at hl ⊢
  have hl : lv_has ls 7 [(0, .ref (p0a 0)), (1, .ref (p1a 0)), (2, .int p2), (3, .int p3)] := hl
  obtain ⟨H, hHe⟩ : ∃ H, H = s.heap := ⟨_, rfl⟩
  obtain ⟨locs, hle⟩ : ∃ locs : List Loc, locs = [] := ⟨_, rfl⟩
  rw [← hHe] at hP
  have hS : va_S A s.heap H locs := by rw [hHe, hle]; exact hS
  show W p l e ({ frames := 2, cells := 0, slots := 0, locals := 47 } : Room) s m ([.ref (p0a 0), .ref (p1a 0), .int p2, .int p3] : List Value).toArray below meth c s.heap [] 0 0 Q (F0 m 0 ls [])
  rw [← hle]
  refine wH9 hHe ?_
  unfold fX5_mergeInto at hrun
  refine lv_aload_n hx hb dX5_mergeInto_0 rfl (lv_at hl 1 rfl) ?_
  refine lv_iload_n hx hb dX5_mergeInto_1 rfl (lv_at hl 3 rfl) ?_
  refine lv_iconst (v := 0) hx hb dX5_mergeInto_2 (by decide) ?_
  obtain ⟨o_1, hc_1, hrun⟩ := bnd9 hrun
  have hPc := hP.sub (ws' := (oX1 (p1a 0) p1a p1k p1n p1w p1l)) [10, 11, 12, 13, 14, 15, 16, 17, 18, 19, 20, 21, 22, 23, 24, 25, 26, 27] rfl
  have hDc := hD.sub (ws' := (oX1 (p1a 0) p1a p1k p1n p1w p1l)) [10, 11, 12, 13, 14, 15, 16, 17, 18, 19, 20, 21, 22, 23, 24, 25, 26, 27] (by decide) rfl
  have hKc := hK.sub (tys' := (tX1 p1k)) [9, 10, 11, 12, 13, 14, 15, 16, 17, 18, 19, 20, 21, 22, 23, 24, 25] rfl
  have hFc := va_free (wc := (oX1 (p1a 0) p1a p1k p1n p1w p1l)) hD hS hA [10, 11, 12, 13, 14, 15, 16, 17, 18, 19, 20, 21, 22, 23, 24, 25, 26, 27] rfl
  refine va_calli (va_runV (As := [.int p3, .int 0]) (rest := []) ⟨hx, hb, hml, hown, hts⟩ (kX1_wayFrom l dC dI (p0a := (st0 (p1a 0) p1a)) (p0k := p1k) (p0n := p1n) (p0w := p1w) (p0l := p1l) (p1 := p3) (p2 := 0) (sz := _) (o := o_1) (hrun := hc_1)) (cwV 2 hts (gi_V qw424 qw189 qw190 qw126 (gi_z qw187)) rfl rfl rfl (by decide +kernel) ⟨Nat.le_of_ble_eq_true rfl, Nat.le_of_ble_eq_true rfl⟩) ⟨PRE.blind, va_recv hKc hPc (ci := 4) (q0 := 0) rfl rfl, PRE.of hE hS hFc hPc hKc hDc⟩ rfl rfl hl.1 rfl (lv_room (Nat.le_of_ble_eq_true rfl)) dX5_mergeInto_3 ⟨(Nat.le_of_ble_eq_true rfl), (Nat.le_of_ble_eq_true rfl)⟩) hS (fun q _ h => hFc q h) hFc (fun r2 u t H locs ht hvm hw hB hz1 hk1 hS => ?_)
  obtain ⟨hP, hD, hK⟩ := JOIN (wr := ((oX5 (p0a 0) p0a p0k p0w p0l) ++ (oX9 (p1a 3) p1_2a p1_2k p1_2n p1_2w))) hP hD hK [10, 11, 12, 13, 14, 15, 16, 17, 18, 19, 20, 21, 22, 23, 24, 25, 26, 27] [0, 1, 2, 3, 4, 5, 6, 7, 8, 9, 28, 29, 30, 31, 32, 33] [0, 1, 2, 3, 4, 5, 6, 7, 8, 26, 27, 28, 29, 30] rfl rfl (by decide) (by decide) rfl hk1 hFc ht hvm hB
  have hP : va_P (dC, dI) cls ((oX5 (p0a 0) p0a p0k p0w p0l) ++ (oX1 (p1a 0) p1a p1k p1n p1w p1l) ++ (oX9 (p1a 3) p1_2a p1_2k p1_2n p1_2w)) H := hP.sub [0, 1, 2, 3, 4, 5, 6, 7, 8, 9, 16, 17, 18, 19, 20, 21, 22, 23, 24, 25, 26, 27, 28, 29, 30, 31, 32, 33, 10, 11, 12, 13, 14, 15] rfl
  have hD : va_D A ((oX5 (p0a 0) p0a p0k p0w p0l) ++ (oX1 (p1a 0) p1a p1k p1n p1w p1l) ++ (oX9 (p1a 3) p1_2a p1_2k p1_2n p1_2w)) := hD.sub [0, 1, 2, 3, 4, 5, 6, 7, 8, 9, 16, 17, 18, 19, 20, 21, 22, 23, 24, 25, 26, 27, 28, 29, 30, 31, 32, 33, 10, 11, 12, 13, 14, 15] (by decide) rfl
  have hK : va_K (dC, dI) cls ((tX5 p0k) ++ (tX1 p1k) ++ (tX9 p1_2k)) s := hK.sub [0, 1, 2, 3, 4, 5, 6, 7, 8, 14, 15, 16, 17, 18, 19, 20, 21, 22, 23, 24, 25, 26, 27, 28, 29, 30, 9, 10, 11, 12, 13] rfl
  obtain rfl : o_1 = r2 := hw.symm
  refine lv_istore (lv' := [(4, .int o_1), (0, .ref (p0a 0)), (1, .ref (p1a 0)), (2, .int p2), (3, .int p3)]) hx hb dX5_mergeInto_6 hl (by decide) rfl (fun ls hl => ?_)
  refine lv_aload_n hx hb dX5_mergeInto_8 rfl (lv_at hl 2 rfl) ?_
  refine lv_iload_n hx hb dX5_mergeInto_9 rfl (lv_at hl 4 rfl) ?_
  obtain ⟨o_3, hc_3, hrun⟩ := bnd9 hrun
  have hPc := hP.sub (ws' := (oX1 (p1a 0) p1a p1k p1n p1w p1l)) [10, 11, 12, 13, 14, 15, 16, 17, 18, 19, 20, 21, 22, 23, 24, 25, 26, 27] rfl
  have hDc := hD.sub (ws' := (oX1 (p1a 0) p1a p1k p1n p1w p1l)) [10, 11, 12, 13, 14, 15, 16, 17, 18, 19, 20, 21, 22, 23, 24, 25, 26, 27] (by decide) rfl
  have hKc := hK.sub (tys' := (tX1 p1k)) [9, 10, 11, 12, 13, 14, 15, 16, 17, 18, 19, 20, 21, 22, 23, 24, 25] rfl
  have hFc := va_free (wc := (oX1 (p1a 0) p1a p1k p1n p1w p1l)) hD hS hA [10, 11, 12, 13, 14, 15, 16, 17, 18, 19, 20, 21, 22, 23, 24, 25, 26, 27] rfl
  refine va_calli (va_runV (As := [.int p3]) (rest := []) ⟨hx, hb, hml, hown, hts⟩ (kX1_takePhis l dC dI (p0a := (st0 (p1a 0) p1a)) (p0k := p1k) (p0n := p1n) (p0w := p1w) (p0l := p1l) (p1 := p3) (sz := _) (o := o_3) (hrun := hc_3)) (cwV 1 hts (gi_V qw489 qw175 qw176 qw126 (gi_z qw173)) rfl rfl rfl (by decide +kernel) ⟨Nat.le_of_ble_eq_true rfl, Nat.le_of_ble_eq_true rfl⟩) ⟨PRE.blind, va_recv hKc hPc (ci := 4) (q0 := 0) rfl rfl, PRE.of hE hS hFc hPc hKc hDc⟩ rfl rfl hl.1 rfl (lv_room (Nat.le_of_ble_eq_true rfl)) dX5_mergeInto_10 ⟨(Nat.le_of_ble_eq_true rfl), (Nat.le_of_ble_eq_true rfl)⟩) hS (fun q _ h => hFc q h) hFc (fun r4 u t H locs ht hvm hw hB hz1 hk1 hS => ?_)
  obtain ⟨hP, hD, hK⟩ := JOIN (wr := ((oX5 (p0a 0) p0a p0k p0w p0l) ++ (oX9 (p1a 3) p1_2a p1_2k p1_2n p1_2w))) hP hD hK [10, 11, 12, 13, 14, 15, 16, 17, 18, 19, 20, 21, 22, 23, 24, 25, 26, 27] [0, 1, 2, 3, 4, 5, 6, 7, 8, 9, 28, 29, 30, 31, 32, 33] [0, 1, 2, 3, 4, 5, 6, 7, 8, 26, 27, 28, 29, 30] rfl rfl (by decide) (by decide) rfl hk1 hFc ht hvm hB
  have hP : va_P (dC, dI) cls ((oX5 (p0a 0) p0a p0k p0w p0l) ++ (oX1 (p1a 0) p1a p1k p1n (o_3.2) p1l) ++ (oX9 (p1a 3) p1_2a p1_2k p1_2n p1_2w)) H := hP.sub [0, 1, 2, 3, 4, 5, 6, 7, 8, 9, 16, 17, 18, 19, 20, 21, 22, 23, 24, 25, 26, 27, 28, 29, 30, 31, 32, 33, 10, 11, 12, 13, 14, 15] rfl
  have hD : va_D A ((oX5 (p0a 0) p0a p0k p0w p0l) ++ (oX1 (p1a 0) p1a p1k p1n (o_3.2) p1l) ++ (oX9 (p1a 3) p1_2a p1_2k p1_2n p1_2w)) := hD.sub [0, 1, 2, 3, 4, 5, 6, 7, 8, 9, 16, 17, 18, 19, 20, 21, 22, 23, 24, 25, 26, 27, 28, 29, 30, 31, 32, 33, 10, 11, 12, 13, 14, 15] (by decide) rfl
  have hK : va_K (dC, dI) cls ((tX5 p0k) ++ (tX1 p1k) ++ (tX9 p1_2k)) s := hK.sub [0, 1, 2, 3, 4, 5, 6, 7, 8, 14, 15, 16, 17, 18, 19, 20, 21, 22, 23, 24, 25, 26, 27, 28, 29, 30, 9, 10, 11, 12, 13] rfl
  obtain rfl : r4 = (o_3.1) := hw
  refine lv_istore (lv' := [(5, .int (o_3.1)), (4, .int o_1), (0, .ref (p0a 0)), (1, .ref (p1a 0)), (2, .int p2), (3, .int p3)]) hx hb dX5_mergeInto_13 hl (by decide) rfl (fun ls hl => ?_)
  have L15 : ∀ (n_15 : Nat) (v5_15 : Int32) (p0w_15 : ST) (o15 : ST) (H : Heap) (locs : List Loc) (ls : Array Slot), (fX5_mergeInto_L15 p1n o_1 o_3 n_15) v5_15 p0w_15 = some o15 → va_P (dC, dI) cls ((oX5 (p0a 0) p0a p0k p0w_15 p0l) ++ (oX1 (p1a 0) p1a p1k p1n (o_3.2) p1l) ++ (oX9 (p1a 3) p1_2a p1_2k p1_2n p1_2w)) H → va_D A ((oX5 (p0a 0) p0a p0k p0w_15 p0l) ++ (oX1 (p1a 0) p1a p1k p1n (o_3.2) p1l) ++ (oX9 (p1a 3) p1_2a p1_2k p1_2n p1_2w)) → va_K (dC, dI) cls ((tX5 p0k) ++ (tX1 p1k) ++ (tX9 p1_2k)) s → va_S A s.heap H locs → lv_has ls 7 [(0, .ref (p0a 0)), (1, .ref (p1a 0)), (2, .int p2), (3, .int p3), (4, .int o_1), (5, .int v5_15)] → (∀ (H : Heap) (locs : List Loc) (ls : Array Slot), va_P (dC, dI) cls ((oX5 (p0a 0) p0a p0k o15 p0l) ++ (oX1 (p1a 0) p1a p1k p1n (o_3.2) p1l) ++ (oX9 (p1a 3) p1_2a p1_2k p1_2n p1_2w)) H → va_D A ((oX5 (p0a 0) p0a p0k o15 p0l) ++ (oX1 (p1a 0) p1a p1k p1n (o_3.2) p1l) ++ (oX9 (p1a 3) p1_2a p1_2k p1_2n p1_2w)) → va_K (dC, dI) cls ((tX5 p0k) ++ (tX1 p1k) ++ (tX9 p1_2k)) s → va_S A s.heap H locs → lv_has ls 7 [(0, .ref (p0a 0)), (1, .ref (p1a 0)), (2, .int p2), (3, .int p3)] → W p l e ({ frames := 2, cells := 0, slots := 0, locals := 47 } : Room) s m ([.ref (p0a 0), .ref (p1a 0), .int p2, .int p3] : List Value).toArray below meth c H locs 0 0 Q (F0 m 52 ls [])) → W p l e ({ frames := 2, cells := 0, slots := 0, locals := 47 } : Room) s m ([.ref (p0a 0), .ref (p1a 0), .int p2, .int p3] : List Value).toArray below meth c H locs 0 0 Q (F0 m 15 ls []) := by
    intro n_15
    induction n_15 with
    | zero => intro v5_15 p0w_15 o15 H locs ls hrun; exact (no9 rfl hrun).elim
    | succ n_15 IH15 =>
      intro v5_15 p0w_15 o15 H locs ls hrun hP hD hK hS hl hk15
      unfold fX5_mergeInto_L15 at hrun
      refine lv_iload hx hb dX5_mergeInto_15 (lv_at hl 5 rfl) ?_
      rcases br9 hrun with ⟨hc5, hrun⟩ | ⟨hc5, hrun⟩
      · refine lv_if_lt (tgt := 52) hx hb dX5_mergeInto_17 (by decide) (fun _ => ?_) (fun c => absurd hc5 c)
        obtain rfl := (Option.some.inj hrun)
        exact hk15 _ _ _ hP hD hK hS (lv_sub hl [0, 1, 2, 3] rfl)
      · refine lv_if_lt (tgt := 52) hx hb dX5_mergeInto_17 (by decide) (fun c => absurd c hc5) (fun _ => ?_)
        refine lv_aload_n hx hb dX5_mergeInto_20 rfl (lv_at hl 0 rfl) ?_
        refine va_get (D := (dC, dI)) (ci := 7) (v := .ref (p0a 6)) (C := RX5) (T := TX5) (N := 12) hx hb hts i_X5 hown hK hP 0 rfl rfl 5 (by decide) (hts _ qw539) (fun _ h9 => h9) rfl dX5_mergeInto_21 ?_
        refine lv_aload_n hx hb dX5_mergeInto_24 rfl (lv_at hl 1 rfl) ?_
        refine va_get (D := (dC, dI)) (ci := 4) (v := .ref (p1a 19)) (C := RX1) (T := TX1) (N := 21) hx hb hts i_X1 hown hK hP 10 rfl rfl 18 (by decide) (hts _ qw432) (fun _ h9 => h9) rfl dX5_mergeInto_25 ?_
        refine lv_iload hx hb dX5_mergeInto_28 (lv_at hl 5 rfl) ?_
        obtain ⟨hq6, hrun⟩ := chk9 hrun
        refine va_iald hx hb hK hP 25 23 rfl rfl (ixb_in hq6) dX5_mergeInto_30 ?_
        refine lv_aload_n hx hb dX5_mergeInto_31 rfl (lv_at hl 1 rfl) ?_
        refine lv_iload hx hb dX5_mergeInto_32 (lv_at hl 5 rfl) ?_
        refine lv_iload hx hb dX5_mergeInto_34 (lv_at hl 4 rfl) ?_
        obtain ⟨o_7, hc_7, hrun⟩ := bnd9 hrun
        have hPc := hP.sub (ws' := (oX1 (p1a 0) p1a p1k p1n (o_3.2) p1l)) [10, 11, 12, 13, 14, 15, 16, 17, 18, 19, 20, 21, 22, 23, 24, 25, 26, 27] rfl
        have hDc := hD.sub (ws' := (oX1 (p1a 0) p1a p1k p1n (o_3.2) p1l)) [10, 11, 12, 13, 14, 15, 16, 17, 18, 19, 20, 21, 22, 23, 24, 25, 26, 27] (by decide) rfl
        have hKc := hK.sub (tys' := (tX1 p1k)) [9, 10, 11, 12, 13, 14, 15, 16, 17, 18, 19, 20, 21, 22, 23, 24, 25] rfl
        have hFc := va_free (wc := (oX1 (p1a 0) p1a p1k p1n (o_3.2) p1l)) hD hS hA [10, 11, 12, 13, 14, 15, 16, 17, 18, 19, 20, 21, 22, 23, 24, 25, 26, 27] rfl
        refine va_calli (va_runV (As := [.int v5_15, .int o_1]) (rest := [.int (((o_3.2) 19) (nn v5_15)), .ref (p0a 6)]) ⟨hx, hb, hml, hown, hts⟩ (kX1_take l dC dI (p0a := (st0 (p1a 0) p1a)) (p0k := p1k) (p0n := p1n) (p0w := (o_3.2)) (p0l := p1l) (p1 := v5_15) (p2 := o_1) (sz := _) (o := o_7) (hrun := hc_7)) (cwV 2 hts (gi_V qw469 qw470 qw471 qw126 (gi_z qw468)) rfl rfl rfl (by decide +kernel) ⟨Nat.le_of_ble_eq_true rfl, Nat.le_of_ble_eq_true rfl⟩) ⟨PRE.blind, va_recv hKc hPc (ci := 4) (q0 := 0) rfl rfl, PRE.of hE hS hFc hPc hKc hDc⟩ rfl rfl hl.1 rfl (lv_room (Nat.le_of_ble_eq_true rfl)) dX5_mergeInto_36 ⟨(Nat.le_of_ble_eq_true rfl), (Nat.le_of_ble_eq_true rfl)⟩) hS (fun q _ h => hFc q h) hFc (fun r8 u t H locs ht hvm hw hB hz1 hk1 hS => ?_)
        obtain ⟨hP, hD, hK⟩ := JOIN (wr := ((oX5 (p0a 0) p0a p0k p0w_15 p0l) ++ (oX9 (p1a 3) p1_2a p1_2k p1_2n p1_2w))) hP hD hK [10, 11, 12, 13, 14, 15, 16, 17, 18, 19, 20, 21, 22, 23, 24, 25, 26, 27] [0, 1, 2, 3, 4, 5, 6, 7, 8, 9, 28, 29, 30, 31, 32, 33] [0, 1, 2, 3, 4, 5, 6, 7, 8, 26, 27, 28, 29, 30] rfl rfl (by decide) (by decide) rfl hk1 hFc ht hvm hB
        have hP : va_P (dC, dI) cls ((oX5 (p0a 0) p0a p0k p0w_15 p0l) ++ (oX1 (p1a 0) p1a p1k p1n (o_3.2) p1l) ++ (oX9 (p1a 3) p1_2a p1_2k p1_2n p1_2w)) H := hP.sub [0, 1, 2, 3, 4, 5, 6, 7, 8, 9, 16, 17, 18, 19, 20, 21, 22, 23, 24, 25, 26, 27, 28, 29, 30, 31, 32, 33, 10, 11, 12, 13, 14, 15] rfl
        have hD : va_D A ((oX5 (p0a 0) p0a p0k p0w_15 p0l) ++ (oX1 (p1a 0) p1a p1k p1n (o_3.2) p1l) ++ (oX9 (p1a 3) p1_2a p1_2k p1_2n p1_2w)) := hD.sub [0, 1, 2, 3, 4, 5, 6, 7, 8, 9, 16, 17, 18, 19, 20, 21, 22, 23, 24, 25, 26, 27, 28, 29, 30, 31, 32, 33, 10, 11, 12, 13, 14, 15] (by decide) rfl
        have hK : va_K (dC, dI) cls ((tX5 p0k) ++ (tX1 p1k) ++ (tX9 p1_2k)) s := hK.sub [0, 1, 2, 3, 4, 5, 6, 7, 8, 14, 15, 16, 17, 18, 19, 20, 21, 22, 23, 24, 25, 26, 27, 28, 29, 30, 9, 10, 11, 12, 13] rfl
        obtain rfl : o_7 = r8 := hw.symm
        obtain ⟨hq9, hrun⟩ := chk9 hrun
        refine va_iast hx hb hK hP hD hS 5 4 rfl rfl (ixb_in hq9) dX5_mergeInto_39 (fun H locs hP hD hS => ?_)
        have hP : va_P (dC, dI) cls ((oX5 (p0a 0) p0a p0k (upw p0w_15 6 (nn (((o_3.2) 19) (nn v5_15))) o_7) p0l) ++ (oX1 (p1a 0) p1a p1k p1n (o_3.2) p1l) ++ (oX9 (p1a 3) p1_2a p1_2k p1_2n p1_2w)) H := hP
        have hD : va_D A ((oX5 (p0a 0) p0a p0k (upw p0w_15 6 (nn (((o_3.2) 19) (nn v5_15))) o_7) p0l) ++ (oX1 (p1a 0) p1a p1k p1n (o_3.2) p1l) ++ (oX9 (p1a 3) p1_2a p1_2k p1_2n p1_2w)) := hD
        obtain ⟨w10, ew10, hrun⟩ := let9 hrun
        rw [← ew10] at hP hD
        refine lv_aload_n hx hb dX5_mergeInto_40 rfl (lv_at hl 1 rfl) ?_
        refine va_get (D := (dC, dI)) (ci := 4) (v := .ref (p1a 20)) (C := RX1) (T := TX1) (N := 21) hx hb hts i_X1 hown hK hP 10 rfl rfl 19 (by decide) (hts _ qw433) (fun _ h9 => h9) rfl dX5_mergeInto_41 ?_
        refine lv_iload hx hb dX5_mergeInto_44 (lv_at hl 5 rfl) ?_
        obtain ⟨hq11, hrun⟩ := chk9 hrun
        refine va_iald hx hb hK hP 26 24 rfl rfl (ixb_in hq11) dX5_mergeInto_46 ?_
        refine lv_istore (lv' := [(5, .int (((o_3.2) 20) (nn v5_15))), (0, .ref (p0a 0)), (1, .ref (p1a 0)), (2, .int p2), (3, .int p3), (4, .int o_1)]) hx hb dX5_mergeInto_47 hl (by decide) rfl (fun ls hl => ?_)
        refine lv_goto (tgt := 15) hx hb dX5_mergeInto_49 (by decide) ?_
        exact IH15 (((o_3.2) 20) (nn v5_15)) w10 o15 _ _ _ hrun hP hD hK hS (lv_sub hl [1, 2, 3, 4, 5, 0] rfl) hk15
  obtain ⟨o15, hc15, hrun⟩ := bnd9 hrun
  refine L15 NF (o_3.1) p0w o15 _ _ _ hc15 hP hD hK hS (lv_sub hl [2, 3, 4, 5, 1, 0] rfl) ?_
  intro H locs ls hP hD hK hS hl
  have hl := hl
  refine lv_aload_n hx hb dX5_mergeInto_52 rfl (lv_at hl 1 rfl) ?_
  refine lv_iload_n hx hb dX5_mergeInto_53 rfl (lv_at hl 3 rfl) ?_
  obtain ⟨o_12, hc_12, hrun⟩ := bnd9 hrun
  have hPc := hP.sub (ws' := (oX1 (p1a 0) p1a p1k p1n (o_3.2) p1l)) [10, 11, 12, 13, 14, 15, 16, 17, 18, 19, 20, 21, 22, 23, 24, 25, 26, 27] rfl
  have hDc := hD.sub (ws' := (oX1 (p1a 0) p1a p1k p1n (o_3.2) p1l)) [10, 11, 12, 13, 14, 15, 16, 17, 18, 19, 20, 21, 22, 23, 24, 25, 26, 27] (by decide) rfl
  have hKc := hK.sub (tys' := (tX1 p1k)) [9, 10, 11, 12, 13, 14, 15, 16, 17, 18, 19, 20, 21, 22, 23, 24, 25] rfl
  have hFc := va_free (wc := (oX1 (p1a 0) p1a p1k p1n (o_3.2) p1l)) hD hS hA [10, 11, 12, 13, 14, 15, 16, 17, 18, 19, 20, 21, 22, 23, 24, 25, 26, 27] rfl
  refine va_calli (va_runV (As := [.int p3]) (rest := []) ⟨hx, hb, hml, hown, hts⟩ (kX1_takeSteps l dC dI (p0a := (st0 (p1a 0) p1a)) (p0k := p1k) (p0n := p1n) (p0w := (o_3.2)) (p0l := p1l) (p1 := p3) (sz := _) (o := o_12) (hrun := hc_12)) (cwV 1 hts (gi_V qw488 qw179 qw180 qw126 (gi_z qw177)) rfl rfl rfl (by decide +kernel) ⟨Nat.le_of_ble_eq_true rfl, Nat.le_of_ble_eq_true rfl⟩) ⟨PRE.blind, va_recv hKc hPc (ci := 4) (q0 := 0) rfl rfl, PRE.of hE hS hFc hPc hKc hDc⟩ rfl rfl hl.1 rfl (lv_room (Nat.le_of_ble_eq_true rfl)) dX5_mergeInto_54 ⟨(Nat.le_of_ble_eq_true rfl), (Nat.le_of_ble_eq_true rfl)⟩) hS (fun q _ h => hFc q h) hFc (fun r13 u t H locs ht hvm hw hB hz1 hk1 hS => ?_)
  obtain ⟨hP, hD, hK⟩ := JOIN (wr := ((oX5 (p0a 0) p0a p0k o15 p0l) ++ (oX9 (p1a 3) p1_2a p1_2k p1_2n p1_2w))) hP hD hK [10, 11, 12, 13, 14, 15, 16, 17, 18, 19, 20, 21, 22, 23, 24, 25, 26, 27] [0, 1, 2, 3, 4, 5, 6, 7, 8, 9, 28, 29, 30, 31, 32, 33] [0, 1, 2, 3, 4, 5, 6, 7, 8, 26, 27, 28, 29, 30] rfl rfl (by decide) (by decide) rfl hk1 hFc ht hvm hB
  have hP : va_P (dC, dI) cls ((oX5 (p0a 0) p0a p0k o15 p0l) ++ (oX1 (p1a 0) p1a p1k p1n (o_12.2) p1l) ++ (oX9 (p1a 3) p1_2a p1_2k p1_2n p1_2w)) H := hP.sub [0, 1, 2, 3, 4, 5, 6, 7, 8, 9, 16, 17, 18, 19, 20, 21, 22, 23, 24, 25, 26, 27, 28, 29, 30, 31, 32, 33, 10, 11, 12, 13, 14, 15] rfl
  have hD : va_D A ((oX5 (p0a 0) p0a p0k o15 p0l) ++ (oX1 (p1a 0) p1a p1k p1n (o_12.2) p1l) ++ (oX9 (p1a 3) p1_2a p1_2k p1_2n p1_2w)) := hD.sub [0, 1, 2, 3, 4, 5, 6, 7, 8, 9, 16, 17, 18, 19, 20, 21, 22, 23, 24, 25, 26, 27, 28, 29, 30, 31, 32, 33, 10, 11, 12, 13, 14, 15] (by decide) rfl
  have hK : va_K (dC, dI) cls ((tX5 p0k) ++ (tX1 p1k) ++ (tX9 p1_2k)) s := hK.sub [0, 1, 2, 3, 4, 5, 6, 7, 8, 14, 15, 16, 17, 18, 19, 20, 21, 22, 23, 24, 25, 26, 27, 28, 29, 30, 9, 10, 11, 12, 13] rfl
  obtain rfl : r13 = (o_12.1) := hw
  refine lv_istore (lv' := [(6, .int (o_12.1)), (0, .ref (p0a 0)), (1, .ref (p1a 0)), (2, .int p2), (3, .int p3)]) hx hb dX5_mergeInto_57 hl (by decide) rfl (fun ls hl => ?_)
  have L59 : ∀ (n_59 : Nat) (v6_59 : Int32) (p1w_59 : ST) (p1_2w_59 : ST) (o59 : ST × ST) (H : Heap) (locs : List Loc) (ls : Array Slot), (fX5_mergeInto_L59 p2 p1_2n n_59) v6_59 p1w_59 p1_2w_59 = some o59 → va_P (dC, dI) cls ((oX5 (p0a 0) p0a p0k o15 p0l) ++ (oX1 (p1a 0) p1a p1k p1n p1w_59 p1l) ++ (oX9 (p1a 3) p1_2a p1_2k p1_2n p1_2w_59)) H → va_D A ((oX5 (p0a 0) p0a p0k o15 p0l) ++ (oX1 (p1a 0) p1a p1k p1n p1w_59 p1l) ++ (oX9 (p1a 3) p1_2a p1_2k p1_2n p1_2w_59)) → va_K (dC, dI) cls ((tX5 p0k) ++ (tX1 p1k) ++ (tX9 p1_2k)) s → va_S A s.heap H locs → lv_has ls 7 [(0, .ref (p0a 0)), (1, .ref (p1a 0)), (2, .int p2), (3, .int p3), (6, .int v6_59)] → (∀ (H : Heap) (locs : List Loc) (ls : Array Slot), va_P (dC, dI) cls ((oX5 (p0a 0) p0a p0k o15 p0l) ++ (oX1 (p1a 0) p1a p1k p1n (o59.1) p1l) ++ (oX9 (p1a 3) p1_2a p1_2k p1_2n (o59.2))) H → va_D A ((oX5 (p0a 0) p0a p0k o15 p0l) ++ (oX1 (p1a 0) p1a p1k p1n (o59.1) p1l) ++ (oX9 (p1a 3) p1_2a p1_2k p1_2n (o59.2))) → va_K (dC, dI) cls ((tX5 p0k) ++ (tX1 p1k) ++ (tX9 p1_2k)) s → va_S A s.heap H locs → lv_has ls 7 [(0, .ref (p0a 0)), (1, .ref (p1a 0)), (2, .int p2), (3, .int p3)] → W p l e ({ frames := 2, cells := 0, slots := 0, locals := 47 } : Room) s m ([.ref (p0a 0), .ref (p1a 0), .int p2, .int p3] : List Value).toArray below meth c H locs 0 0 Q (F0 m 90 ls [])) → W p l e ({ frames := 2, cells := 0, slots := 0, locals := 47 } : Room) s m ([.ref (p0a 0), .ref (p1a 0), .int p2, .int p3] : List Value).toArray below meth c H locs 0 0 Q (F0 m 59 ls []) := by
    intro n_59
    induction n_59 with
    | zero => intro v6_59 p1w_59 p1_2w_59 o59 H locs ls hrun; exact (no9 rfl hrun).elim
    | succ n_59 IH59 =>
      intro v6_59 p1w_59 p1_2w_59 o59 H locs ls hrun hP hD hK hS hl hk59
      unfold fX5_mergeInto_L59 at hrun
      refine lv_iload hx hb dX5_mergeInto_59 (lv_at hl 4 rfl) ?_
      rcases br9 hrun with ⟨hc14, hrun⟩ | ⟨hc14, hrun⟩
      · refine lv_if_lt (tgt := 90) hx hb dX5_mergeInto_61 (by decide) (fun _ => ?_) (fun c => absurd hc14 c)
        obtain rfl := (Option.some.inj hrun)
        exact hk59 _ _ _ hP hD hK hS (lv_sub hl [0, 1, 2, 3] rfl)
      · refine lv_if_lt (tgt := 90) hx hb dX5_mergeInto_61 (by decide) (fun c => absurd c hc14) (fun _ => ?_)
        refine lv_aload_n hx hb dX5_mergeInto_64 rfl (lv_at hl 1 rfl) ?_
        refine va_get (D := (dC, dI)) (ci := 4) (v := .ref (p1a 3)) (C := RX1) (T := TX1) (N := 21) hx hb hts i_X1 hown hK hP 10 rfl rfl 2 (by decide) (hts _ qw435) (fun _ h9 => h9) rfl dX5_mergeInto_65 ?_
        refine va_get (D := (dC, dI)) (ci := 3) (v := .ref (p1_2a 6)) (C := RX9) (T := TX9) (N := 6) hx hb hts i_X9 hown hK hP 28 rfl rfl 5 (by decide) (hts _ qw437) (fun _ h9 => h9) rfl dX5_mergeInto_68 ?_
        refine lv_iload hx hb dX5_mergeInto_71 (lv_at hl 4 rfl) ?_
        obtain ⟨hq15, hrun⟩ := chk9 hrun
        refine va_iald hx hb hK hP 33 30 rfl rfl (ixb_in hq15) dX5_mergeInto_73 ?_
        refine lv_istore (lv' := [(5, .int (p1_2w_59 6 (nn v6_59))), (0, .ref (p0a 0)), (1, .ref (p1a 0)), (2, .int p2), (3, .int p3), (6, .int v6_59)]) hx hb dX5_mergeInto_74 hl (by decide) rfl (fun ls hl => ?_)
        refine lv_aload_n hx hb dX5_mergeInto_76 rfl (lv_at hl 2 rfl) ?_
        refine lv_iload_n hx hb dX5_mergeInto_77 rfl (lv_at hl 3 rfl) ?_
        refine lv_iload hx hb dX5_mergeInto_78 (lv_at hl 5 rfl) ?_
        obtain ⟨o_16, hc_16, hrun⟩ := bnd9 hrun
        have hPc := hP.sub (ws' := ((oX1 (p1a 0) p1a p1k p1n p1w_59 p1l) ++ (oX9 (p1a 3) p1_2a p1_2k p1_2n p1_2w_59))) [10, 11, 12, 13, 14, 15, 16, 17, 18, 19, 20, 21, 22, 23, 24, 25, 26, 27, 28, 29, 30, 31, 32, 33] rfl
        have hDc := hD.sub (ws' := ((oX1 (p1a 0) p1a p1k p1n p1w_59 p1l) ++ (oX9 (p1a 3) p1_2a p1_2k p1_2n p1_2w_59))) [10, 11, 12, 13, 14, 15, 16, 17, 18, 19, 20, 21, 22, 23, 24, 25, 26, 27, 28, 29, 30, 31, 32, 33] (by decide) rfl
        have hKc := hK.sub (tys' := ((tX1 p1k) ++ (tX9 p1_2k))) [9, 10, 11, 12, 13, 14, 15, 16, 17, 18, 19, 20, 21, 22, 23, 24, 25, 26, 27, 28, 29, 30] rfl
        have hFc := va_free (wc := ((oX1 (p1a 0) p1a p1k p1n p1w_59 p1l) ++ (oX9 (p1a 3) p1_2a p1_2k p1_2n p1_2w_59))) hD hS hA [10, 11, 12, 13, 14, 15, 16, 17, 18, 19, 20, 21, 22, 23, 24, 25, 26, 27, 28, 29, 30, 31, 32, 33] rfl
        refine va_callv (va_runV (As := [.int p2, .int v6_59]) (rest := []) ⟨hx, hb, hml, hown, hts⟩ (kX1_link l dC dI (p0a := (st0 (p1a 0) p1a)) (p0k := p1k) (p0n := p1n) (p0w := p1w_59) (p0l := p1l) (p1 := p2) (p2 := v6_59) (p0_2a := p1_2a) (p0_2k := p1_2k) (p0_2n := p1_2n) (p0_2w := p1_2w_59) (sz := _) (o := o_16) (hrun := hc_16)) (cwV 2 hts (gi_V qw494 qw141 qw142 qw126 (gi_z qw139)) rfl rfl rfl (by decide +kernel) ⟨Nat.le_of_ble_eq_true rfl, Nat.le_of_ble_eq_true rfl⟩) ⟨PRE.blind, va_recv hKc hPc (ci := 4) (q0 := 0) rfl rfl, PRE.of hE hS hFc hPc hKc hDc⟩ rfl rfl hl.1 rfl (lv_room (Nat.le_of_ble_eq_true rfl)) dX5_mergeInto_80 ⟨(Nat.le_of_ble_eq_true rfl), (Nat.le_of_ble_eq_true rfl)⟩) hS (fun q _ h => hFc q h) hFc (fun u t H locs ht hvm hw hB hz1 hk1 hS => ?_)
        obtain ⟨hP, hD, hK⟩ := JOIN (wr := (oX5 (p0a 0) p0a p0k o15 p0l)) hP hD hK [10, 11, 12, 13, 14, 15, 16, 17, 18, 19, 20, 21, 22, 23, 24, 25, 26, 27, 28, 29, 30, 31, 32, 33] [0, 1, 2, 3, 4, 5, 6, 7, 8, 9] [0, 1, 2, 3, 4, 5, 6, 7, 8] rfl rfl (by decide) (by decide) rfl hk1 hFc ht hvm hB
        have hP : va_P (dC, dI) cls ((oX5 (p0a 0) p0a p0k o15 p0l) ++ (oX1 (p1a 0) p1a p1k p1n (o_16.1) p1l) ++ (oX9 (p1a 3) p1_2a p1_2k p1_2n (o_16.2))) H := hP.sub [0, 1, 2, 3, 4, 5, 6, 7, 8, 9, 10, 11, 12, 13, 14, 15, 16, 17, 18, 19, 20, 21, 22, 23, 24, 25, 26, 27, 28, 29, 30, 31, 32, 33] rfl
        have hD : va_D A ((oX5 (p0a 0) p0a p0k o15 p0l) ++ (oX1 (p1a 0) p1a p1k p1n (o_16.1) p1l) ++ (oX9 (p1a 3) p1_2a p1_2k p1_2n (o_16.2))) := hD.sub [0, 1, 2, 3, 4, 5, 6, 7, 8, 9, 10, 11, 12, 13, 14, 15, 16, 17, 18, 19, 20, 21, 22, 23, 24, 25, 26, 27, 28, 29, 30, 31, 32, 33] (by decide) rfl
        have hK : va_K (dC, dI) cls ((tX5 p0k) ++ (tX1 p1k) ++ (tX9 p1_2k)) s := hK.sub [0, 1, 2, 3, 4, 5, 6, 7, 8, 9, 10, 11, 12, 13, 14, 15, 16, 17, 18, 19, 20, 21, 22, 23, 24, 25, 26, 27, 28, 29, 30] rfl
        refine lv_iload hx hb dX5_mergeInto_83 (lv_at hl 0 rfl) ?_
        refine lv_istore (lv' := [(6, .int (p1_2w_59 6 (nn v6_59))), (5, .int (p1_2w_59 6 (nn v6_59))), (0, .ref (p0a 0)), (1, .ref (p1a 0)), (2, .int p2), (3, .int p3)]) hx hb dX5_mergeInto_85 hl (by decide) rfl (fun ls hl => ?_)
        refine lv_goto (tgt := 59) hx hb dX5_mergeInto_87 (by decide) ?_
        exact IH59 (p1_2w_59 6 (nn v6_59)) (o_16.1) (o_16.2) o59 _ _ _ hrun hP hD hK hS (lv_sub hl [2, 3, 4, 5, 0] rfl) hk59
  obtain ⟨o59, hc59, hrun⟩ := bnd9 hrun
  refine L59 NF (o_12.1) (o_12.2) p1_2w o59 _ _ _ hc59 hP hD hK hS (lv_sub hl [1, 2, 3, 4, 0] rfl) ?_
  intro H locs ls hP hD hK hS hl
  have hl := hl
  refine lv_aload_n hx hb dX5_mergeInto_90 rfl (lv_at hl 1 rfl) ?_
  refine va_get (D := (dC, dI)) (ci := 4) (v := .ref (p1a 8)) (C := RX1) (T := TX1) (N := 21) hx hb hts i_X1 hown hK hP 10 rfl rfl 7 (by decide) (hts _ qw426) (fun _ h9 => h9) rfl dX5_mergeInto_91 ?_
  refine lv_iload_n hx hb dX5_mergeInto_94 rfl (lv_at hl 2 rfl) ?_
  refine lv_aload_n hx hb dX5_mergeInto_95 rfl (lv_at hl 1 rfl) ?_
  refine va_get (D := (dC, dI)) (ci := 4) (v := .ref (p1a 8)) (C := RX1) (T := TX1) (N := 21) hx hb hts i_X1 hown hK hP 10 rfl rfl 7 (by decide) (hts _ qw426) (fun _ h9 => h9) rfl dX5_mergeInto_96 ?_
  refine lv_iload_n hx hb dX5_mergeInto_99 rfl (lv_at hl 3 rfl) ?_
  obtain ⟨hq17, hrun⟩ := chk9 hrun
  refine va_iald hx hb hK hP 15 13 rfl rfl (ixb_in hq17) dX5_mergeInto_100 ?_
  obtain ⟨hq18, hrun⟩ := chk9 hrun
  refine va_iast hx hb hK hP hD hS 15 13 rfl rfl (ixb_in hq18) dX5_mergeInto_101 (fun H locs hP hD hS => ?_)
  have hP : va_P (dC, dI) cls ((oX5 (p0a 0) p0a p0k o15 p0l) ++ (oX1 (p1a 0) p1a p1k p1n (upw (o59.1) 8 (nn p2) (((o59.1) 8) (nn p3))) p1l) ++ (oX9 (p1a 3) p1_2a p1_2k p1_2n (o59.2))) H := hP
  have hD : va_D A ((oX5 (p0a 0) p0a p0k o15 p0l) ++ (oX1 (p1a 0) p1a p1k p1n (upw (o59.1) 8 (nn p2) (((o59.1) 8) (nn p3))) p1l) ++ (oX9 (p1a 3) p1_2a p1_2k p1_2n (o59.2))) := hD
  obtain ⟨w19, ew19, hrun⟩ := let9 hrun
  rw [← ew19] at hP hD
  refine lv_aload_n hx hb dX5_mergeInto_102 rfl (lv_at hl 1 rfl) ?_
  refine va_get (D := (dC, dI)) (ci := 4) (v := .ref (p1a 9)) (C := RX1) (T := TX1) (N := 21) hx hb hts i_X1 hown hK hP 10 rfl rfl 8 (by decide) (hts _ qw445) (fun _ h9 => h9) rfl dX5_mergeInto_103 ?_
  refine lv_iload_n hx hb dX5_mergeInto_106 rfl (lv_at hl 2 rfl) ?_
  refine lv_aload_n hx hb dX5_mergeInto_107 rfl (lv_at hl 1 rfl) ?_
  refine va_get (D := (dC, dI)) (ci := 4) (v := .ref (p1a 9)) (C := RX1) (T := TX1) (N := 21) hx hb hts i_X1 hown hK hP 10 rfl rfl 8 (by decide) (hts _ qw445) (fun _ h9 => h9) rfl dX5_mergeInto_108 ?_
  refine lv_iload_n hx hb dX5_mergeInto_111 rfl (lv_at hl 3 rfl) ?_
  obtain ⟨hq20, hrun⟩ := chk9 hrun
  refine va_iald hx hb hK hP 16 14 rfl rfl (ixb_in hq20) dX5_mergeInto_112 ?_
  obtain ⟨hq21, hrun⟩ := chk9 hrun
  refine va_iast hx hb hK hP hD hS 16 14 rfl rfl (ixb_in hq21) dX5_mergeInto_113 (fun H locs hP hD hS => ?_)
  have hP : va_P (dC, dI) cls ((oX5 (p0a 0) p0a p0k o15 p0l) ++ (oX1 (p1a 0) p1a p1k p1n (upw w19 9 (nn p2) (w19 9 (nn p3))) p1l) ++ (oX9 (p1a 3) p1_2a p1_2k p1_2n (o59.2))) H := hP
  have hD : va_D A ((oX5 (p0a 0) p0a p0k o15 p0l) ++ (oX1 (p1a 0) p1a p1k p1n (upw w19 9 (nn p2) (w19 9 (nn p3))) p1l) ++ (oX9 (p1a 3) p1_2a p1_2k p1_2n (o59.2))) := hD
  obtain ⟨w22, ew22, hrun⟩ := let9 hrun
  rw [← ew22] at hP hD
  refine lv_aload_n hx hb dX5_mergeInto_114 rfl (lv_at hl 1 rfl) ?_
  refine va_get (D := (dC, dI)) (ci := 4) (v := .ref (p1a 10)) (C := RX1) (T := TX1) (N := 21) hx hb hts i_X1 hown hK hP 10 rfl rfl 9 (by decide) (hts _ qw498) (fun _ h9 => h9) rfl dX5_mergeInto_115 ?_
  refine lv_iload_n hx hb dX5_mergeInto_118 rfl (lv_at hl 2 rfl) ?_
  refine lv_aload_n hx hb dX5_mergeInto_119 rfl (lv_at hl 1 rfl) ?_
  refine va_get (D := (dC, dI)) (ci := 4) (v := .ref (p1a 10)) (C := RX1) (T := TX1) (N := 21) hx hb hts i_X1 hown hK hP 10 rfl rfl 9 (by decide) (hts _ qw498) (fun _ h9 => h9) rfl dX5_mergeInto_120 ?_
  refine lv_iload_n hx hb dX5_mergeInto_123 rfl (lv_at hl 3 rfl) ?_
  obtain ⟨hq23, hrun⟩ := chk9 hrun
  refine va_iald hx hb hK hP 17 15 rfl rfl (ixb_in hq23) dX5_mergeInto_124 ?_
  obtain ⟨hq24, hrun⟩ := chk9 hrun
  refine va_iast hx hb hK hP hD hS 17 15 rfl rfl (ixb_in hq24) dX5_mergeInto_125 (fun H locs hP hD hS => ?_)
  have hP : va_P (dC, dI) cls ((oX5 (p0a 0) p0a p0k o15 p0l) ++ (oX1 (p1a 0) p1a p1k p1n (upw w22 10 (nn p2) (w22 10 (nn p3))) p1l) ++ (oX9 (p1a 3) p1_2a p1_2k p1_2n (o59.2))) H := hP
  have hD : va_D A ((oX5 (p0a 0) p0a p0k o15 p0l) ++ (oX1 (p1a 0) p1a p1k p1n (upw w22 10 (nn p2) (w22 10 (nn p3))) p1l) ++ (oX9 (p1a 3) p1_2a p1_2k p1_2n (o59.2))) := hD
  obtain ⟨w25, ew25, hrun⟩ := let9 hrun
  rw [← ew25] at hP hD
  refine lv_aload_n hx hb dX5_mergeInto_126 rfl (lv_at hl 1 rfl) ?_
  refine va_get (D := (dC, dI)) (ci := 4) (v := .ref (p1a 11)) (C := RX1) (T := TX1) (N := 21) hx hb hts i_X1 hown hK hP 10 rfl rfl 10 (by decide) (hts _ qw499) (fun _ h9 => h9) rfl dX5_mergeInto_127 ?_
  refine lv_iload_n hx hb dX5_mergeInto_130 rfl (lv_at hl 2 rfl) ?_
  refine lv_aload_n hx hb dX5_mergeInto_131 rfl (lv_at hl 1 rfl) ?_
  refine va_get (D := (dC, dI)) (ci := 4) (v := .ref (p1a 11)) (C := RX1) (T := TX1) (N := 21) hx hb hts i_X1 hown hK hP 10 rfl rfl 10 (by decide) (hts _ qw499) (fun _ h9 => h9) rfl dX5_mergeInto_132 ?_
  refine lv_iload_n hx hb dX5_mergeInto_135 rfl (lv_at hl 3 rfl) ?_
  obtain ⟨hq26, hrun⟩ := chk9 hrun
  refine va_iald hx hb hK hP 18 16 rfl rfl (ixb_in hq26) dX5_mergeInto_136 ?_
  obtain ⟨hq27, hrun⟩ := chk9 hrun
  refine va_iast hx hb hK hP hD hS 18 16 rfl rfl (ixb_in hq27) dX5_mergeInto_137 (fun H locs hP hD hS => ?_)
  have hP : va_P (dC, dI) cls ((oX5 (p0a 0) p0a p0k o15 p0l) ++ (oX1 (p1a 0) p1a p1k p1n (upw w25 11 (nn p2) (w25 11 (nn p3))) p1l) ++ (oX9 (p1a 3) p1_2a p1_2k p1_2n (o59.2))) H := hP
  have hD : va_D A ((oX5 (p0a 0) p0a p0k o15 p0l) ++ (oX1 (p1a 0) p1a p1k p1n (upw w25 11 (nn p2) (w25 11 (nn p3))) p1l) ++ (oX9 (p1a 3) p1_2a p1_2k p1_2n (o59.2))) := hD
  obtain ⟨w28, ew28, hrun⟩ := let9 hrun
  rw [← ew28] at hP hD
  refine lv_aload_n hx hb dX5_mergeInto_138 rfl (lv_at hl 0 rfl) ?_
  refine lv_dup hx hb dX5_mergeInto_139 rfl ?_
  refine va_get (D := (dC, dI)) (ci := 7) (v := .long (p0l 0 7)) (C := RX5) (T := TX5) (N := 12) hx hb hts i_X5 hown hK hP 0 rfl rfl 7 (by decide) (hts _ qw504) (fun _ h9 => h9) rfl dX5_mergeInto_140 ?_
  refine lv_lconst (v := 1) hx hb dX5_mergeInto_143 (by decide) ?_
  refine lv_iload_n hx hb dX5_mergeInto_144 rfl (lv_at hl 3 rfl) ?_
  refine lv_lshl (v := (((1 : Int64) <<< ((p3 : Int32).toInt64 &&& 63)))) hx hb dX5_mergeInto_145 rfl ?_
  refine lv_ldc2 (v := (-1)) hx hb hown (hts _ qw610) dX5_mergeInto_146 ?_
  refine lv_lxor hx hb dX5_mergeInto_149 ?_
  refine lv_land hx hb dX5_mergeInto_150 ?_
  refine va_put (D := (dC, dI)) (ci := 7) (v := .long ((p0l 0 7) &&& ((((1 : Int64) <<< ((p3 : Int32).toInt64 &&& 63))) ^^^ ((-1) : Int64)))) (ty := .long) (C := RX5) (T := TX5) (N := 12) hx hb hts i_X5 tyX5 tyX5_ok nmX5 hown hK hP hD hS 0 rfl rfl 7 (by decide) (hts _ qw504) (fun _ h9 => h9) rfl (by decide +kernel) rfl rfl (Nat.le_of_ble_eq_true rfl) dX5_mergeInto_151 (fun H locs hP hD hS => ?_)
  have hP : va_P (dC, dI) cls ((oX5 (p0a 0) p0a p0k o15 (upl p0l 0 7 ((p0l 0 7) &&& ((((1 : Int64) <<< ((p3 : Int32).toInt64 &&& 63))) ^^^ ((-1) : Int64))))) ++ (oX1 (p1a 0) p1a p1k p1n w28 p1l) ++ (oX9 (p1a 3) p1_2a p1_2k p1_2n (o59.2))) H := hP
  have hD : va_D A ((oX5 (p0a 0) p0a p0k o15 (upl p0l 0 7 ((p0l 0 7) &&& ((((1 : Int64) <<< ((p3 : Int32).toInt64 &&& 63))) ^^^ ((-1) : Int64))))) ++ (oX1 (p1a 0) p1a p1k p1n w28 p1l) ++ (oX9 (p1a 3) p1_2a p1_2k p1_2n (o59.2))) := hD
  obtain ⟨l29, el29, hrun⟩ := let9 hrun
  rw [← el29] at hP hD
  refine lv_aload_n hx hb dX5_mergeInto_154 rfl (lv_at hl 1 rfl) ?_
  refine lv_aload_n hx hb dX5_mergeInto_155 rfl (lv_at hl 1 rfl) ?_
  refine va_get (D := (dC, dI)) (ci := 4) (v := .ref (p1a 10)) (C := RX1) (T := TX1) (N := 21) hx hb hts i_X1 hown hK hP 10 rfl rfl 9 (by decide) (hts _ qw498) (fun _ h9 => h9) rfl dX5_mergeInto_156 ?_
  refine lv_iload_n hx hb dX5_mergeInto_159 rfl (lv_at hl 2 rfl) ?_
  obtain ⟨hq30, hrun⟩ := chk9 hrun
  refine va_iald hx hb hK hP 17 15 rfl rfl (ixb_in hq30) dX5_mergeInto_160 ?_
  refine lv_iload_n hx hb dX5_mergeInto_161 rfl (lv_at hl 3 rfl) ?_
  refine lv_iload_n hx hb dX5_mergeInto_162 rfl (lv_at hl 2 rfl) ?_
  obtain ⟨o_31, hc_31, hrun⟩ := bnd9 hrun
  have hPc := hP.sub (ws' := (oX1 (p1a 0) p1a p1k p1n w28 p1l)) [10, 11, 12, 13, 14, 15, 16, 17, 18, 19, 20, 21, 22, 23, 24, 25, 26, 27] rfl
  have hDc := hD.sub (ws' := (oX1 (p1a 0) p1a p1k p1n w28 p1l)) [10, 11, 12, 13, 14, 15, 16, 17, 18, 19, 20, 21, 22, 23, 24, 25, 26, 27] (by decide) rfl
  have hKc := hK.sub (tys' := (tX1 p1k)) [9, 10, 11, 12, 13, 14, 15, 16, 17, 18, 19, 20, 21, 22, 23, 24, 25] rfl
  have hFc := va_free (wc := (oX1 (p1a 0) p1a p1k p1n w28 p1l)) hD hS hA [10, 11, 12, 13, 14, 15, 16, 17, 18, 19, 20, 21, 22, 23, 24, 25, 26, 27] rfl
  refine va_callv (va_runS (As := [.ref (p1a 0), .int (w28 10 (nn p2)), .int p3, .int p2]) (rest := []) ⟨hx, hb, hml, hown, hts⟩ (kX5_takeFrom l dC dI (p0a := (st0 (p1a 0) p1a)) (p0k := p1k) (p0n := p1n) (p0w := w28) (p0l := p1l) (p1 := (w28 10 (nn p2))) (p2 := p3) (p3 := p2) (sz := _) (o := o_31) (hrun := hc_31)) (va_cwS 4 hts (gi_S qw612 qw613 qw442 (gi_z qw611)) rfl rfl rfl (by decide +kernel) ⟨Nat.le_of_ble_eq_true rfl, Nat.le_of_ble_eq_true rfl⟩) ⟨PRE.blind, PRE.of hE hS hFc hPc hKc hDc⟩ rfl rfl hl.1 rfl (lv_room (Nat.le_of_ble_eq_true rfl)) dX5_mergeInto_163 ⟨(Nat.le_of_ble_eq_true rfl), (Nat.le_of_ble_eq_true rfl)⟩) hS (fun q _ h => hFc q h) hFc (fun u t H locs ht hvm hw hB hz1 hk1 hS => ?_)
  obtain ⟨hP, hD, hK⟩ := JOIN (wr := ((oX5 (p0a 0) p0a p0k o15 l29) ++ (oX9 (p1a 3) p1_2a p1_2k p1_2n (o59.2)))) hP hD hK [10, 11, 12, 13, 14, 15, 16, 17, 18, 19, 20, 21, 22, 23, 24, 25, 26, 27] [0, 1, 2, 3, 4, 5, 6, 7, 8, 9, 28, 29, 30, 31, 32, 33] [0, 1, 2, 3, 4, 5, 6, 7, 8, 26, 27, 28, 29, 30] rfl rfl (by decide) (by decide) rfl hk1 hFc ht hvm hB
  have hP : va_P (dC, dI) cls ((oX5 (p0a 0) p0a p0k o15 l29) ++ (oX1 (p1a 0) p1a p1k p1n o_31 p1l) ++ (oX9 (p1a 3) p1_2a p1_2k p1_2n (o59.2))) H := hP.sub [0, 1, 2, 3, 4, 5, 6, 7, 8, 9, 16, 17, 18, 19, 20, 21, 22, 23, 24, 25, 26, 27, 28, 29, 30, 31, 32, 33, 10, 11, 12, 13, 14, 15] rfl
  have hD : va_D A ((oX5 (p0a 0) p0a p0k o15 l29) ++ (oX1 (p1a 0) p1a p1k p1n o_31 p1l) ++ (oX9 (p1a 3) p1_2a p1_2k p1_2n (o59.2))) := hD.sub [0, 1, 2, 3, 4, 5, 6, 7, 8, 9, 16, 17, 18, 19, 20, 21, 22, 23, 24, 25, 26, 27, 28, 29, 30, 31, 32, 33, 10, 11, 12, 13, 14, 15] (by decide) rfl
  have hK : va_K (dC, dI) cls ((tX5 p0k) ++ (tX1 p1k) ++ (tX9 p1_2k)) s := hK.sub [0, 1, 2, 3, 4, 5, 6, 7, 8, 14, 15, 16, 17, 18, 19, 20, 21, 22, 23, 24, 25, 26, 27, 28, 29, 30, 9, 10, 11, 12, 13] rfl
  refine lv_aload_n hx hb dX5_mergeInto_166 rfl (lv_at hl 1 rfl) ?_
  refine lv_aload_n hx hb dX5_mergeInto_167 rfl (lv_at hl 1 rfl) ?_
  refine va_get (D := (dC, dI)) (ci := 4) (v := .ref (p1a 11)) (C := RX1) (T := TX1) (N := 21) hx hb hts i_X1 hown hK hP 10 rfl rfl 10 (by decide) (hts _ qw499) (fun _ h9 => h9) rfl dX5_mergeInto_168 ?_
  refine lv_iload_n hx hb dX5_mergeInto_171 rfl (lv_at hl 2 rfl) ?_
  obtain ⟨hq32, hrun⟩ := chk9 hrun
  refine va_iald hx hb hK hP 18 16 rfl rfl (ixb_in hq32) dX5_mergeInto_172 ?_
  refine lv_iload_n hx hb dX5_mergeInto_173 rfl (lv_at hl 3 rfl) ?_
  refine lv_iload_n hx hb dX5_mergeInto_174 rfl (lv_at hl 2 rfl) ?_
  obtain ⟨o_33, hc_33, hrun⟩ := bnd9 hrun
  have hPc := hP.sub (ws' := (oX1 (p1a 0) p1a p1k p1n o_31 p1l)) [10, 11, 12, 13, 14, 15, 16, 17, 18, 19, 20, 21, 22, 23, 24, 25, 26, 27] rfl
  have hDc := hD.sub (ws' := (oX1 (p1a 0) p1a p1k p1n o_31 p1l)) [10, 11, 12, 13, 14, 15, 16, 17, 18, 19, 20, 21, 22, 23, 24, 25, 26, 27] (by decide) rfl
  have hKc := hK.sub (tys' := (tX1 p1k)) [9, 10, 11, 12, 13, 14, 15, 16, 17, 18, 19, 20, 21, 22, 23, 24, 25] rfl
  have hFc := va_free (wc := (oX1 (p1a 0) p1a p1k p1n o_31 p1l)) hD hS hA [10, 11, 12, 13, 14, 15, 16, 17, 18, 19, 20, 21, 22, 23, 24, 25, 26, 27] rfl
  refine va_callv (va_runS (As := [.ref (p1a 0), .int (o_31 11 (nn p2)), .int p3, .int p2]) (rest := []) ⟨hx, hb, hml, hown, hts⟩ (kX5_takeFrom l dC dI (p0a := (st0 (p1a 0) p1a)) (p0k := p1k) (p0n := p1n) (p0w := o_31) (p0l := p1l) (p1 := (o_31 11 (nn p2))) (p2 := p3) (p3 := p2) (sz := _) (o := o_33) (hrun := hc_33)) (va_cwS 4 hts (gi_S qw612 qw613 qw442 (gi_z qw611)) rfl rfl rfl (by decide +kernel) ⟨Nat.le_of_ble_eq_true rfl, Nat.le_of_ble_eq_true rfl⟩) ⟨PRE.blind, PRE.of hE hS hFc hPc hKc hDc⟩ rfl rfl hl.1 rfl (lv_room (Nat.le_of_ble_eq_true rfl)) dX5_mergeInto_175 ⟨(Nat.le_of_ble_eq_true rfl), (Nat.le_of_ble_eq_true rfl)⟩) hS (fun q _ h => hFc q h) hFc (fun u t H locs ht hvm hw hB hz1 hk1 hS => ?_)
  obtain ⟨hP, hD, hK⟩ := JOIN (wr := ((oX5 (p0a 0) p0a p0k o15 l29) ++ (oX9 (p1a 3) p1_2a p1_2k p1_2n (o59.2)))) hP hD hK [10, 11, 12, 13, 14, 15, 16, 17, 18, 19, 20, 21, 22, 23, 24, 25, 26, 27] [0, 1, 2, 3, 4, 5, 6, 7, 8, 9, 28, 29, 30, 31, 32, 33] [0, 1, 2, 3, 4, 5, 6, 7, 8, 26, 27, 28, 29, 30] rfl rfl (by decide) (by decide) rfl hk1 hFc ht hvm hB
  have hP : va_P (dC, dI) cls ((oX5 (p0a 0) p0a p0k o15 l29) ++ (oX1 (p1a 0) p1a p1k p1n o_33 p1l) ++ (oX9 (p1a 3) p1_2a p1_2k p1_2n (o59.2))) H := hP.sub [0, 1, 2, 3, 4, 5, 6, 7, 8, 9, 16, 17, 18, 19, 20, 21, 22, 23, 24, 25, 26, 27, 28, 29, 30, 31, 32, 33, 10, 11, 12, 13, 14, 15] rfl
  have hD : va_D A ((oX5 (p0a 0) p0a p0k o15 l29) ++ (oX1 (p1a 0) p1a p1k p1n o_33 p1l) ++ (oX9 (p1a 3) p1_2a p1_2k p1_2n (o59.2))) := hD.sub [0, 1, 2, 3, 4, 5, 6, 7, 8, 9, 16, 17, 18, 19, 20, 21, 22, 23, 24, 25, 26, 27, 28, 29, 30, 31, 32, 33, 10, 11, 12, 13, 14, 15] (by decide) rfl
  have hK : va_K (dC, dI) cls ((tX5 p0k) ++ (tX1 p1k) ++ (tX9 p1_2k)) s := hK.sub [0, 1, 2, 3, 4, 5, 6, 7, 8, 14, 15, 16, 17, 18, 19, 20, 21, 22, 23, 24, 25, 26, 27, 28, 29, 30, 9, 10, 11, 12, 13] rfl
  have ho9 : (o15, l29, o_33, (o59.2)) = o := Option.some.inj hrun
  have hP9 : va_P (dC, dI) cls ((oX5 (p0a 0) p0a p0k (o.1) (o.2.1)) ++ (oX1 (p1a 0) p1a p1k p1n (o.2.2.1) p1l) ++ (oX9 (p1a 3) p1_2a p1_2k p1_2n (o.2.2.2))) H := by first | exact hP | (rw [← ho9]; exact hP)
  have hD9 : va_D A ((oX5 (p0a 0) p0a p0k (o.1) (o.2.1)) ++ (oX1 (p1a 0) p1a p1k p1n (o.2.2.1) p1l) ++ (oX9 (p1a 3) p1_2a p1_2k p1_2n (o.2.2.2))) := by first | exact hD | (rw [← ho9]; exact hD)
  subst hQ
  exact W.vret hx hb hr (fun t ht hW => ⟨⟨(), rfl, trivial, ⟨by rw [ht]; exact hP9, va_K.moved hW.alike hK, hD9⟩⟩, hS.F ht⟩) hS.2.2 dX5_mergeInto_178
